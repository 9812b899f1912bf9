/-! a patch is made: both copies -/
section CPY3
variable {h h' h0 h1 hX hY t t' tb : hS} {K : Nat → Int → Prop} {a k p P m i : Nat} {r : Int → Nat} {w : Int}
theorem fw_w {k f : Int} (a : fw t t') (hw : w = 0 ∨ w = 2) (k0 : 0 ≤ k) (k1 : k < 12) (f0 : 0 ≤ f) (f1 : f < 64) : wg t' w k f = wg t w k f := by
  unfold wg
  exact a.2 400 _ (by omega)
theorem fw_m (a : fw t t') (hw : w = 0 ∨ w = 2) : wm t' w = wm t w := by
  unfold wm
  exact a.2 400 _ (by omega)
theorem fw_tr {t1 : hS} (a : fw t t1) (b : fw t1 t') : fw t t' := fp_tr a b
theorem c274_35 {k : Int} (k0 : 0 ≤ k) (k1 : k < 12) : ∀ (D i N : Nat) (h : hS), i + D = 8 → D < N → ∃ h', lp (fun s => c274_b35 k s.1 s.2) N ((i : Int), h) = some h' ∧ fw h h' ∧ wm h' 1 = wm h 1 ∧ ∀ u g : Int, 0 ≤ u → u < 12 → 0 ≤ g → g < 64 → wg h' 1 u g = if u = k ∧ 22 + (i : Int) ≤ g ∧ g < 30 then wg h 1 k (g - 16) else wg h 1 u g
  | 0, i, N, h, hi, hN => by
    obtain ⟨N, rfl⟩ : ∃ n, N = n + 1 := ⟨N - 1, by omega⟩
    obtain rfl : i = 8 := by omega
    refine ⟨h, lp_d ?_, fp_rf, rfl, fun u g _ _ _ _ => by rw [if_neg (by omega)]⟩
    show c274_b35 k ((8 : Nat) : Int) h = _
    unfold c274_b35
    rw [if_pos (by omega)]
  | D + 1, i, N, h, hi, hN => by
    obtain ⟨N, rfl⟩ : ∃ n, N = n + 1 := ⟨N - 1, by omega⟩
    obtain ⟨h1, e1⟩ : ∃ h1, h1 = wset h 1 k (22 + (i : Int)) (wg h 1 k (6 + (i : Int))) := ⟨_, rfl⟩
    obtain ⟨h', g1, g2, g3, g4⟩ := c274_35 k0 k1 D (i + 1) N h1 (by omega) (by omega)
    have w1 : ∀ u g : Int, 0 ≤ u → u < 12 → 0 ≤ g → g < 64 → wg h1 1 u g = if u = k ∧ g = 22 + (i : Int) then wg h 1 k (6 + (i : Int)) else wg h 1 u g := fun u g u0 u1 g0 g1 => by rw [e1, wgs k0 k1 (by omega) (by omega) u0 u1 g0 g1]
    refine ⟨h', (lp_n (s' := (((i + 1 : Nat) : Int), h1)) ?_).trans g1, fp_tr (by rw [e1]; exact fw_set k0 k1 (by omega) (by omega)) g2, by rw [g3, e1, wms k0 k1 (by omega) (by omega)], fun u g u0 u1 g0 g1' => ?_⟩
    · show c274_b35 k (i : Int) h = _
      unfold c274_b35
      rw [if_neg (by omega), wadd_e (by omega) (by omega), wadd_e (by omega) (by omega)]
      refine bnd (c199_e (by omega) (by omega) k0 k1 (by omega) (by omega)) ?_
      refine bnd (c201_e (by omega) (by omega) k0 k1 (by omega) (by omega)) ?_
      rw [wadd_n (by omega), ← e1]
    · rw [g4 u g u0 u1 g0 g1']
      by_cases c : u = k ∧ 22 + ((i + 1 : Nat) : Int) ≤ g ∧ g < 30
      · rw [if_pos c, if_pos (by omega), w1 k (g - 16) k0 k1 (by omega) (by omega), if_neg (by omega)]
      · rw [if_neg c, w1 u g u0 u1 g0 g1']
        by_cases c2 : u = k ∧ g = 22 + (i : Int)
        · rw [if_pos c2, if_pos (by omega), show g - 16 = 6 + (i : Int) by omega]
        · rw [if_neg c2, if_neg (by omega)]
theorem c274_8 {m : Nat} (hm : m ≤ 12) : ∀ (D i N : Nat) (h : hS), i + D = m → D < N → wm h 1 = (m : Int) → ∃ h', lp (fun s => c274_b8 s.1 s.2) N ((i : Int), h) = some h' ∧ fw h h' ∧ wm h' 1 = (m : Int) ∧ ∀ u g : Int, 0 ≤ u → u < 12 → 0 ≤ g → g < 64 → wg h' 1 u g = if (i : Int) ≤ u ∧ u < m then (if g = 3 then 0 else if g = 4 then u else if 22 ≤ g ∧ g < 30 then wg h 1 u (g - 16) else wg h 1 u g) else wg h 1 u g
  | 0, i, N, h, hi, hN, wm1 => by
    obtain ⟨N, rfl⟩ : ∃ n, N = n + 1 := ⟨N - 1, by omega⟩
    obtain rfl : i = m := by omega
    refine ⟨h, lp_d ?_, fp_rf, wm1, fun u g _ _ _ _ => by rw [if_neg (by omega)]⟩
    show c274_b8 (i : Int) h = _
    unfold c274_b8
    refine bnd (c198_e (by omega) (by omega)) ?_
    rw [wm1, if_pos (by omega)]
  | D + 1, i, N, h, hi, hN, wm1 => by
    obtain ⟨N, rfl⟩ : ∃ n, N = n + 1 := ⟨N - 1, by omega⟩
    have k0 : (0 : Int) ≤ (i : Int) := by omega
    have k1 : (i : Int) < 12 := by omega
    obtain ⟨h1, e1⟩ : ∃ h1, h1 = wset h 1 (i : Int) 3 0 := ⟨_, rfl⟩
    obtain ⟨h2, e2⟩ : ∃ h2, h2 = wset h1 1 (i : Int) 4 (i : Int) := ⟨_, rfl⟩
    have w1 : ∀ u g : Int, 0 ≤ u → u < 12 → 0 ≤ g → g < 64 → wg h1 1 u g = if u = (i : Int) ∧ g = 3 then 0 else wg h 1 u g := fun u g u0 u1 g0 g1 => by rw [e1, wgs k0 k1 (by omega) (by omega) u0 u1 g0 g1]
    have w2 : ∀ u g : Int, 0 ≤ u → u < 12 → 0 ≤ g → g < 64 → wg h2 1 u g = if u = (i : Int) ∧ g = 4 then (i : Int) else wg h1 1 u g := fun u g u0 u1 g0 g1 => by rw [e2, wgs k0 k1 (by omega) (by omega) u0 u1 g0 g1]
    obtain ⟨h3, a1, a2, a3, a4⟩ := c274_35 k0 k1 8 0 hF0 h2 (by omega) (hF0_lt (by omega))
    have fa1 : fw h h1 := by rw [e1]; exact fw_set k0 k1 (by omega) (by omega)
    have fa2 : fw h1 h2 := by rw [e2]; exact fw_set k0 k1 (by omega) (by omega)
    have f2 : fw h h2 := fp_tr fa1 fa2
    have m3 : wm h3 1 = (m : Int) := by rw [a3, e2, wms k0 k1 (by omega) (by omega), e1, wms k0 k1 (by omega) (by omega)]; exact wm1
    obtain ⟨h', g1, g2, g3, g4⟩ := c274_8 hm D (i + 1) N h3 (by omega) (by omega) m3
    refine ⟨h', (lp_n (s' := (((i + 1 : Nat) : Int), h3)) ?_).trans g1, fp_tr f2 (fp_tr a2 g2), g3, fun u g u0 u1 g0 g1' => ?_⟩
    · show c274_b8 (i : Int) h = _
      unfold c274_b8
      refine bnd (c198_e (by omega) (by omega)) ?_
      rw [wm1, if_neg (by omega)]
      refine bnd ((c201_e (by omega) (by omega) k0 k1 (by omega) (by omega)).trans (congrArg some e1.symm)) ?_
      refine bnd ((c201_e (by omega) (by omega) k0 k1 (by omega) (by omega)).trans (congrArg some e2.symm)) ?_
      refine bnd a1 ?_
      rw [wadd_n (by omega)]
    · have z3 : ∀ g : Int, 0 ≤ g → g < 64 → wg h3 1 u g = if u = (i : Int) then (if g = 3 then 0 else if g = 4 then (i : Int) else if 22 ≤ g ∧ g < 30 then wg h 1 u (g - 16) else wg h 1 u g) else wg h 1 u g := fun g g0 g1 => by
        rw [a4 u g u0 u1 g0 g1]
        by_cases c : u = (i : Int)
        · subst c
          rw [if_pos rfl]
          by_cases c2 : 22 ≤ g ∧ g < 30
          · rw [if_pos ⟨rfl, by omega, by omega⟩, w2 _ _ k0 k1 (by omega) (by omega), if_neg (by omega), w1 _ _ k0 k1 (by omega) (by omega), if_neg (by omega), if_neg (by omega), if_neg (by omega), if_pos c2]
          · rw [if_neg (by omega), w2 _ _ k0 k1 g0 g1, w1 _ _ k0 k1 g0 g1]
            by_cases c3 : g = 3
            · rw [if_neg (by omega), if_pos ⟨rfl, c3⟩, if_pos c3]
            · by_cases c4 : g = 4
              · rw [if_pos ⟨rfl, c4⟩, if_neg c3, if_pos c4]
              · rw [if_neg (by omega), if_neg (by omega), if_neg c3, if_neg c4, if_neg c2]
        · rw [if_neg (by omega), if_neg c, w2 u g u0 u1 g0 g1, if_neg (by omega), w1 u g u0 u1 g0 g1, if_neg (by omega)]
      rw [g4 u g u0 u1 g0 g1']
      by_cases c : u = (i : Int)
      · rw [if_neg (by omega), z3 g g0 g1', if_pos c, if_pos (show (i : Int) ≤ u ∧ u < m by omega), c]
      · by_cases c2 : ((i + 1 : Nat) : Int) ≤ u ∧ u < m
        · rw [if_pos c2, if_pos (show (i : Int) ≤ u ∧ u < m by omega), z3 g g0 g1', if_neg c]
          by_cases c3 : 22 ≤ g ∧ g < 30
          · rw [z3 (g - 16) (by omega) (by omega), if_neg c]
          · rw [if_neg c3, if_neg c3]
        · rw [if_neg c2, z3 g g0 g1', if_neg c, if_neg (by omega)]
/-- world 1 as the patch begins -/
def RS1 (t tb : hS) (m : Nat) : Prop := fw t tb ∧ wm tb 1 = (m : Int) ∧ ∀ u g : Int, 0 ≤ u → u < m → 0 ≤ g → g < 64 → wg tb 1 u g = if g = 3 then 0 else if g = 4 then u else if 22 ≤ g ∧ g < 30 then wg t 0 u (g - 16) else wg t 0 u g
theorem RS_e {m : Nat} (hm : m ≤ 12) (em : wm t 0 = (m : Int)) : ∃ ta tb, c226 0 1 t = some ta ∧ lp (fun s => c274_b8 s.1 s.2) hF0 (0, ta) = some tb ∧ RS1 t tb m := by
  obtain ⟨ta, a1, a2, a3, a4⟩ := c226_e (w1 := 0) (w2 := 1) (h := t) (by omega) (by omega) (by omega)
  obtain ⟨tb, b1, b2, b3, b4⟩ := c274_8 hm m 0 hF0 ta (by omega) (hF0_lt (by omega)) (a3.trans em)
  refine ⟨ta, tb, a1, b1, fp_tr ⟨a2.1, fun x j z => a2.2 x j (by omega)⟩ b2, b3, fun u g u0 u1 g0 g1 => ?_⟩
  have a4' : ∀ g : Int, 0 ≤ g → g < 64 → wg ta 1 u g = wg t 0 u g := fun g g0 g1 => a4 u g u0 (by omega) g0 g1
  rw [b4 u g u0 (by omega) g0 g1, if_pos (by omega), a4' g g0 g1]
  by_cases c : 22 ≤ g ∧ g < 30
  · rw [if_pos c, if_pos c, a4' _ (by omega) (by omega)]
  · rw [if_neg c, if_neg c]
theorem RS_x {m : Nat} (R : RS1 t tb m) : agx 0 1 m t tb := fun k f k0 k1 f0 f1 hf => by
  rw [R.2.2 k f k0 k1 f0 f1, if_neg (by omega), if_neg (by omega), if_neg (by omega)]
/-- the copied pond lies beside world 1 -/
theorem c140_e (Pw : PW h t K p 0 m r) (hK : ∀ x v, K x v → x < hN h ∧ hT h x = 1) (hP : hN h = P) (hp : p + 1 < P) (h448 : 448 ≤ P) (R : RS1 t tb m) : ∃ h', c140 p h = some (P, h') ∧ BW h' tb K P m r ∧ TZ h' P m ∧ (∀ x, x < P → sm h h' x) ∧ hN h' = P + 2 + 13 * m ∧ hM h' = hM h + 14 + 267 * m := by
  obtain ⟨W, ⟨p1, p2, p3, p4, p5, p6, p7⟩, P3, P4⟩ := id Pw
  have hm := W.2.1
  obtain ⟨hA, a1, ⟨a2, a3⟩, a4, a5, a6, a7, a8, a9⟩ := c18_e (hc := h) (by omega)
  rw [hP] at a1 a2 a4 a5 a6 a7 a8 a9
  have spA := a4.2 p (by omega)
  obtain ⟨hB, eB⟩ : ∃ hB, hB = sI hA P 1 (m : Int) := ⟨_, rfl⟩
  have sB : ∀ x, x < P → sm h hB x := fun x hx => sm_tr (a4.2 x hx) (by rw [eB]; exact ⟨fun j => by rw [hI_sI, if_neg (by omega)], fun _ => rfl, rfl, rfl⟩)
  have C0 : CPs h hB p P m 0 := ⟨⟨by rw [eB]; exact a2, by rw [eB]; show hM hA = _; omega⟩, sB, ⟨by rw [eB]; exact a5, by rw [eB]; exact a7, by rw [eB]; exact a8, by rw [eB]; exact a9, by rw [eB, hI_sI, if_pos ⟨rfl, rfl⟩]⟩, fun a ha => by omega⟩
  obtain ⟨hC, c1, c2⟩ := c140_1 Pw hK hP hp h448 m 0 hF0 hB (by omega) (hF0_lt (by omega)) C0
  obtain ⟨h', d1, d2, d3⟩ := c140_2 Pw hP hp h448 m 0 hF0 hC (by omega) (hF0_lt (by omega)) c2 (fun a ha => by omega)
  obtain ⟨⟨e1, e2⟩, e3, ⟨e4, e5, e6, e7, e8⟩, e9⟩ := d2
  have kN : ∀ j : Int, 0 ≤ j → j < m → kd h' P j = P + 2 + 13 * j.toNat := fun j j0 j1 => by
    rw [kd_n j0]; exact (e9 j.toNat (by omega)).1
  have ag := RS_x R
  have W1 : WF tb 1 m r := WF_x ag W (by rw [R.2.1, W.1])
  refine ⟨h', ?_, ⟨⟨W1, ⟨by omega, by omega, e4, e5, e6, e7, e8⟩, fun j j0 j1 => ?_, fun i j i0 i1 j0 j1 => ?_⟩, fun j j0 j1 => ?_, fun i j i0 ij j1 => ?_, fun x v hx => ?_, fun j j0 j1 => ?_⟩, fun j j0 j1 n hn => ?_, e3, e1, e2⟩
  · unfold c140
    rw [hP]
    refine bnd rfl ?_
    refine bnd (k8_s (by omega)) ?_
    refine bnd a1 ?_
    refine bnd (gI_s (by rw [spA.2.2.1]; exact p3)) ?_
    rw [spA.1, p7]
    refine bnd ((pI_s a5).trans (congrArg some eB.symm)) ?_
    refine bnd c1 ?_
    refine bnd d1 rfl
  · obtain ⟨J, rfl⟩ : ∃ J : Nat, j = (J : Int) := ⟨j.toNat, by omega⟩
    obtain ⟨Q, ⟨k1, k2, k3⟩, k4, k5, k6, k7, k8⟩ := P3 (J : Int) j0 j1
    obtain ⟨x1, x2⟩ := e9 J (by omega)
    obtain ⟨y1, ⟨y2, y3, y4, y5, y6, y7⟩, y8, y9, y10, y11⟩ := x2
    obtain ⟨-, -, w3, w4, w5⟩ := W.2.2 (J : Int) j0 j1
    have z : ∀ f : Int, 0 ≤ f → f < 64 → ¬ (f = 3 ∨ f = 4 ∨ (22 ≤ f ∧ f < 30)) → wg tb 1 (J : Int) f = wg t 0 (J : Int) f := fun f f0 f1 hf => by
      rw [R.2.2 _ f j0 j1 f0 f1, if_neg (by omega), if_neg (by omega), if_neg (by omega)]
    unfold KR
    rw [kN _ j0 j1, Int.toNat_natCast, z 0 (by omega) (by omega) (by omega), z 1 (by omega) (by omega) (by omega), z 2 (by omega) (by omega) (by omega), z 5 (by omega) (by omega) (by omega), z 30 (by omega) (by omega) (by omega), z 39 (by omega) (by omega) (by omega)]
    refine ⟨y1, ⟨by rw [y2]; exact k1, k2, k3⟩, d3 J (by omega), by rw [y3]; exact k5, ⟨by rw [y5]; exact k6.1, fun i hi => ?_⟩, ⟨by rw [y6]; exact k7.1, fun i hi => ?_⟩, ⟨by rw [y7]; exact k8.1, fun i hi => ?_⟩⟩
    · rw [z _ (by omega) (by omega) (by omega), z _ (by omega) (by omega) (by omega)]
      obtain ⟨u1, u2, -⟩ := y8 i (by rw [k6.1]; exact hi)
      rw [u1, u2]
      exact k6.2 i hi
    · rw [z _ (by omega) (by omega) (by omega), z _ (by omega) (by omega) (by omega)]
      obtain ⟨u1, u2⟩ := y9 i (by rw [k7.1]; exact hi)
      rw [u1, u2]
      exact k7.2 i hi
    · rw [z _ (by omega) (by omega) (by omega), z _ (by omega) (by omega) (by omega)]
      obtain ⟨u1, u2⟩ := y10 i (by rw [k8.1]; exact hi)
      rw [u1, u2]
      exact k8.2 i hi
  · have z : ∀ j : Int, 0 ≤ j → j < m → wg tb 1 j 0 = wg t 0 j 0 := fun j j0 j1 => ag j 0 j0 j1 (by omega) (by omega) (by omega)
    rw [z i i0 i1, z j j0 j1]
    exact P4 i j i0 i1 j0 j1
  · rw [kN j j0 j1]; omega
  · rw [kN i i0 (by omega), kN j (by omega) j1]; omega
  · obtain ⟨x1, -⟩ := hK x v hx
    refine ⟨by omega, .inl (by omega), fun j j0 j1 => .inl ?_⟩
    rw [kN j j0 j1]; omega
  · obtain ⟨J, rfl⟩ : ∃ J : Nat, j = (J : Int) := ⟨j.toNat, by omega⟩
    obtain ⟨Q, -, -, -, k6, -⟩ := P3 (J : Int) j0 j1
    obtain ⟨-, -, w3, -, -⟩ := W.2.2 (J : Int) j0 j1
    obtain ⟨x1, x2⟩ := e9 J (by omega)
    obtain ⟨y1, ⟨y2, y3, y4, y5, y6, y7⟩, y8, -⟩ := x2
    unfold XR
    rw [kN _ j0 j1, Int.toNat_natCast, R.2.2 _ 3 j0 j1 (by omega) (by omega), if_pos rfl, R.2.2 _ 5 j0 j1 (by omega) (by omega), if_neg (by omega), if_neg (by omega), if_neg (by omega)]
    refine ⟨y4, fun i hi => ?_⟩
    rw [R.2.2 _ _ j0 j1 (by omega) (by omega), if_neg (by omega), if_neg (by omega), if_pos (by omega), (y8 i (by rw [k6.1]; exact hi)).2.2, (k6.2 i hi).1, show 22 + (i : Int) - 16 = 6 + (i : Int) by omega]
  · rw [kN j j0 j1]
    exact (e9 j.toNat (by omega)).2.2.2.2.2.2 n
end CPY3
