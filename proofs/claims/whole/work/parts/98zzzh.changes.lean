/-! a patch is made: all its changes -/
section CHA
variable {h h' h0 h1 t t' t0 t1 : hS} {k m m0 P x cd tx i N0 lo : Nat} {w G j n v ch s o c kn u why : Int} {r r0 : Int → Nat} {K : Nat → Int → Prop} {us zs : List Nat}
theorem MES_n {N : Nat → Nat → Int} : ∀ {L ys : List Nat}, MES N h N0 lo c kn L ys → L.length = ys.length ∧ ∀ y ∈ ys, hI h y 1 = c
  | [], ys, M => by
    have M : ys = [] := M
    subst M
    exact ⟨rfl, fun y hy => absurd hy List.not_mem_nil⟩
  | i :: L, ys, M => by
    obtain ⟨y, zs, rfl, M1, M2⟩ : ∃ (y : Nat) (t : List Nat), ys = y :: t ∧ MEm N h N0 lo c kn i y ∧ MES N h N0 lo c kn L t := M
    obtain ⟨a, b⟩ := MES_n M2
    refine ⟨by show L.length + 1 = zs.length + 1; rw [a], fun z hz => ?_⟩
    rcases List.mem_cons.mp hz with e | e
    · obtain ⟨s, o, cd, S, -⟩ := M1
      rw [e]; exact S.2.2.1
    · exact b z e
/-- the steps of a told change -/
theorem GR_c {L ys : List Nat} (B : B1 h t K P m r m0 G) (UT : UTq t m0 m) (W00 : WF t0 0 m0 r0) (ht : tx ≤ 6) (hi : i < 1200) (Sm : ∀ x, x < P → sm h0 h x) (f : fw t0 t) (hK : ∀ x v, K x v → x < P ∧ hT h0 x = 1) (e : ntx t0 tx i 0 = 41) (S : SPc h0 x 216 ch (ntx t0 tx i 1) (-1) (-1) 0) (hl : LK (ntx t0 tx) L (ntx t0 tx i 3)) (hL : ∀ j ∈ L, j < 1200) (M : MES (ntx t0 tx) h0 N0 lo ch (ntx t0 tx i 1) L ys) (l6 : ys.length ≤ 600) (HY : ∀ y ∈ x :: ys, HKs K h0 t0 P tx N0 y) : GRo K P m m0 G ch h0 h t (x :: ys) (c275 (gn tx i) ch t) := by
  have eN : ∀ a b, ntx t tx a b = ntx t0 tx a b := fun a b => ntx_f f
  have n0 := c256_e (t := t) (f := 0) ht hi (by omega)
  have n1 := c256_e (t := t) (f := 1) ht hi (by omega)
  rw [eN] at n0 n1
  obtain ⟨B0, Tz, Os⟩ := id B
  have W := B0.1.1
  have hm := W.2.1
  have W0 := WF0_f W00 f
  have xP := (HY x List.mem_cons_self).1
  have sx := Sm x xP
  generalize hNm : ntx t0 tx i 1 = N at *
  have p3 := B0.1.2.1.2.2.1
  by_cases z : nmx t m N = -1
  · refine GRo_no p3 hm (why := 1) (by omega) (c147_n B0 (SPc_s S sx) (by omega) z) fp_rf ?_
    unfold c275
    refine bnd n0 ?_
    refine bnd n1 ?_
    refine bnd (c197_w W N) ?_
    rw [if_neg (by omega), if_pos z]
    rfl
  · obtain ⟨j0, j1, jn⟩ : 0 ≤ nmx t m N ∧ nmx t m N < m ∧ wg t 1 (nmx t m N) 0 = N := by
      rcases nmx_b (hr := t) (m := m) N with y | y
      · exact absurd y z
      · exact y
    have e275 : c275 (gn tx i) ch t = (c201 1 (nmx t m N) 3 1 t).bind (fun h8 => (c257 (gn tx i) 3 h8).bind (fun v10 => (lp (fun s => eL c280 ch (nmx t m N) s.1 s.2) hF0 (v10, h8)).bind (fun r15 => xs r15 (fun x15 => some (1, x15)) (fun o15 => some o15)))) := by
      unfold c275
      refine (bnd n0 rfl).trans ?_
      refine (bnd n1 rfl).trans ?_
      refine (bnd (c197_w W N) rfl).trans ?_
      rw [if_neg (by omega), if_neg z, if_neg (by omega), if_neg (by omega)]
      congr 1
      funext h8
      rw [if_neg (by omega)]
      rfl
    rw [e275]
    generalize hj : nmx t m N = j at *
    have k8 := kd_8 B0.1 j0 j1
    obtain ⟨hT1, tT1, d1, d2, d3, d4, d5, d6, d7⟩ := toU B0 j0 j1 W0 (Os j j0 j1) rfl
    have BT := B1_up B W0 j0 j1 d3 d4 d5 d6 (fun v g v0 v1 g0 g1 hv => by rw [d7 v g v0 v1 g0 g1, if_neg (by omega)])
    have pk : P + 2 ≤ kd h P j := B0.2.1 j j0 j1
    have SmT : ∀ y, y < P → sm h hT1 y := fun y hy => d4.2.2.2.2 y (by omega)
    have e147 : c147 P x h = some (0, hT1) := by
      obtain ⟨q22, s0, s1, s2, s3, s4, s5⟩ := SPc_s S sx
      unfold c147
      refine bnd (gI_s q22) ?_
      rw [s0, if_neg (by omega)]
      refine bnd (gI_s q22) ?_
      rw [s2]
      refine bnd (kT_s p3) ?_
      refine bnd (nmx_k B0.1 N) ?_
      rw [hj]
      refine bnd (hnul_8 (by omega)) ?_
      rw [if_neg (by decide)]
      refine bnd (gI_s q22) ?_
      rw [s0, if_neg (by omega), if_pos rfl]
      exact bnd d1 rfl
    have hl3 := LK_f hl hL
    obtain ⟨a, -⟩ := MES_n M
    obtain ⟨why, y, h', t', b1, b2, b3, b4, b5⟩ := EDL (ch := ch) (F := c280) (Q := False) (.inl rfl) ht W00 hK j0 j1 L ys (ntx t0 tx i 3) hF0 hT1 tT1 (by rw [a]; exact hF0_lt (by omega)) hl hL (fun e => e.elim) M (fun y hy => HY y (List.mem_cons_of_mem _ hy)) BT (fun y hy => sm_tr (Sm y hy) (SmT y hy)) (fp_tr f d5) (by rw [d7 j 0 j0 (by omega) (by omega) (by omega), if_neg (by omega)]; exact jn) (by rw [d7 j 3 j0 (by omega) (by omega) (by omega), if_pos ⟨rfl, rfl⟩]) (UT_e UT W W0 d5 (j := j) (by rw [d7 j 3 j0 (by omega) (by omega) (by omega), if_pos ⟨rfl, rfl⟩]) (fun v g v0 v1 g0 g1 hv => by rw [d7 v g v0 v1 g0 (by omega), if_neg (by omega)]))
    refine ⟨why, y, h', t', m, 0, 0, tkR_1 e147 SmT BT.1.1.2.1.2.2.1 b1, ⟨by rw [b2.1, d4.1]; rfl, by rw [b2.2, d4.2.1]; rfl, rfl, hm, Nat.zero_le _, Nat.zero_le _⟩, fun x hx => sm_tr (SmT x hx) (b3 x hx), fp_tr d5 b4, ?_⟩
    have c257' : c257 (gn tx i) 3 tT1 = some (gf tx (ntx t0 tx i 3)) := c257_f (s := 3) ht hi (by omega) (by rw [ntx_f d5, eN]) hl3
    rcases b5 with ⟨c1, c2, c3⟩ | ⟨c1, c2, c3⟩
    · refine .inl ⟨c1, ?_, c3.2, r, c3.1⟩
      refine bnd d2 ?_
      refine bnd c257' ?_
      exact bnd c2 rfl
    · refine .inr ⟨c1, List.mem_cons_of_mem _ c2, ?_⟩
      refine bnd d2 ?_
      refine bnd c257' ?_
      exact bnd c3 rfl
/-- the steps of a told kind -/
theorem GR_k {L ys : List Nat} (B : B1 h t K P m r m0 G) (UT : UTq t m0 m) (W00 : WF t0 0 m0 r0) (h448 : 448 ≤ hN h) (hPn : P ≤ hN h) (G0 : 0 ≤ G) (ht : tx ≤ 6) (hi : i < 1200) (Sm : ∀ x, x < P → sm h0 h x) (f : fw t0 t) (hK : ∀ x v, K x v → x < P ∧ hT h0 x = 1) (e : ntx t0 tx i 0 = 40) (nm : 0 ≤ ntx t0 tx i 1 ∧ ntx t0 tx i 1 < 40) (no : nmo (ntx t0 tx i 2)) (S : SPc h0 x 200 ch (ntx t0 tx i 1) (-1) (ntx t0 tx i 2) 0) (hl : LK (ntx t0 tx) L (ntx t0 tx i 3)) (hL : ∀ j ∈ L, j < 1200 ∧ ntx t0 tx j 0 ≤ 32) (M : MES (ntx t0 tx) h0 N0 lo ch (ntx t0 tx i 1) L ys) (l6 : ys.length ≤ 600) (HY : ∀ y ∈ x :: ys, HKs K h0 t0 P tx N0 y) : GRo K P m m0 G ch h0 h t (x :: ys) (c275 (gn tx i) ch t) := by
  have eN : ∀ a b, ntx t tx a b = ntx t0 tx a b := fun a b => ntx_f f
  have n0 := c256_e (t := t) (f := 0) ht hi (by omega)
  have n1 := c256_e (t := t) (f := 1) ht hi (by omega)
  have n2 := c256_e (t := t) (f := 2) ht hi (by omega)
  rw [eN] at n0 n1 n2
  obtain ⟨B0, Tz, Os⟩ := id B
  have W := B0.1.1
  have hm := W.2.1
  have W0 := WF0_f W00 f
  have xP := (HY x List.mem_cons_self).1
  have sx := Sm x xP
  generalize hNm : ntx t0 tx i 1 = N at *
  generalize hA : ntx t0 tx i 2 = A at *
  have p3 := B0.1.2.1.2.2.1
  have p7 := B0.1.2.1.2.2.2.2.2.2
  have S' := SPc_s S sx
  have e1 := c147_k B0 S'
  obtain ⟨q22, s0, s1, s2, s3, s4, s5⟩ := id S'
  have e198 : c198 1 t = some (m : Int) := by rw [c198_e (by omega) (by omega), W.1]
  have e275 : c275 (gn tx i) ch t = if nmx t m N = -1 then (if m = 12 then some (0, rfS 7 ch (-1) t) else if A ≠ -1 ∧ nmx t m A = -1 then some (0, rfS 1 ch (-1) t) else c275_j114 (gn tx i) ch N (if A = -1 then -1 else nmx t m A) t) else some (0, rfS 2 ch (-1) t) := by
    unfold c275
    refine (bnd n0 rfl).trans ?_
    refine (bnd n1 rfl).trans ?_
    refine (bnd (c197_w W N) rfl).trans ?_
    rw [if_pos e]
    by_cases z : nmx t m N = -1
    · rw [if_pos z, if_pos z]
      refine (bnd e198 rfl).trans ?_
      by_cases z2 : m = 12
      · rw [if_pos z2, if_pos (by omega)]
        rfl
      · rw [if_neg z2, if_neg (by omega)]
        refine (bnd n2 rfl).trans ?_
        by_cases z3 : A = -1
        · rw [if_pos z3, if_neg (fun y => y.1 z3), if_pos z3]
          unfold c275_j88
          refine (bnd n2 rfl).trans ?_
          rw [if_pos z3]
        · rw [if_neg z3, if_neg z3]
          refine (bnd n2 rfl).trans ?_
          refine (bnd (c197_w W A) rfl).trans ?_
          unfold c275_j88
          refine (bnd n2 rfl).trans ?_
          rw [if_neg z3]
          by_cases z4 : nmx t m A = -1
          · rw [if_pos z4, if_pos ⟨z3, z4⟩]
            rfl
          · rw [if_neg z4, if_neg (fun y => z4 y.2)]
    · rw [if_neg z, if_neg z]
      rfl
  rw [e275]
  have e56 : c56 P x h = if nmx t m N = -1 then (if m = 12 then some (7, h) else if A ≠ -1 ∧ nmx t m A = -1 then some (1, h) else c56 P x h) else some (2, h) := by
    by_cases z : nmx t m N = -1
    · rw [if_pos z]
      by_cases z2 : m = 12
      · rw [if_pos z2]
        unfold c56
        refine bnd (gI_s q22) ?_
        refine bnd (kT_s p3) ?_
        rw [s2]
        refine bnd (nmx_k B0.1 N) ?_
        rw [z, kd_m]
        refine bnd hnul_0 ?_
        rw [if_pos rfl]
        refine bnd (gI_s p3) ?_
        rw [p7, if_neg (by omega)]
      · rw [if_neg z2]
        by_cases z3 : A ≠ -1 ∧ nmx t m A = -1
        · rw [if_pos z3]
          unfold c56
          refine bnd (gI_s q22) ?_
          refine bnd (kT_s p3) ?_
          rw [s2]
          refine bnd (nmx_k B0.1 N) ?_
          rw [z, kd_m]
          refine bnd hnul_0 ?_
          rw [if_pos rfl]
          refine bnd (gI_s p3) ?_
          rw [p7, if_pos (by omega)]
          refine bnd (gI_s q22) ?_
          refine bnd (kT_s p3) ?_
          rw [s4]
          refine bnd (nmx_k B0.1 A) ?_
          refine bnd (gI_s q22) ?_
          rw [s4, if_neg z3.1, z3.2, kd_m]
          refine bnd hnul_0 ?_
          rw [if_pos rfl]
        · rw [if_neg z3]
    · rw [if_neg z]
      obtain ⟨j0, j1, jn⟩ : 0 ≤ nmx t m N ∧ nmx t m N < m ∧ wg t 1 (nmx t m N) 0 = N := by
        rcases nmx_b (hr := t) (m := m) N with y | y
        · exact absurd y z
        · exact y
      have k8 := kd_8 B0.1 j0 j1
      unfold c56
      refine bnd (gI_s q22) ?_
      refine bnd (kT_s p3) ?_
      rw [s2]
      refine bnd (nmx_k B0.1 N) ?_
      refine bnd (hnul_8 (by omega)) ?_
      rw [if_neg (by decide)]
  by_cases z : nmx t m N = -1
  · rw [if_pos z] at e56
    rw [if_pos z]
    by_cases z2 : m = 12
    · rw [if_pos z2] at e56
      rw [if_pos z2]
      exact GRo_no p3 hm (why := 7) (by omega) (e1.trans e56) fp_rf rfl
    · rw [if_neg z2] at e56
      rw [if_neg z2]
      by_cases z3 : A ≠ -1 ∧ nmx t m A = -1
      · rw [if_pos z3] at e56
        rw [if_pos z3]
        exact GRo_no p3 hm (why := 1) (by omega) (e1.trans e56) fp_rf rfl
      · rw [if_neg z3]
        clear e56 e275
        have hA' : A = -1 ∨ nmx t m A ≠ -1 := by
          by_cases y : A = -1
          · exact .inl y
          · exact .inr (fun y2 => z3 ⟨y, y2⟩)
        obtain ⟨u, hu⟩ : ∃ u, u = if A = -1 then -1 else nmx t m A := ⟨_, rfl⟩
        have hu2 : nmx t m A = u := by
          rw [hu]
          by_cases y : A = -1
          · rw [if_pos y, y, nmx_m B0.1]
          · rw [if_neg y]
        have hu3 : u = -1 ∨ (0 ≤ u ∧ u < m) := by
          rw [← hu2]
          rcases nmx_b (hr := t) (m := m) A with y | y
          · exact .inl y
          · exact .inr ⟨y.1, y.2.1⟩
        have m12 : m < 12 := by omega
        obtain ⟨h1, c1, NN⟩ := c56_e (s := x) (n := N) (a := A) B0.1 h448 m12 q22 (by omega) s2 s4 z hA'
        rw [hu2] at NN
        obtain ⟨ta, d1, d2, d3, d4⟩ := c200_e (n := N) W.1 m12
        obtain ⟨tb, etb⟩ : ∃ tb, tb = wset ta 1 (m : Int) 1 u := ⟨_, rfl⟩
        obtain ⟨tc, etc⟩ : ∃ tc, tc = wset tb 1 (m : Int) 4 (nm0 t m0 N) := ⟨_, rfl⟩
        have wb : ∀ v g : Int, 0 ≤ v → v < 12 → 0 ≤ g → g < 64 → wg tb 1 v g = if v = (m : Int) ∧ g = 1 then u else wg ta 1 v g := fun v g v0 v1 g0 g1 => by rw [etb, wgs (by omega) (by omega) (by omega) (by omega) v0 v1 g0 g1]
        have wc : ∀ v g : Int, 0 ≤ v → v < 12 → 0 ≤ g → g < 64 → wg tc 1 v g = if v = (m : Int) ∧ g = 4 then nm0 t m0 N else wg tb 1 v g := fun v g v0 v1 g0 g1 => by rw [etc, wgs (by omega) (by omega) (by omega) (by omega) v0 v1 g0 g1]
        have fb : fw t tb := fp_tr d2 (by rw [etb]; exact fw_set (by omega) (by omega) (by omega) (by omega))
        have fc : fw t tc := fp_tr fb (by rw [etc]; exact fw_set (by omega) (by omega) (by omega) (by omega))
        have mc : wm tc 1 = ((m + 1 : Nat) : Int) := by rw [etc, wms (by omega) (by omega) (by omega) (by omega), etb, wms (by omega) (by omega) (by omega) (by omega)]; exact d3
        have wo : ∀ v g : Int, 0 ≤ v → v < m → 0 ≤ g → g < 64 → wg tc 1 v g = wg t 1 v g := fun v g v0 v1 g0 g1 => by rw [wc v g v0 (by omega) g0 g1, if_neg (by omega), wb v g v0 (by omega) g0 g1, if_neg (by omega), d4 v g v0 (by omega) g0 g1, if_neg (by omega)]
        have wn : ∀ g : Int, 0 ≤ g → g < 64 → wg tc 1 (m : Int) g = if g = 4 then nm0 t m0 N else if g = 1 then u else if g = 0 then N else if g = 3 then 1 else 0 := fun g g0 g1 => by
          rw [wc _ g (by omega) (by omega) g0 g1, wb _ g (by omega) (by omega) g0 g1, d4 _ g (by omega) (by omega) g0 g1, if_pos rfl]
          by_cases y4 : g = 4
          · rw [if_pos ⟨rfl, y4⟩, if_pos y4]
          · rw [if_neg (fun q => y4 q.2)]
            by_cases y1 : g = 1
            · rw [if_pos ⟨rfl, y1⟩, if_neg y4, if_pos y1]
            · rw [if_neg (fun q => y1 q.2)]
              simp only [if_neg y4, if_neg y1]
        obtain ⟨r', hr'⟩ := RKx (m := m + 1) (by omega) (fun v => wg tc 1 v 1) (fun v => if v = (m : Int) then 100 else r v) (fun v v0 v1 => by
          show wg tc 1 v 1 = -1 ∨ (0 ≤ wg tc 1 v 1 ∧ wg tc 1 v 1 < ((m + 1 : Nat) : Int) ∧ (if wg tc 1 v 1 = (m : Int) then 100 else r (wg tc 1 v 1)) < (if v = (m : Int) then 100 else r v))
          by_cases y : v = (m : Int)
          · rw [y, wn 1 (by omega) (by omega), if_neg (by omega), if_pos rfl]
            rcases hu3 with q | ⟨q0, q1⟩
            · exact .inl q
            · have := (W.2.2 u q0 q1).1
              exact .inr ⟨q0, by omega, by rw [if_neg (by omega), if_pos rfl]; omega⟩
          · rw [wo v 1 v0 (by omega) (by omega) (by omega)]
            rcases WF_ok W v ⟨v0, by omega⟩ with q | ⟨⟨q0, q1⟩, q2⟩
            · exact .inl q
            · exact .inr ⟨q0, by omega, by rw [if_neg (by omega), if_neg y]; exact q2⟩)
        have BN := BW_k (r' := r') (hr' := tc) B0 h448 m12 NN hu3 nm z mc (fun v g v0 v1 g0 g1 => wo v g v0 v1 g0 g1) (by rw [wn 0 (by omega) (by omega), if_neg (by omega), if_neg (by omega), if_pos rfl]) (by rw [wn 1 (by omega) (by omega), if_neg (by omega), if_pos rfl]) (by rw [wn 2 (by omega) (by omega), if_neg (by omega), if_neg (by omega), if_neg (by omega), if_neg (by omega)]) (by rw [wn 3 (by omega) (by omega), if_neg (by omega), if_neg (by omega), if_neg (by omega), if_pos rfl]) (by rw [wn 5 (by omega) (by omega), if_neg (by omega), if_neg (by omega), if_neg (by omega), if_neg (by omega)]) (by rw [wn 30 (by omega) (by omega), if_neg (by omega), if_neg (by omega), if_neg (by omega), if_neg (by omega)]) (by rw [wn 39 (by omega) (by omega), if_neg (by omega), if_neg (by omega), if_neg (by omega), if_neg (by omega)]) (fun v v0 v1 => by
          obtain ⟨y1, y2⟩ := hr' v v0 v1
          exact ⟨y1, y2.imp id (fun q => q.2.2)⟩)
        obtain ⟨x1, x2, x3, x4, x5, x6, x7, x8⟩ := id NN
        have pn := B0.1.2.1.2.1
        have SmN : ∀ y, y < P → sm h h1 y := fun y hy => ⟨fun q => by rw [x4, if_neg (by omega), if_neg (by omega), if_neg (by omega), if_neg (by omega)], fun q => by rw [x5 y q (by omega), if_neg (by omega)], (x8 y (by omega)).1, (x8 y (by omega)).2⟩
        have kdo : ∀ v : Int, 0 ≤ v → v < m → kd h1 P v = kd h P v := fun v v0 v1 => by rw [kd_n v0, kd_n v0, x5 (P + 1) _ pn, if_neg (by omega)]
        have kdm : kd h1 P (m : Int) = hN h := by rw [kd_n (by omega), Int.toNat_natCast, x5 (P + 1) m pn, if_pos ⟨rfl, rfl⟩]
        have BB : B1 h1 tc K P (m + 1) r' m0 G := by
          refine ⟨BN, fun v v0 v1 n hn => ?_, fun v v0 v1 => ?_⟩
          · by_cases y : v = (m : Int)
            · rw [y, kdm, x4, if_neg (by omega), if_neg (by omega), if_neg (by omega), if_pos (by omega), x7 _ _ (by omega) (by omega), x7 _ _ (by omega) (by omega)]
              exact ⟨rfl, rfl, rfl⟩
            · have kn := (B0.1.2.2.1 v v0 (by omega)).1.2.1
              have kb := B0.2.1 v v0 (by omega)
              rw [kdo v v0 (by omega), x4, if_neg (by omega), if_neg (by omega), if_neg (by omega), if_neg (by omega), x5 _ _ (by omega), if_neg (by omega), x5 _ _ (by omega), if_neg (by omega)]
              exact Tz v v0 (by omega) n hn
          · by_cases y : v = (m : Int)
            · subst y
              unfold KO
              rw [wn 4 (by omega) (by omega), if_pos rfl, wn 0 (by omega) (by omega), if_neg (by omega), if_neg (by omega), if_pos rfl, wn 3 (by omega) (by omega), if_neg (by omega), if_neg (by omega), if_neg (by omega), if_pos rfl, wn 2 (by omega) (by omega), if_neg (by omega), if_neg (by omega), if_neg (by omega), if_neg (by omega), wn 5 (by omega) (by omega), if_neg (by omega), if_neg (by omega), if_neg (by omega), if_neg (by omega), wn 30 (by omega) (by omega), if_neg (by omega), if_neg (by omega), if_neg (by omega), if_neg (by omega), nm0_f W0 fc]
              exact ⟨rfl, .inr rfl, ⟨by omega, G0⟩, fun a b ha => by omega, fun a b ha => by omega, fun a b ha => by omega, fun a ha => by omega, fun a b ha => by omega⟩
            · obtain ⟨-, -, w3, w4, -⟩ := W.2.2 v v0 (by omega)
              exact KO_mv W0 fc (Os v v0 (by omega)) (fun g g0 g1 _ => wo v g v0 (by omega) g0 (by omega)) w3.2 w4.2
        have UTn : UTq tc m0 (m + 1) := fun v v0 v1 h3 => by
          have hm0 := W0.2.1
          have vm : v < m := by
            by_cases y : v = (m : Int)
            · rw [y, wn 3 (by omega) (by omega), if_neg (by omega), if_neg (by omega), if_neg (by omega), if_pos rfl] at h3
              omega
            · omega
          rw [wo v 3 v0 vm (by omega) (by omega)] at h3
          obtain ⟨u1, ⟨u2, u3⟩, u4⟩ := UT v v0 vm h3
          obtain ⟨-, w2, w3, -, -⟩ := W.2.2 v v0 vm
          rw [wo v 4 v0 vm (by omega) (by omega), wo v 5 v0 vm (by omega) (by omega), wo v 1 v0 vm (by omega) (by omega), fw_w fc (.inl rfl) u1.1 (by omega) (by omega) (by omega), fw_w fc (.inl rfl) u1.1 (by omega) (by omega) (by omega)]
          refine ⟨u1, ⟨u2, fun i hi => ?_⟩, ?_⟩
          · rw [wo v _ v0 vm (by omega) (by omega), fw_w fc (.inl rfl) u1.1 (by omega) (by omega) (by omega)]
            exact u3 i hi
          · rcases u4 with y | ⟨y1, y2⟩
            · exact .inl y
            · refine .inr ⟨y1, ?_⟩
              have : 0 ≤ wg t 1 v 1 ∧ wg t 1 v 1 < m := by
                rcases w2 with y | y
                · exact absurd y y1
                · exact ⟨y.1, y.2.1⟩
              rw [wo _ 4 this.1 this.2 (by omega) (by omega)]
              exact y2
        obtain ⟨a, -⟩ := MES_n M
        have hl3 := LK_f hl (fun q hq => (hL q hq).1)
        obtain ⟨why, y, h', t', b1, b2, b3, b4, b5⟩ := EDL (ch := ch) (F := c277) (Q := True) (j := (m : Int)) (.inr ⟨rfl, trivial⟩) ht W00 hK (by omega) (by omega) L ys (ntx t0 tx i 3) hF0 h1 tc (by rw [a]; exact hF0_lt (by omega)) hl (fun q hq => (hL q hq).1) (fun _ q hq => (hL q hq).2) M (fun y hy => HY y (List.mem_cons_of_mem _ hy)) BB (fun y hy => sm_tr (Sm y hy) (SmN y hy)) (fp_tr f fc) (by rw [wn 0 (by omega) (by omega), if_neg (by omega), if_neg (by omega), if_pos rfl]) (by rw [wn 3 (by omega) (by omega), if_neg (by omega), if_neg (by omega), if_neg (by omega), if_pos rfl]) UTn
        have k200 : 1 ≤ kc h0 200 (x :: ys) := by rw [kc_0, if_pos S.2.1]; omega
        refine ⟨why, y, h', t', m + 1, 1, 0, tkR_1 (e1.trans c1) SmN BN.1.2.1.2.2.1 b1, ⟨by rw [b2.1, x1], by rw [b2.2, x2], rfl, by omega, k200, Nat.zero_le _⟩, fun q hq => sm_tr (SmN q hq) (b3 q hq), fp_tr fc b4, ?_⟩
        have c257' : c257 (gn tx i) 3 tc = some (gf tx (ntx t0 tx i 3)) := c257_f (s := 3) ht hi (by omega) (by rw [ntx_f fc, eN]) hl3
        have e197 : c197 0 N tb = some (nm0 t m0 N) := by
          rw [c197_e (m := m0) (by omega) (by omega) (WF0_f W0 fb).1 W0.2.1]
          exact congrArg some (nm0_f W0 fb N)
        rw [← hu]
        have e114 : c275_j114 (gn tx i) ch N u t = (lp (fun s => eL c277 ch (m : Int) s.1 s.2) hF0 (gf tx (ntx t0 tx i 3), tc)).bind (fun r59 => xs r59 (fun x59 => some (1, x59)) (fun o59 => some o59)) := by
          unfold c275_j114
          refine (bnd d1 rfl).trans ?_
          refine (bnd ((c201_e (by omega) (by omega) (by omega) (by omega) (by omega) (by omega)).trans (congrArg some etb.symm)) rfl).trans ?_
          refine (bnd e197 rfl).trans ?_
          refine (bnd ((c201_e (by omega) (by omega) (by omega) (by omega) (by omega) (by omega)).trans (congrArg some etc.symm)) rfl).trans ?_
          exact (bnd c257' rfl)
        rcases b5 with ⟨c1, c2, c3⟩ | ⟨c1, c2, c3⟩
        · exact .inl ⟨c1, e114.trans (bnd c2 rfl), c3.2, r', c3.1⟩
        · exact .inr ⟨c1, List.mem_cons_of_mem _ c2, e114.trans (bnd c3 rfl)⟩
  · rw [if_neg z] at e56
    rw [if_neg z]
    exact GRo_no p3 hm (why := 2) (by omega) (e1.trans e56) fp_rf rfl
end CHA
