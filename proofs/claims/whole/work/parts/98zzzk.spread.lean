/-! a patch is made: what is under a changed kind is changed -/
def tcw (t : hS) (i : Int) : Int := clb (fun u => decide (wg t 1 u 3 ≠ 0)) (fun u => wg t 1 u 1) 13 i
/-- the changed ones are marked, so far -/
def SPq (m : Nat) (t0 t : hS) : Prop := fw t0 t ∧ wm t 1 = wm t0 1 ∧ (∀ v g : Int, 0 ≤ v → v < 12 → 0 ≤ g → g < 64 → g ≠ 3 → wg t 1 v g = wg t0 1 v g) ∧ ∀ i : Int, 0 ≤ i → i < m → (wg t 1 i 3 = 0 ∨ wg t 1 i 3 = 1) ∧ (wg t0 1 i 3 = 1 → wg t 1 i 3 = 1) ∧ (wg t 1 i 3 = 1 → tcw t0 i ≠ -1)
section SPR
variable {h t t0 t' : hS} {m : Nat} {r : Int → Nat}
theorem tcw_u (W : WF t 1 m r) {u : Int} (u0 : 0 ≤ u) (u1 : u < m) : tcw t u = if wg t 1 u 3 ≠ 0 then u else tcw t (wg t 1 u 1) := by
  have e := clb_st W (fun u => decide (wg t 1 u 3 ≠ 0)) u0 u1
  unfold tcw
  rw [e]
  by_cases c : wg t 1 u 3 ≠ 0
  · rw [if_pos (decide_eq_true c), if_pos c]
  · rw [if_neg (by rw [decide_eq_true_iff]; exact c), if_neg c]
theorem tcw_m : tcw t (-1) = -1 := clb_n _ _ 13
theorem c274_131 (W : WF t0 1 m r) (H : ∀ i : Int, 0 ≤ i → i < m → wg t0 1 i 3 = 0 ∨ wg t0 1 i 3 = 1) (R : Nat) : ∀ (D i N : Nat) (t : hS), i + D = m → D < N → SPq m t0 t → (∀ v : Int, 0 ≤ v → v < m → r v ≤ R → tcw t0 v ≠ -1 → wg t 1 v 3 = 1) → (∀ v : Int, 0 ≤ v → v < i → r v ≤ R + 1 → tcw t0 v ≠ -1 → wg t 1 v 3 = 1) → ∃ t', lp (fun s => c274_b131 s.1 s.2) N ((i : Int), t) = some t' ∧ SPq m t0 t' ∧ ∀ v : Int, 0 ≤ v → v < m → r v ≤ R + 1 → tcw t0 v ≠ -1 → wg t' 1 v 3 = 1
  | 0, i, N, t, hi, hN, S, A, B => by
    obtain ⟨N, rfl⟩ : ∃ n, N = n + 1 := ⟨N - 1, by omega⟩
    obtain rfl : i = m := by omega
    refine ⟨t, lp_d ?_, S, B⟩
    show c274_b131 (i : Int) t = _
    unfold c274_b131
    refine bnd (c198_e (by omega) (by omega)) ?_
    rw [S.2.1, W.1, if_pos (by omega)]
  | D + 1, i, N, t, hi, hN, S, A, B => by
    obtain ⟨N, rfl⟩ : ∃ n, N = n + 1 := ⟨N - 1, by omega⟩
    have hm := W.2.1
    obtain ⟨s1, s2, s3, s4⟩ := id S
    have i0 : (0 : Int) ≤ i := by omega
    have i1 : (i : Int) < m := by omega
    have e1 : wg t 1 (i : Int) 1 = wg t0 1 (i : Int) 1 := s3 _ _ i0 (by omega) (by omega) (by omega) (by omega)
    have g1 : c199 1 (i : Int) 1 t = some (wg t0 1 (i : Int) 1) := by rw [c199_e (by omega) (by omega) i0 (by omega) (by omega) (by omega), e1]
    have cu := tcw_u W i0 i1
    -- nothing is done
    have skip : (tcw t0 (i : Int) ≠ -1 → r (i : Int) ≤ R + 1 → wg t 1 (i : Int) 3 = 1) → c274_b131 (i : Int) t = some (.inl (((i + 1 : Nat) : Int), t)) → ∃ t', lp (fun s => c274_b131 s.1 s.2) (N + 1) ((i : Int), t) = some t' ∧ SPq m t0 t' ∧ ∀ v : Int, 0 ≤ v → v < m → r v ≤ R + 1 → tcw t0 v ≠ -1 → wg t' 1 v 3 = 1 := fun q e => by
      obtain ⟨t', a1, a2, a3⟩ := c274_131 W H R D (i + 1) N t (by omega) (by omega) S A (fun v v0 v1 rv tv => by
        by_cases c : v = (i : Int)
        · rw [c] at rv tv ⊢
          exact q tv rv
        · exact B v v0 (by omega) rv tv)
      exact ⟨t', (lp_n (show (fun s : Int × hS => c274_b131 s.1 s.2) ((i : Int), t) = _ from e)).trans a1, a2, a3⟩
    have own : wg t0 1 (i : Int) 3 ≠ 0 → wg t 1 (i : Int) 3 = 1 := fun c => by
      rcases H (i : Int) i0 i1 with y | y
      · exact absurd y c
      · exact (s4 (i : Int) i0 i1).2.1 y
    rcases WF_ok W (i : Int) ⟨i0, i1⟩ with z | ⟨⟨z0, z1⟩, z2⟩
    · refine skip (fun tv _ => ?_) ?_
      · rw [cu, z, tcw_m] at tv
        by_cases c : wg t0 1 (i : Int) 3 ≠ 0
        · exact own c
        · rw [if_neg c] at tv
          exact absurd rfl tv
      · unfold c274_b131 c274_j180
        refine bnd (c198_e (by omega) (by omega)) ?_
        rw [s2, W.1, if_neg (by omega)]
        refine bnd g1 ?_
        rw [if_pos z, wadd_n (by omega)]
    · generalize hu : wg t0 1 (i : Int) 1 = u at *
      have g3 : c199 1 u 3 t = some (wg t 1 u 3) := c199_e (by omega) (by omega) z0 (by omega) (by omega) (by omega)
      by_cases c : wg t 1 u 3 = 1
      · obtain ⟨t1, et⟩ : ∃ t1, t1 = wset t 1 (i : Int) 3 1 := ⟨_, rfl⟩
        have w1 : ∀ v g : Int, 0 ≤ v → v < 12 → 0 ≤ g → g < 64 → wg t1 1 v g = if v = (i : Int) ∧ g = 3 then 1 else wg t 1 v g := fun v g v0 v1 g0 g1 => by rw [et, wgs i0 (by omega) (by omega) (by omega) v0 v1 g0 g1]
        have m1 : ∀ v : Int, 0 ≤ v → v < m → wg t 1 v 3 = 1 → wg t1 1 v 3 = 1 := fun v v0 v1 q => by
          rw [w1 v 3 v0 (by omega) (by omega) (by omega)]
          split
          · rfl
          · exact q
        have S1 : SPq m t0 t1 := by
          refine ⟨fp_tr s1 (by rw [et]; exact fw_set i0 (by omega) (by omega) (by omega)), by rw [et, wms i0 (by omega) (by omega) (by omega)]; exact s2, fun v g v0 v1 g0 g1 hg => by rw [w1 v g v0 v1 g0 g1, if_neg (by omega)]; exact s3 v g v0 v1 g0 g1 hg, fun v v0 v1 => ?_⟩
          obtain ⟨x1, x2, x3⟩ := s4 v v0 v1
          by_cases y : v = (i : Int)
          · have e3 : wg t1 1 v 3 = 1 := by rw [w1 v 3 v0 (by omega) (by omega) (by omega), if_pos ⟨y, rfl⟩]
            refine ⟨.inr e3, fun _ => e3, fun _ => ?_⟩
            rw [y, cu]
            split
            · omega
            · exact (s4 u z0 z1).2.2 c
          · rw [w1 v 3 v0 (by omega) (by omega) (by omega), if_neg (fun q => y q.1)]
            exact ⟨x1, x2, x3⟩
        obtain ⟨t', a1, a2, a3⟩ := c274_131 W H R D (i + 1) N t1 (by omega) (by omega) S1 (fun v v0 v1 rv tv => m1 v v0 v1 (A v v0 v1 rv tv)) (fun v v0 v1 rv tv => by
          by_cases y : v = (i : Int)
          · rw [w1 v 3 v0 (by omega) (by omega) (by omega), if_pos ⟨y, rfl⟩]
          · exact m1 v v0 (by omega) (B v v0 (by omega) rv tv))
        refine ⟨t', (lp_n (s' := (((i + 1 : Nat) : Int), t1)) ?_).trans a1, a2, a3⟩
        show c274_b131 (i : Int) t = _
        unfold c274_b131 c274_j180
        refine bnd (c198_e (by omega) (by omega)) ?_
        rw [s2, W.1, if_neg (by omega)]
        refine bnd g1 ?_
        rw [if_neg (by omega)]
        refine bnd g1 ?_
        refine bnd g3 ?_
        rw [if_pos c]
        refine bnd ((c201_e (by omega) (by omega) i0 (by omega) (by omega) (by omega)).trans (congrArg some et.symm)) ?_
        rw [wadd_n (by omega)]
      · refine skip (fun tv rv => ?_) ?_
        · by_cases c2 : wg t0 1 (i : Int) 3 ≠ 0
          · exact own c2
          · rw [cu, if_neg c2] at tv
            exact absurd (A u z0 z1 (by omega) tv) c
        · unfold c274_b131 c274_j180
          refine bnd (c198_e (by omega) (by omega)) ?_
          rw [s2, W.1, if_neg (by omega)]
          refine bnd g1 ?_
          rw [if_neg (by omega)]
          refine bnd g1 ?_
          refine bnd g3 ?_
          rw [if_neg c, wadd_n (by omega)]
theorem c274_122 (W : WF t0 1 m r) (H : ∀ i : Int, 0 ≤ i → i < m → wg t0 1 i 3 = 0 ∨ wg t0 1 i 3 = 1) : ∀ (D i N : Nat) (t : hS), i + D = 12 → D < N → SPq m t0 t → (∀ v : Int, 0 ≤ v → v < m → r v ≤ i → tcw t0 v ≠ -1 → wg t 1 v 3 = 1) → ∃ t', lp (fun s => c274_b122 s.1 s.2) N ((i : Int), t) = some t' ∧ SPq m t0 t' ∧ ∀ v : Int, 0 ≤ v → v < m → (wg t' 1 v 3 = 1 ↔ tcw t0 v ≠ -1)
  | 0, i, N, t, hi, hN, S, A => by
    obtain ⟨N, rfl⟩ : ∃ n, N = n + 1 := ⟨N - 1, by omega⟩
    refine ⟨t, lp_d ?_, S, fun v v0 v1 => ⟨(S.2.2.2 v v0 v1).2.2, A v v0 v1 (by have := (W.2.2 v v0 v1).1; omega)⟩⟩
    show c274_b122 (i : Int) t = _
    unfold c274_b122
    rw [if_pos (by omega)]
  | D + 1, i, N, t, hi, hN, S, A => by
    obtain ⟨N, rfl⟩ : ∃ n, N = n + 1 := ⟨N - 1, by omega⟩
    obtain ⟨t1, a1, a2, a3⟩ := c274_131 W H i m 0 hF0 t (by omega) (hF0_lt (by have := W.2.1; omega)) S A (fun v v0 v1 => by omega)
    obtain ⟨t', b1, b2, b3⟩ := c274_122 W H D (i + 1) N t1 (by omega) (by omega) a2 a3
    refine ⟨t', (lp_n (s' := (((i + 1 : Nat) : Int), t1)) ?_).trans b1, b2, b3⟩
    show c274_b122 (i : Int) t = _
    unfold c274_b122
    rw [if_neg (by omega)]
    refine bnd a1 ?_
    rw [wadd_n (by omega)]
theorem spr_e (W : WF t0 1 m r) (H : ∀ i : Int, 0 ≤ i → i < m → wg t0 1 i 3 = 0 ∨ wg t0 1 i 3 = 1) : ∃ t', lp (fun s => c274_b122 s.1 s.2) hF0 (0, t0) = some t' ∧ SPq m t0 t' ∧ ∀ v : Int, 0 ≤ v → v < m → (wg t' 1 v 3 = 1 ↔ tcw t0 v ≠ -1) := by
  refine c274_122 W H 12 0 hF0 t0 rfl (hF0_lt (by omega)) ⟨fp_rf, rfl, fun _ _ _ _ _ _ _ => rfl, fun i i0 i1 => ⟨H i i0 i1, id, fun q => ?_⟩⟩ (fun v v0 v1 rv tv => ?_)
  · rw [tcw_u W i0 i1, if_pos (by omega)]
    omega
  · have w := (W.2.2 v v0 v1).2.1
    rw [tcw_u W v0 v1] at tv
    by_cases c : wg t0 1 v 3 ≠ 0
    · rcases H v v0 v1 with y | y
      · exact absurd y c
      · exact y
    · rw [if_neg c] at tv
      rcases w with y | ⟨-, -, y⟩
      · rw [y, tcw_m] at tv
        exact absurd rfl tv
      · omega
/-- a static's value from before -/
def stv (t : hS) (v : Int) (i : Nat) : Int := if wg t 1 v 4 = -1 then wg t 1 v (35 + i) else if sIx t 0 (wg t 1 v 4) (wg t 1 v (31 + i)) = -1 then wg t 1 v (35 + i) else wg t 0 (wg t 1 v 4) (35 + sIx t 0 (wg t 1 v 4) (wg t 1 v (31 + i)))
/-- the rows of one kind's statics -/
theorem c274_239 {m0 k : Nat} {r0 : Int → Nat} (W : WF t0 1 m r) (W0 : WF t0 0 m0 r0) (km : k < m) (ho : wg t0 1 (k : Int) 4 = -1 ∨ (0 ≤ wg t0 1 (k : Int) 4 ∧ wg t0 1 (k : Int) 4 < m0)) : ∀ (D i N : Nat) (t : hS), i + D = (wg t0 1 (k : Int) 30).toNat → D < N → fw t0 t → wm t 1 = wm t0 1 → (∀ v g : Int, 0 ≤ v → v < 12 → 0 ≤ g → g < 64 → wg t 1 v g = if v = (k : Int) ∧ 35 ≤ g ∧ g < 35 + (i : Int) then stv t0 k (g - 35).toNat else wg t0 1 v g) → ∃ t', lp (fun s => c274_b239 (k : Int) (wg t0 1 (k : Int) 4) s.1 s.2) N ((i : Int), t) = some t' ∧ fw t0 t' ∧ wm t' 1 = wm t0 1 ∧ ∀ v g : Int, 0 ≤ v → v < 12 → 0 ≤ g → g < 64 → wg t' 1 v g = if v = (k : Int) ∧ 35 ≤ g ∧ g < 35 + wg t0 1 (k : Int) 30 then stv t0 k (g - 35).toNat else wg t0 1 v g
  | 0, i, N, t, hi, hN, f, em, H => by
    obtain ⟨N, rfl⟩ : ∃ n, N = n + 1 := ⟨N - 1, by omega⟩
    have hm := W.2.1
    obtain ⟨-, -, -, w4, -⟩ := W.2.2 (k : Int) (by omega) (by omega)
    refine ⟨t, lp_d ?_, f, em, fun v g v0 v1 g0 g1 => ?_⟩
    · show c274_b239 (k : Int) _ (i : Int) t = _
      unfold c274_b239
      refine bnd (c199_e (by omega) (by omega) (by omega) (by omega) (by omega) (by omega)) ?_
      rw [show wg t 1 (k : Int) 30 = wg t0 1 (k : Int) 30 by rw [H (k : Int) 30 (by omega) (by omega) (by omega) (by omega), if_neg (by omega)], if_pos (by omega)]
    · rw [H v g v0 v1 g0 g1, show (i : Int) = wg t0 1 (k : Int) 30 by omega]
  | D + 1, i, N, t, hi, hN, f, em, H => by
    obtain ⟨N, rfl⟩ : ∃ n, N = n + 1 := ⟨N - 1, by omega⟩
    have hm := W.2.1
    obtain ⟨-, -, -, w4, -⟩ := W.2.2 (k : Int) (by omega) (by omega)
    have e30 : c199 1 (k : Int) 30 t = some (wg t0 1 (k : Int) 30) := by
      rw [c199_e (by omega) (by omega) (by omega) (by omega) (by omega) (by omega), H (k : Int) 30 (by omega) (by omega) (by omega) (by omega), if_neg (by omega)]
    have e31 : c199 1 (k : Int) (wadd 31 (i : Int)) t = some (wg t0 1 (k : Int) (31 + i)) := by
      rw [wadd_e (by omega) (by omega), c199_e (by omega) (by omega) (by omega) (by omega) (by omega) (by omega), H (k : Int) (31 + i) (by omega) (by omega) (by omega) (by omega), if_neg (by omega)]
    have W0' := WF0_f W0 f
    by_cases c : wg t0 1 (k : Int) 4 = -1
    · refine ⟨t, lp_d ?_, f, em, fun v g v0 v1 g0 g1 => ?_⟩
      · show c274_b239 (k : Int) _ (i : Int) t = _
        unfold c274_b239
        refine bnd e30 ?_
        rw [if_neg (by omega), if_pos c]
      · rw [H v g v0 v1 g0 g1]
        have ss : ∀ a : Nat, stv t0 k a = wg t0 1 (k : Int) (35 + a) := fun a => by unfold stv; rw [if_pos c]
        by_cases c1 : v = (k : Int) ∧ 35 ≤ g ∧ g < 35 + wg t0 1 (k : Int) 30
        · rw [if_pos c1, ss, show (35 + ((g - 35).toNat : Int)) = g by omega]
          by_cases c2 : v = (k : Int) ∧ 35 ≤ g ∧ g < 35 + (i : Int)
          · rw [if_pos c2]
          · rw [if_neg c2, c1.1]
        · rw [if_neg c1, if_neg (by omega)]
    · have ho' : 0 ≤ wg t0 1 (k : Int) 4 ∧ wg t0 1 (k : Int) 4 < m0 := by omega
      have hm0 := W0.2.1
      generalize hold : wg t0 1 (k : Int) 4 = old at *
      generalize hn : wg t0 1 (k : Int) (31 + i) = n at *
      have esx : sIx t 0 old n = sIx t0 0 old n := sIx_x (fw_x W0 f) W0 ho'.1 ho'.2
      have e208 : c208 0 old n t = some (sIx t0 0 old n) := by rw [c208_w W0' (by omega) (by omega) ho'.1 ho'.2, esx]
      have go : ∀ t1 : hS, fw t t1 → wm t1 1 = wm t 1 → (∀ v g : Int, 0 ≤ v → v < 12 → 0 ≤ g → g < 64 → wg t1 1 v g = if v = (k : Int) ∧ g = 35 + (i : Int) then stv t0 k i else wg t 1 v g) → c274_b239 (k : Int) old (i : Int) t = some (.inl (((i + 1 : Nat) : Int), t1)) → ∃ t', lp (fun s => c274_b239 (k : Int) old s.1 s.2) (N + 1) ((i : Int), t) = some t' ∧ fw t0 t' ∧ wm t' 1 = wm t0 1 ∧ ∀ v g : Int, 0 ≤ v → v < 12 → 0 ≤ g → g < 64 → wg t' 1 v g = if v = (k : Int) ∧ 35 ≤ g ∧ g < 35 + wg t0 1 (k : Int) 30 then stv t0 k (g - 35).toNat else wg t0 1 v g := fun t1 f1 m1 w1 e => by
        obtain ⟨t', a1, a2, a3, a4⟩ := c274_239 W W0 km (.inr (by rw [hold]; exact ho')) D (i + 1) N t1 (by omega) (by omega) (fp_tr f f1) (m1.trans em) (fun v g v0 v1 g0 g1 => by
          rw [w1 v g v0 v1 g0 g1]
          by_cases y : v = (k : Int) ∧ g = 35 + (i : Int)
          · rw [if_pos y, if_pos (by omega), show (g - 35).toNat = i by omega]
          · rw [if_neg y, H v g v0 v1 g0 g1]
            by_cases y2 : v = (k : Int) ∧ 35 ≤ g ∧ g < 35 + (i : Int)
            · rw [if_pos y2, if_pos (by omega)]
            · rw [if_neg y2, if_neg (by omega)])
        rw [hold] at a1
        exact ⟨t', (lp_n (show (fun s : Int × hS => c274_b239 (k : Int) old s.1 s.2) ((i : Int), t) = _ from e)).trans a1, a2, a3, a4⟩
      have ecur : wg t 1 (k : Int) (35 + i) = wg t0 1 (k : Int) (35 + i) := by rw [H (k : Int) (35 + i) (by omega) (by omega) (by omega) (by omega), if_neg (by omega)]
      by_cases c2 : sIx t0 0 old n = -1
      · refine go t fp_rf rfl (fun v g v0 v1 g0 g1 => ?_) ?_
        · by_cases y : v = (k : Int) ∧ g = 35 + (i : Int)
          · rw [if_pos y, y.1, y.2, ecur]
            unfold stv
            rw [hold, if_neg c, hn, if_pos c2]
          · rw [if_neg y]
        · unfold c274_b239 c274_j307
          refine bnd e30 ?_
          rw [if_neg (by omega), if_neg c]
          refine bnd e31 ?_
          refine bnd e208 ?_
          rw [if_pos c2, wadd_n (by omega)]
      · obtain ⟨y1, y2, -⟩ := sIx_lt W0 ho'.1 ho'.2 c2
        obtain ⟨-, -, -, w04, -⟩ := W0.2.2 old ho'.1 ho'.2
        obtain ⟨t1, et⟩ : ∃ t1, t1 = wset t 1 (k : Int) (35 + i) (wg t0 0 old (35 + sIx t0 0 old n)) := ⟨_, rfl⟩
        refine go t1 (by rw [et]; exact fw_set (by omega) (by omega) (by omega) (by omega)) (by rw [et, wms (by omega) (by omega) (by omega) (by omega)]) (fun v g v0 v1 g0 g1 => ?_) ?_
        · rw [et, wgs (by omega) (by omega) (by omega) (by omega) v0 v1 g0 g1]
          unfold stv
          rw [hold, if_neg c, hn, if_neg c2]
        · unfold c274_b239 c274_j307
          refine bnd e30 ?_
          rw [if_neg (by omega), if_neg c]
          refine bnd e31 ?_
          refine bnd e208 ?_
          rw [if_neg c2, wadd_e (by omega) (by omega), wadd_e (by omega) (by omega)]
          refine bnd (c199_e (by omega) (by omega) ho'.1 (by omega) (by omega) (by omega)) ?_
          rw [fw_w f (.inl rfl) ho'.1 (by omega) (by omega) (by omega)]
          refine bnd ((c201_e (by omega) (by omega) (by omega) (by omega) (by omega) (by omega)).trans (congrArg some et.symm)) ?_
          rw [wadd_n (by omega)]
end SPR
section UTF
variable {t tA tZ tB : hS} {m m0 : Nat} {r r0 : Int → Nat} {n j : Int}
/-- not changed, nor any above it: the same fields -/
theorem UT_f (U : UTq t m0 m) (W : WF t 1 m r) (W0 : WF t 0 m0 r0) (H : ∀ i : Int, 0 ≤ i → i < m → wg t 1 i 3 = 0 ∨ wg t 1 i 3 = 1) : ∀ (d : Nat) (j : Int), 0 ≤ j → j < m → r j < d → tcw t j = -1 → ∀ n, (fAt t 1 j n ≠ -1 ↔ fAt t 0 (wg t 1 j 4) n ≠ -1) := by
  intro d
  induction d with
  | zero => intro j _ _ z; omega
  | succ d ih =>
    intro j j0 j1 hr tc n
    rw [tcw_u W j0 j1] at tc
    have h3 : wg t 1 j 3 = 0 := by
      rcases H j j0 j1 with z | z
      · exact z
      · rw [if_pos (by omega)] at tc
        omega
    rw [if_neg (by omega)] at tc
    obtain ⟨⟨u0, u1⟩, ⟨u2, u3⟩, u4⟩ := U j j0 j1 h3
    obtain ⟨-, w2, w3, -, -⟩ := W.2.2 j j0 j1
    have e1 := clb_st W (fun x => decide (fIx t 1 x n ≠ -1)) j0 j1
    have e0 := clb_st W0 (fun x => decide (fIx t 0 x n ≠ -1)) u0 u1
    have ef : fIx t 1 j n = fIx t 0 (wg t 1 j 4) n := by
      unfold fIx
      rw [← u2]
      exact ix_congr (fun i hi => u3 i (by omega))
    unfold fAt
    rw [e1, e0, ef]
    by_cases c : fIx t 0 (wg t 1 j 4) n ≠ -1
    · rw [if_pos (decide_eq_true c), if_pos (decide_eq_true c)]
      exact ⟨fun _ => by omega, fun _ => by omega⟩
    · rw [if_neg (by rw [decide_eq_true_iff]; exact c), if_neg (by rw [decide_eq_true_iff]; exact c)]
      rcases u4 with ⟨z1, z2⟩ | ⟨z1, z2⟩
      · rw [z1, z2, clb_n, clb_n]
      · have : 0 ≤ wg t 1 j 1 ∧ wg t 1 j 1 < m ∧ r (wg t 1 j 1) < r j := by
          rcases w2 with y | y
          · exact absurd y z1
          · exact y
        rw [← z2]
        exact ih (wg t 1 j 1) this.1 this.2.1 (by omega) tc n
end UTF
