/-! call 27: back: the statics -/
/-- the value of a former kind's static: as it is now, if it is there -/
def stBq (t : hS) (u k : Int) (i : Nat) : Int := if u = -1 then wg t 1 k (35 + i) else if sIx t 0 u (wg t 1 k (31 + i)) = -1 then wg t 1 k (35 + i) else wg t 0 u (35 + sIx t 0 u (wg t 1 k (31 + i)))
def SCq (h0 t0 : hS) (p m m0 i : Nat) (h : hS) : Prop := h.2 = h0.2 ∧ (∀ x j, (∀ v : Int, 0 ≤ v → v < m0 → x ≠ kd h0 p v + 5) → hI h x j = hI h0 x j) ∧ ∀ v : Int, 0 ≤ v → v < m0 → ∀ j : Nat, hI h (kd h0 p v + 5) j = if v < (i : Int) ∧ (j : Int) < wg t0 1 v 30 then stBq t0 (nm0 t0 m (wg t0 1 v 0)) v j else hI h0 (kd h0 p v + 5) j
section BK5
variable {h h' h0 h1 t t0 t' : hS} {m m0 P p k : Nat} {r r0 : Int → Nat} {G j old : Int} {K : Nat → Int → Prop}
/-- the other side: one kind's statics -/
theorem c299_50 {k : Nat} (W : WF t0 1 m r) (W0 : WF t0 0 m0 r0) (km : k < m) (ho : old = -1 ∨ (0 ≤ old ∧ old < m0)) : ∀ (D i N : Nat) (t : hS), i + D = (wg t0 1 (k : Int) 30).toNat → D < N → fw t0 t → wm t 1 = wm t0 1 → (∀ v g : Int, 0 ≤ v → v < 12 → 0 ≤ g → g < 64 → wg t 1 v g = if v = (k : Int) ∧ 35 ≤ g ∧ g < 35 + (i : Int) then stBq t0 old k (g - 35).toNat else wg t0 1 v g) → ∃ t', lp (fun s => c299_b50 (k : Int) old s.1 s.2) N ((i : Int), t) = some t' ∧ fw t0 t' ∧ wm t' 1 = wm t0 1 ∧ ∀ v g : Int, 0 ≤ v → v < 12 → 0 ≤ g → g < 64 → wg t' 1 v g = if v = (k : Int) ∧ 35 ≤ g ∧ g < 35 + wg t0 1 (k : Int) 30 then stBq t0 old k (g - 35).toNat else wg t0 1 v g
  | 0, i, N, t, hi, hN, f, em, H => by
    obtain ⟨N, rfl⟩ : ∃ n, N = n + 1 := ⟨N - 1, by omega⟩
    have hm := W.2.1
    obtain ⟨-, -, -, w4, -⟩ := W.2.2 (k : Int) (by omega) (by omega)
    refine ⟨t, lp_d ?_, f, em, fun v g v0 v1 g0 g1 => ?_⟩
    · show c299_b50 (k : Int) old (i : Int) t = _
      unfold c299_b50
      refine bnd (c199_e (by omega) (by omega) (by omega) (by omega) (by omega) (by omega)) ?_
      rw [show wg t 1 (k : Int) 30 = wg t0 1 (k : Int) 30 by rw [H (k : Int) 30 (by omega) (by omega) (by omega) (by omega), if_neg (by omega)], if_pos (by omega)]
    · rw [H v g v0 v1 g0 g1, show (i : Int) = wg t0 1 (k : Int) 30 by omega]
  | D + 1, i, N, t, hi, hN, f, em, H => by
    obtain ⟨N, rfl⟩ : ∃ n, N = n + 1 := ⟨N - 1, by omega⟩
    have hm := W.2.1
    obtain ⟨-, -, -, w4, -⟩ := W.2.2 (k : Int) (by omega) (by omega)
    have e30 : c199 1 (k : Int) 30 t = some (wg t0 1 (k : Int) 30) := by
      rw [c199_e (by omega) (by omega) (by omega) (by omega) (by omega) (by omega), H (k : Int) 30 (by omega) (by omega) (by omega) (by omega), if_neg (by omega)]
    have e31 : c199 1 (k : Int) (wadd 31 (i : Int)) t = some (wg t0 1 (k : Int) (31 + i)) := by
      rw [wadd_e (by omega) (by omega), c199_e (by omega) (by omega) (by omega) (by omega) (by omega) (by omega), H (k : Int) (31 + i) (by omega) (by omega) (by omega) (by omega), if_neg (by omega)]
    have W0' := WF0_f W0 f
    by_cases c : old = -1
    · refine ⟨t, lp_d ?_, f, em, fun v g v0 v1 g0 g1 => ?_⟩
      · show c299_b50 (k : Int) old (i : Int) t = _
        unfold c299_b50
        refine bnd e30 ?_
        rw [if_neg (by omega), if_pos c]
      · rw [H v g v0 v1 g0 g1]
        have ss : ∀ a : Nat, stBq t0 old k a = wg t0 1 (k : Int) (35 + a) := fun a => by unfold stBq; rw [if_pos c]
        by_cases c1 : v = (k : Int) ∧ 35 ≤ g ∧ g < 35 + wg t0 1 (k : Int) 30
        · rw [if_pos c1, ss, show (35 + ((g - 35).toNat : Int)) = g by omega]
          by_cases c2 : v = (k : Int) ∧ 35 ≤ g ∧ g < 35 + (i : Int)
          · rw [if_pos c2]
          · rw [if_neg c2, c1.1]
        · rw [if_neg c1, if_neg (by omega)]
    · have ho' : 0 ≤ old ∧ old < m0 := by omega
      have hm0 := W0.2.1
      generalize hn : wg t0 1 (k : Int) (31 + i) = n at *
      have esx : sIx t 0 old n = sIx t0 0 old n := sIx_x (fw_x W0 f) W0 ho'.1 ho'.2
      have e208 : c208 0 old n t = some (sIx t0 0 old n) := by rw [c208_w W0' (by omega) (by omega) ho'.1 ho'.2, esx]
      have go : ∀ t1 : hS, fw t t1 → wm t1 1 = wm t 1 → (∀ v g : Int, 0 ≤ v → v < 12 → 0 ≤ g → g < 64 → wg t1 1 v g = if v = (k : Int) ∧ g = 35 + (i : Int) then stBq t0 old k i else wg t 1 v g) → c299_b50 (k : Int) old (i : Int) t = some (.inl (((i + 1 : Nat) : Int), t1)) → ∃ t', lp (fun s => c299_b50 (k : Int) old s.1 s.2) (N + 1) ((i : Int), t) = some t' ∧ fw t0 t' ∧ wm t' 1 = wm t0 1 ∧ ∀ v g : Int, 0 ≤ v → v < 12 → 0 ≤ g → g < 64 → wg t' 1 v g = if v = (k : Int) ∧ 35 ≤ g ∧ g < 35 + wg t0 1 (k : Int) 30 then stBq t0 old k (g - 35).toNat else wg t0 1 v g := fun t1 f1 m1 w1 e => by
        obtain ⟨t', a1, a2, a3, a4⟩ := c299_50 W W0 km (.inr ho') D (i + 1) N t1 (by omega) (by omega) (fp_tr f f1) (m1.trans em) (fun v g v0 v1 g0 g1 => by
          rw [w1 v g v0 v1 g0 g1]
          by_cases y : v = (k : Int) ∧ g = 35 + (i : Int)
          · rw [if_pos y, if_pos (by omega), show (g - 35).toNat = i by omega]
          · rw [if_neg y, H v g v0 v1 g0 g1]
            by_cases y2 : v = (k : Int) ∧ 35 ≤ g ∧ g < 35 + (i : Int)
            · rw [if_pos y2, if_pos (by omega)]
            · rw [if_neg y2, if_neg (by omega)])
        exact ⟨t', (lp_n (show (fun s : Int × hS => c299_b50 (k : Int) old s.1 s.2) ((i : Int), t) = _ from e)).trans a1, a2, a3, a4⟩
      have ecur : wg t 1 (k : Int) (35 + i) = wg t0 1 (k : Int) (35 + i) := by rw [H (k : Int) (35 + i) (by omega) (by omega) (by omega) (by omega), if_neg (by omega)]
      by_cases c2 : sIx t0 0 old n = -1
      · refine go t fp_rf rfl (fun v g v0 v1 g0 g1 => ?_) ?_
        · by_cases y : v = (k : Int) ∧ g = 35 + (i : Int)
          · rw [if_pos y, y.1, y.2, ecur]
            unfold stBq
            rw [if_neg c, hn, if_pos c2]
          · rw [if_neg y]
        · unfold c299_b50 c299_j112
          refine bnd e30 ?_
          rw [if_neg (by omega), if_neg c]
          refine bnd e31 ?_
          refine bnd e208 ?_
          rw [if_pos c2, wadd_n (by omega)]
      · obtain ⟨y1, y2, -⟩ := sIx_lt W0 ho'.1 ho'.2 c2
        obtain ⟨-, -, -, w04, -⟩ := W0.2.2 old ho'.1 ho'.2
        obtain ⟨t1, et⟩ : ∃ t1, t1 = wset t 1 (k : Int) (35 + i) (wg t0 0 old (35 + sIx t0 0 old n)) := ⟨_, rfl⟩
        refine go t1 (by rw [et]; exact fw_set (by omega) (by omega) (by omega) (by omega)) (by rw [et, wms (by omega) (by omega) (by omega) (by omega)]) (fun v g v0 v1 g0 g1 => ?_) ?_
        · rw [et, wgs (by omega) (by omega) (by omega) (by omega) v0 v1 g0 g1]
          unfold stBq
          rw [if_neg c, hn, if_neg c2]
        · unfold c299_b50 c299_j112
          refine bnd e30 ?_
          rw [if_neg (by omega), if_neg c]
          refine bnd e31 ?_
          refine bnd e208 ?_
          rw [if_neg c2, wadd_e (by omega) (by omega), wadd_e (by omega) (by omega)]
          refine bnd (c199_e (by omega) (by omega) ho'.1 (by omega) (by omega) (by omega)) ?_
          rw [fw_w f (.inl rfl) ho'.1 (by omega) (by omega) (by omega)]
          refine bnd ((c201_e (by omega) (by omega) (by omega) (by omega) (by omega) (by omega)).trans (congrArg some et.symm)) ?_
          rw [wadd_n (by omega)]
theorem stB_f {v : Int} (W0 : WF t0 0 m0 r0) (f : fw t0 t) (ho : old = -1 ∨ (0 ≤ old ∧ old < m0)) (e : ∀ g : Int, 31 ≤ g → g < 39 → wg t 1 v g = wg t0 1 v g) {i : Nat} (hi : i < 4) : stBq t old v i = stBq t0 old v i := by
  unfold stBq
  rw [e (31 + i) (by omega) (by omega), e (35 + i) (by omega) (by omega)]
  by_cases c : old = -1
  · rw [if_pos c, if_pos c]
  · have ho' : 0 ≤ old ∧ old < m0 := by omega
    rw [if_neg c, if_neg c, sIx_x (fw_x W0 f) W0 ho'.1 ho'.2]
    by_cases c2 : sIx t0 0 old (wg t0 1 v (31 + i)) = -1
    · rw [if_pos c2, if_pos c2]
    · rw [if_neg c2, if_neg c2]
      obtain ⟨y1, y2, -⟩ := sIx_lt W0 ho'.1 ho'.2 c2
      obtain ⟨-, -, -, w04, -⟩ := W0.2.2 _ ho'.1 ho'.2
      have := W0.2.1
      exact fw_w f (.inl rfl) ho'.1 (by omega) (by omega) (by omega)
theorem nm0_i (t : hS) (m0 : Nat) (n : Int) : nm0 t m0 n = -1 ∨ (0 ≤ nm0 t m0 n ∧ nm0 t m0 n < m0) := by
  rcases nm0_b t m0 n with y | ⟨y1, y2, -⟩
  · exact .inl y
  · exact .inr ⟨y1, y2⟩
/-- the other side: all the statics -/
theorem c299_26 (W : WF t0 1 m r) (W0 : WF t0 0 m0 r0) : ∀ (D i N : Nat) (t : hS), i + D = m → D < N → fw t0 t → wm t 1 = wm t0 1 → (∀ v g : Int, 0 ≤ v → v < 12 → 0 ≤ g → g < 64 → wg t 1 v g = if v < (i : Int) ∧ 35 ≤ g ∧ g < 35 + wg t0 1 v 30 then stBq t0 (nm0 t0 m0 (wg t0 1 v 0)) v (g - 35).toNat else wg t0 1 v g) → ∃ t', lp (fun s => c299_b26 s.1 s.2) N ((i : Int), t) = some t' ∧ fw t0 t' ∧ wm t' 1 = wm t0 1 ∧ ∀ v g : Int, 0 ≤ v → v < 12 → 0 ≤ g → g < 64 → wg t' 1 v g = if v < (m : Int) ∧ 35 ≤ g ∧ g < 35 + wg t0 1 v 30 then stBq t0 (nm0 t0 m0 (wg t0 1 v 0)) v (g - 35).toNat else wg t0 1 v g
  | 0, i, N, t, hi, hN, f, em, H => by
    obtain ⟨N, rfl⟩ : ∃ n, N = n + 1 := ⟨N - 1, by omega⟩
    obtain rfl : i = m := by omega
    refine ⟨t, lp_d ?_, f, em, H⟩
    show c299_b26 (i : Int) t = _
    unfold c299_b26
    refine bnd (c198_e (by omega) (by omega)) ?_
    rw [em, W.1, if_pos (by omega)]
  | D + 1, i, N, t, hi, hN, f, em, H => by
    obtain ⟨N, rfl⟩ : ∃ n, N = n + 1 := ⟨N - 1, by omega⟩
    have hm := W.2.1
    obtain ⟨-, -, w3, w4, w5⟩ := W.2.2 (i : Int) (by omega) (by omega)
    have cur : ∀ g : Int, 0 ≤ g → g < 64 → wg t 1 (i : Int) g = wg t0 1 (i : Int) g := fun g g0 g1 => by rw [H (i : Int) g (by omega) (by omega) g0 g1, if_neg (by omega)]
    obtain ⟨u, hu⟩ : ∃ u, nm0 t0 m0 (wg t0 1 (i : Int) 0) = u := ⟨_, rfl⟩
    have hub : u = -1 ∨ (0 ≤ u ∧ u < m0) := by rw [← hu]; exact nm0_i _ _ _
    have W1 : WF t 1 m r := by
      refine ⟨by rw [em]; exact W.1, hm, fun v v0 v1 => ?_⟩
      have := (W.2.2 v v0 v1).2.2.2.1
      have hv : ∀ g : Int, g = 1 ∨ g = 5 ∨ g = 30 ∨ g = 39 → wg t 1 v g = wg t0 1 v g := fun g hg => by
        rw [H v g v0 (by omega) (by omega) (by omega), if_neg (by omega)]
      rw [hv 1 (by omega), hv 5 (by omega), hv 30 (by omega), hv 39 (by omega)]
      exact W.2.2 v v0 v1
    have W0t := WF0_f W0 f
    obtain ⟨t2, a1, a2, a3, a4⟩ := c299_50 (k := i) (old := u) W1 W0t (by omega) hub (wg t 1 (i : Int) 30).toNat 0 hF0 t (by omega) (hF0_lt (by rw [cur 30 (by omega) (by omega)]; omega)) fp_rf rfl (fun v g v0 v1 g0 g1 => by rw [if_neg (by omega)])
    obtain ⟨t', b1, b2, b3, b4⟩ := c299_26 W W0 D (i + 1) N t2 (by omega) (by omega) (fp_tr f a2) (a3.trans em) (fun v g v0 v1 g0 g1 => by
      rw [a4 v g v0 v1 g0 g1, cur 30 (by omega) (by omega)]
      by_cases y : v = (i : Int)
      · rw [y]
        by_cases y2 : 35 ≤ g ∧ g < 35 + wg t0 1 (i : Int) 30
        · rw [if_pos ⟨rfl, y2⟩, if_pos ⟨by omega, y2⟩, hu]
          exact stB_f W0 f hub (fun g g0 g1 => cur g (by omega) (by omega)) (by omega)
        · rw [if_neg (fun z => y2 z.2), if_neg (fun z => y2 z.2), cur g g0 g1]
      · rw [if_neg (fun z => y z.1), H v g v0 v1 g0 g1]
        by_cases y2 : v < (i : Int) ∧ 35 ≤ g ∧ g < 35 + wg t0 1 v 30
        · rw [if_pos y2, if_pos ⟨by omega, y2.2⟩]
        · rw [if_neg y2, if_neg (fun z => y2 ⟨by omega, z.2⟩)])
    refine ⟨t', (lp_n (s' := (((i + 1 : Nat) : Int), t2)) ?_).trans b1, b2, b3, b4⟩
    show c299_b26 (i : Int) t = _
    unfold c299_b26
    refine bnd (c198_e (by omega) (by omega)) ?_
    rw [em, W.1, if_neg (by omega)]
    refine bnd (c199_e (by omega) (by omega) (by omega) (by omega) (by omega) (by omega)) ?_
    rw [cur 0 (by omega) (by omega)]
    have e197 : c197 0 (wg t0 1 (i : Int) 0) t = some u := by
      rw [c197_e (by omega) (by omega) W0t.1 W0t.2.1]
      exact congrArg some ((nm0_f W0 f _).trans hu)
    refine bnd e197 ?_
    refine bnd a1 ?_
    rw [wadd_n (by omega)]
theorem kd_nw {w i j : Int} (Pa : PW h t K p w m r) (i0 : 0 ≤ i) (i1 : i < m) (j0 : 0 ≤ j) (j1 : j < m) (n : i ≠ j) : kd h p i + 13 ≤ kd h p j ∨ kd h p j + 13 ≤ kd h p i := by
  refine KD_d (Pa.2.2.1 i i0 i1).1 (Pa.2.2.1 j j0 j1).1 (fun e => n ?_)
  have e1 := (Pa.2.2.1 i i0 i1).2.1.1
  have e2 := (Pa.2.2.1 j j0 j1).2.1.1
  rw [e] at e1
  exact Pa.2.2.2 i j i0 i1 j0 j1 (e1.symm.trans e2)
/-- the class: one kind's statics -/
theorem c90_30b (Q : KD h0 k) {S u : Int} (hS4 : hI h0 k 8 = S) (S4 : 0 ≤ S ∧ S ≤ 4) (Pw : PW h0 t0 K p 0 m0 r0) (hu : u = -1 ∨ (0 ≤ u ∧ u < m0)) (hpk : ∀ v : Int, 0 ≤ v → v < m0 → kd h0 p v + 13 ≤ k ∨ k + 13 ≤ kd h0 p v) : ∀ (D i N : Nat) (h : hS), i + D = S.toNat → D < N → h.2 = h0.2 → (∀ x j, hI h x j = if x = k + 5 ∧ j < i then (if u = -1 then hI h0 (k + 5) j else if sIx t0 0 u (hI h0 (k + 4) j) = -1 then hI h0 (k + 5) j else wg t0 0 u (35 + sIx t0 0 u (hI h0 (k + 4) j))) else hI h0 x j) → ∃ h', lp (fun s => c90_b30 k (kd h0 p u) s.1 s.2) N ((i : Int), h) = some h' ∧ h'.2 = h0.2 ∧ ∀ x j, hI h' x j = if x = k + 5 ∧ j < S.toNat then (if u = -1 then hI h0 (k + 5) j else if sIx t0 0 u (hI h0 (k + 4) j) = -1 then hI h0 (k + 5) j else wg t0 0 u (35 + sIx t0 0 u (hI h0 (k + 4) j))) else hI h0 x j
  | 0, i, N, h, hi, hN, e2, H => by
    obtain ⟨N, rfl⟩ : ∃ n, N = n + 1 := ⟨N - 1, by omega⟩
    obtain rfl : i = S.toNat := by omega
    refine ⟨h, lp_d ?_, e2, H⟩
    have hT' : ∀ x, hT h x = hT h0 x := fun x => h2_T e2 x
    show c90_b30 k (kd h0 p u) ((S.toNat : Nat) : Int) h = _
    unfold c90_b30
    by_cases c : u = -1
    · rw [c, kd_m]
      refine bnd hnul_0 ?_
      rw [if_pos rfl]
    · have hu' : 0 ≤ u ∧ u < m0 := by omega
      have k8 := kd_8 Pw hu'.1 hu'.2
      refine bnd (hnul_8 (by omega)) ?_
      rw [if_neg (by decide)]
      refine bnd (gI_s (by rw [hT']; exact Q.2.2.1)) ?_
      rw [show hI h k 8 = S by rw [H k 8, if_neg (by omega)]; exact hS4, if_pos (by omega)]
  | D + 1, i, N, h, hi, hN, e2, H => by
    obtain ⟨N, rfl⟩ : ∃ n, N = n + 1 := ⟨N - 1, by omega⟩
    have hT' : ∀ x, hT h x = hT h0 x := fun x => h2_T e2 x
    have hL' : ∀ x, hL h x = hL h0 x := fun x => h2_L e2 x
    have hR' : ∀ x j, hR h x j = hR h0 x j := fun x j => h2_R e2 x j
    by_cases c : u = -1
    · refine ⟨h, lp_d ?_, e2, fun x j => ?_⟩
      · show c90_b30 k (kd h0 p u) (i : Int) h = _
        unfold c90_b30
        rw [c, kd_m]
        refine bnd hnul_0 ?_
        rw [if_pos rfl]
      · rw [H x j]
        by_cases y : x = k + 5 ∧ j < S.toNat
        · rw [if_pos y, if_pos c, y.1]
          by_cases y2 : k + 5 = k + 5 ∧ j < i
          · rw [if_pos y2]
          · rw [if_neg y2]
        · rw [if_neg y, if_neg (by omega)]
    · have hu' : 0 ≤ u ∧ u < m0 := by omega
      have k8 := kd_8 Pw hu'.1 hu'.2
      have kb := hpk u hu'.1 hu'.2
      obtain ⟨Qu, -, -, -, -, s6, -⟩ := Pw.2.2.1 u hu'.1 hu'.2
      obtain ⟨-, -, -, w4, -⟩ := Pw.1.2.2 u hu'.1 hu'.2
      obtain ⟨q9, q9t, q9l⟩ := KD9 Q
      obtain ⟨q10, q10t, q10l⟩ := KD10 Q
      obtain ⟨v9, v9t, v9l⟩ := KD9 Qu
      obtain ⟨v10, v10t, v10l⟩ := KD10 Qu
      have n5 : hI h (k + 4) i = hI h0 (k + 4) i := by rw [H, if_neg (by omega)]
      have e81 : c81 (kd h0 p u) (hI h0 (k + 4) i) h = some (sIx t0 0 u (hI h0 (k + 4) i)) := by
        have e := c81_w (n := hI h0 (k + 4) i) Pw hu'.1 hu'.2
        unfold c81 at e ⊢
        have q1 : gR h (kd h0 p u) 24 9 = gR h0 (kd h0 p u) 24 9 := by rw [gR_s (by rw [hT']; exact Qu.2.2.1), gR_s Qu.2.2.1, hR']
        have q2 : gI h (kd h0 p u) 24 8 = gI h0 (kd h0 p u) 24 8 := by rw [gI_s (by rw [hT']; exact Qu.2.2.1), gI_s Qu.2.2.1, H, if_neg (by omega)]
        rw [q1, q2]
        rw [gR_s Qu.2.2.1, gI_s Qu.2.2.1] at e ⊢
        rw [v9, s6.1] at e ⊢
        have e3 : c29 (kd h0 p u + 4) (wg t0 0 u 30) (hI h0 (k + 4) i) h = c29 (kd h0 p u + 4) (wg t0 0 u 30) (hI h0 (k + 4) i) h0 := by
          obtain ⟨A, hA⟩ : ∃ A : Nat, wg t0 0 u 30 = (A : Int) := ⟨(wg t0 0 u 30).toNat, by omega⟩
          rw [hA, c29_e (by rw [hT']; exact v9t) (by rw [hL']; omega) (by omega), c29_e v9t (by omega) (by omega)]
          exact congrArg some (ix_congr (fun a ha => by rw [H, if_neg (by omega)]))
        refine (bnd rfl (bnd rfl ?_)).trans e
        exact congrArg (fun z => Option.bind z _) e3
      have go : ∀ h1 : hS, h1.2 = h0.2 → (∀ x j, hI h1 x j = if x = k + 5 ∧ j = i then (if sIx t0 0 u (hI h0 (k + 4) i) = -1 then hI h0 (k + 5) i else wg t0 0 u (35 + sIx t0 0 u (hI h0 (k + 4) i))) else hI h x j) → c90_b30 k (kd h0 p u) (i : Int) h = some (.inl (((i + 1 : Nat) : Int), h1)) → ∃ h', lp (fun s => c90_b30 k (kd h0 p u) s.1 s.2) (N + 1) ((i : Int), h) = some h' ∧ h'.2 = h0.2 ∧ ∀ x j, hI h' x j = if x = k + 5 ∧ j < S.toNat then (if u = -1 then hI h0 (k + 5) j else if sIx t0 0 u (hI h0 (k + 4) j) = -1 then hI h0 (k + 5) j else wg t0 0 u (35 + sIx t0 0 u (hI h0 (k + 4) j))) else hI h0 x j := fun h1 e3 H1 e => by
        obtain ⟨h', a1, a2, a3⟩ := c90_30b Q hS4 S4 Pw hu hpk D (i + 1) N h1 (by omega) (by omega) e3 (fun x j => by
          rw [H1]
          by_cases y : x = k + 5 ∧ j = i
          · rw [if_pos y, if_pos (show x = k + 5 ∧ j < i + 1 by omega), if_neg c, y.2]
          · rw [if_neg y, H]
            by_cases y2 : x = k + 5 ∧ j < i
            · rw [if_pos y2, if_pos (show x = k + 5 ∧ j < i + 1 by omega)]
            · rw [if_neg y2, if_neg (show ¬ (x = k + 5 ∧ j < i + 1) by omega)])
        exact ⟨h', (lp_n (show (fun s : Int × hS => c90_b30 k (kd h0 p u) s.1 s.2) ((i : Int), h) = _ from e)).trans a1, a2, a3⟩
      have st : ∀ R, (if sIx t0 0 u (hI h0 (k + 4) i) = -1 then c90_j79 (i : Int) h else (gR h k 24 10).bind (fun v16 => (gR h (kd h0 p u) 24 10).bind (fun v17 => (aI h v17 1 (sIx t0 0 u (hI h0 (k + 4) i))).bind (fun v18 => (wI h v16 1 (i : Int) v18).bind (fun h19 => c90_j79 (i : Int) h19))))) = R → c90_b30 k (kd h0 p u) (i : Int) h = R := fun R e => by
        unfold c90_b30
        refine bnd (hnul_8 (by omega)) ?_
        rw [if_neg (by decide)]
        refine bnd (gI_s (by rw [hT']; exact Q.2.2.1)) ?_
        rw [show hI h k 8 = S by rw [H k 8, if_neg (by omega)]; exact hS4, if_neg (by omega)]
        refine bnd (gR_s (by rw [hT']; exact Q.2.2.1)) ?_
        rw [hR', q9]
        refine bnd (aI_s (by rw [hT']; exact q9t) (by omega) (by rw [hL', q9l]; omega)) ?_
        refine bnd (kT_s (by rw [hT']; exact Qu.2.2.1)) ?_
        rw [Int.toNat_natCast, n5]
        refine bnd e81 ?_
        exact e
      by_cases c2 : sIx t0 0 u (hI h0 (k + 4) i) = -1
      · refine go h e2 (fun x j => ?_) (st _ ?_)
        · by_cases y : x = k + 5 ∧ j = i
          · rw [if_pos y, if_pos c2, H, if_neg (by omega), y.1, y.2]
          · rw [if_neg y]
        · rw [if_pos c2]
          unfold c90_j79
          rw [wadd_n (by omega)]
      · obtain ⟨y1, y2, -⟩ := sIx_lt Pw.1 hu'.1 hu'.2 c2
        generalize hz : sIx t0 0 u (hI h0 (k + 4) i) = z at *
        have hv : hI h (kd h0 p u + 5) z.toNat = wg t0 0 u (35 + z) := by
          rw [H, if_neg (by omega), (s6.2 z.toNat (by omega)).2.1, show ((z.toNat : Nat) : Int) = z by omega]
        refine go (sI h (k + 5) i (wg t0 0 u (35 + z))) e2 (fun x j => ?_) (st _ ?_)
        · rw [hI_sI, if_neg c2]
        · rw [if_neg c2]
          refine bnd (gR_s (by rw [hT']; exact Q.2.2.1)) ?_
          refine bnd (gR_s (by rw [hT']; exact Qu.2.2.1)) ?_
          rw [hR', hR', q10, v10]
          refine bnd (aI_s (by rw [hT']; exact v10t) (by omega) (by rw [hL', v10l]; omega)) ?_
          rw [hv]
          refine bnd (wI_s (by rw [hT']; exact q10t) (by omega) (by rw [hL', q10l]; omega)) ?_
          unfold c90_j79
          rw [Int.toNat_natCast, wadd_n (by omega)]
/-- the class: all the statics -/
theorem c90_lb (Pa : PW h0 t0 K p 1 m0 r0) (Pb : PW h0 t0 K P 0 m r) (pP : p + 1 < P) (kp : ∀ v : Int, 0 ≤ v → v < m0 → kd h0 p v + 13 ≤ P) (kP : ∀ v : Int, 0 ≤ v → v < m → P + 2 ≤ kd h0 P v) : ∀ (D i N : Nat) (h : hS), i + D = m0 → D < N → SCq h0 t0 p m m0 i h → ∃ h', lp (fun s => c90_b2 p P s.1 s.2) N ((i : Int), h) = some h' ∧ SCq h0 t0 p m m0 m0 h'
  | 0, i, N, h, hi, hN', C => by
    obtain ⟨N, rfl⟩ : ∃ n, N = n + 1 := ⟨N - 1, by omega⟩
    obtain rfl : i = m0 := by omega
    have p1 := Pa.2.1
    refine ⟨h, lp_d ?_, C⟩
    show c90_b2 p P (i : Int) h = _
    unfold c90_b2
    refine bnd (gI_s (by rw [h2_T C.1]; exact p1.2.2.1)) ?_
    rw [C.2.1 p 1 (fun v v0 v1 z => by have := Pa.2.1.2.2.1; have q := (KD10 (Pa.2.2.1 v v0 v1).1).2.1; rw [← z] at q; omega), p1.2.2.2.2.2.2, if_pos (by omega)]
  | D + 1, i, N, h, hi, hN', C => by
    obtain ⟨N, rfl⟩ : ∃ n, N = n + 1 := ⟨N - 1, by omega⟩
    have p1 := Pa.2.1
    have hm := Pa.1.2.1
    obtain ⟨e2, H1, H2⟩ := id C
    have hT' : ∀ x, hT h x = hT h0 x := fun x => h2_T e2 x
    have hL' : ∀ x, hL h x = hL h0 x := fun x => h2_L e2 x
    have hR' : ∀ x j, hR h x j = hR h0 x j := fun x j => h2_R e2 x j
    have i0 : (0 : Int) ≤ i := by omega
    have i1 : (i : Int) < m0 := by omega
    obtain ⟨-, -, -, w4, -⟩ := Pa.1.2.2 (i : Int) i0 i1
    have Qi := Pa.2.2.1 (i : Int) i0 i1
    have kb := kp (i : Int) i0 i1
    obtain ⟨k, hk⟩ : ∃ k, kd h0 p (i : Int) = k := ⟨_, rfl⟩
    have far : ∀ v : Int, 0 ≤ v → v < m0 → v ≠ (i : Int) → kd h0 p v + 13 ≤ k ∨ k + 13 ≤ kd h0 p v := fun v v0 v1 hv => by
      rw [← hk]
      exact kd_nw Pa v0 v1 i0 i1 hv
    have ek : hR h (p + 1) i = k := by rw [hR', ← hk, kd_n i0, Int.toNat_natCast]
    unfold KR at Qi
    rw [hk] at Qi kb
    have own : ∀ o j, o ≤ 12 → o ≠ 5 → hI h (k + o) j = hI h0 (k + o) j := fun o j ho h5 => H1 (k + o) j (fun v v0 v1 z => by
      by_cases c : v = (i : Int)
      · rw [c, hk] at z; omega
      · have := far v v0 v1 c; omega)
    have Qh : KD h k := ⟨Qi.1.1, by rw [h2_N e2]; exact Qi.1.2.1, by rw [hT']; exact Qi.1.2.2.1, fun e he => by
      obtain ⟨a1, a2, a3⟩ := Qi.1.2.2.2 e he
      exact ⟨by rw [hR']; exact a1, by rw [hT']; exact a2, by rw [hL']; exact a3⟩⟩
    have smB : ∀ x, P ≤ x → sm h0 h x := fun x hx => ⟨fun j => H1 x j (fun v v0 v1 z => by have := kp v v0 v1; omega), fun j => hR' x j, hT' x, hL' x⟩
    have Pbh : PW h t0 K P 0 m r := PW_l2 Pb (smB P (Nat.le_refl _)) (smB (P + 1) (by omega)) (fun j j0 j1 o _ => smB _ (by have := kP j j0 j1; omega)) (by rw [h2_N e2]; exact Nat.le_refl _) (fun _ _ _ _ _ _ => rfl) rfl
    have kdP : ∀ u : Int, kd h P u = kd h0 P u := fun u => kd_2 e2 u
    obtain ⟨u, hu⟩ : ∃ u, nm0 t0 m (wg t0 1 (i : Int) 0) = u := ⟨_, rfl⟩
    have hub : u = -1 ∨ (0 ≤ u ∧ u < m) := by rw [← hu]; exact nm0_i _ _ _
    have n8 : hI h k 8 = wg t0 1 (i : Int) 30 := by have := own 0 8 (by omega) (by omega); rw [Nat.add_zero] at this; rw [this]; exact Qi.2.2.2.2.2.1.1
    obtain ⟨h2, a1, a2, a3⟩ := c90_30b Qh n8 w4 Pbh hub (fun v v0 v1 => by rw [kdP]; have := kP v v0 v1; omega) (wg t0 1 (i : Int) 30).toNat 0 hF0 h (by omega) (hF0_lt (by omega)) rfl (fun x j => by rw [if_neg (by omega)])
    have C2 : SCq h0 t0 p m m0 (i + 1) h2 := by
      refine ⟨a2.trans e2, fun x j hx => ?_, fun v v0 v1 j => ?_⟩
      · rw [a3, if_neg (fun z => hx (i : Int) i0 i1 (by rw [hk]; exact z.1))]
        exact H1 x j hx
      · by_cases c : v = (i : Int)
        · rw [c, hk, a3]
          have e5 : ∀ j, hI h (k + 5) j = hI h0 (k + 5) j := fun j => by
            have := H2 (i : Int) i0 i1 j
            rw [hk, if_neg (by omega)] at this
            exact this
          by_cases c2 : (j : Int) < wg t0 1 (i : Int) 30
          · have s2 := Qi.2.2.2.2.2.1.2 j c2
            rw [if_pos (show k + 5 = k + 5 ∧ j < (wg t0 1 (i : Int) 30).toNat from ⟨rfl, by omega⟩), if_pos (show (i : Int) < ((i + 1 : Nat) : Int) ∧ (j : Int) < wg t0 1 (i : Int) 30 from ⟨by omega, c2⟩), hu, e5, own 4 j (by omega) (by omega), s2.1, s2.2.1]
            rfl
          · rw [if_neg (by omega), if_neg (fun z => c2 z.2), e5]
        · have := far v v0 v1 c
          rw [a3, if_neg (by omega), H2 v v0 v1 j]
          by_cases c2 : v < (i : Int) ∧ (j : Int) < wg t0 1 v 30
          · rw [if_pos c2, if_pos ⟨by omega, c2.2⟩]
          · rw [if_neg c2, if_neg (fun z => c2 ⟨by omega, z.2⟩)]
    obtain ⟨h', b1, b2⟩ := c90_lb Pa Pb pP kp kP D (i + 1) N h2 (by omega) (by omega) C2
    refine ⟨h', (lp_n (s' := (((i + 1 : Nat) : Int), h2)) ?_).trans b1, b2⟩
    show c90_b2 p P (i : Int) h = _
    unfold c90_b2
    refine bnd (gI_s (by rw [hT']; exact p1.2.2.1)) ?_
    rw [H1 p 1 (fun v v0 v1 z => by have := Pa.2.1.2.2.1; have q := (KD10 (Pa.2.2.1 v v0 v1).1).2.1; rw [← z] at q; omega), p1.2.2.2.2.2.2, if_neg (by omega)]
    refine bnd (gR_s (by rw [hT']; exact p1.2.2.1)) ?_
    rw [hR', p1.2.2.2.1]
    refine bnd (aR_s (by rw [hT']; exact p1.2.2.2.2.1) i0 (by rw [hL', p1.2.2.2.2.2.1]; omega)) ?_
    rw [Int.toNat_natCast, ek]
    refine bnd (gI_s Qh.2.2.1) ?_
    have ek0 := own 0 0 (by omega) (by omega)
    rw [Nat.add_zero] at ek0
    rw [ek0, Qi.2.1.1]
    refine bnd (kT_s Pbh.2.1.2.2.1) ?_
    refine bnd (c47_e Pbh (wg t0 1 (i : Int) 0)) ?_
    rw [show ix (fun j : Nat => wg t0 0 (j : Int) 0) (wg t0 1 (i : Int) 0) m = u from hu]
    refine bnd a1 ?_
    rw [wadd_n (by omega)]
/-- both have put the statics back -/
theorem ST_e (Pa : PW h t0 K p 1 m0 r0) (Pb : PW h t0 K P 0 m r) (pP : p + 1 < P) (kp : ∀ v : Int, 0 ≤ v → v < m0 → kd h p v + 13 ≤ P) (kP : ∀ v : Int, 0 ≤ v → v < m → P + 2 ≤ kd h P v) : ∃ h' t', c90 p P h = some h' ∧ lp (fun s => c299_b26 s.1 s.2) hF0 (0, t0) = some t' ∧ PW h' t' K p 1 m0 r0 ∧ h'.2 = h.2 ∧ (∀ x j, (∀ v : Int, 0 ≤ v → v < m0 → x ≠ kd h p v + 5) → hI h' x j = hI h x j) ∧ fw t0 t' ∧ ∀ v g : Int, 0 ≤ v → v < m0 → 0 ≤ g → g < 64 → ¬ (35 ≤ g ∧ g < 39) → wg t' 1 v g = wg t0 1 v g := by
  have hm := Pa.1.2.1
  obtain ⟨h', a1, e2, H1, H2⟩ := c90_lb Pa Pb pP kp kP m0 0 hF0 h (by omega) (hF0_lt (by omega)) ⟨rfl, fun _ _ _ => rfl, fun v v0 v1 j => by rw [if_neg (by omega)]⟩
  obtain ⟨t', b1, b2, b3, b4⟩ := c299_26 Pa.1 Pb.1 m0 0 hF0 t0 (by omega) (hF0_lt (by omega)) fp_rf rfl (fun v g v0 v1 g0 g1 => by rw [if_neg (by omega)])
  have w : ∀ v g : Int, 0 ≤ v → v < m0 → 0 ≤ g → g < 64 → ¬ (35 ≤ g ∧ g < 39) → wg t' 1 v g = wg t0 1 v g := fun v g v0 v1 g0 g1 hg => by
    have := (Pa.1.2.2 v v0 v1).2.2.2.1
    rw [b4 v g v0 (by omega) g0 g1, if_neg (by omega)]
  refine ⟨h', t', ?_, b1, ⟨⟨by rw [b3]; exact Pa.1.1, hm, fun v v0 v1 => ?_⟩, ?_, fun j j0 j1 => ?_, fun i j i0 i1 j0 j1 => ?_⟩, e2, H1, b2, w⟩
  · unfold c90
    refine bnd a1 ?_
    rfl
  · rw [w v 1 v0 v1 (by omega) (by omega) (by omega), w v 5 v0 v1 (by omega) (by omega) (by omega), w v 30 v0 v1 (by omega) (by omega) (by omega), w v 39 v0 v1 (by omega) (by omega) (by omega)]
    exact Pa.1.2.2 v v0 v1
  · obtain ⟨x1, x2, x3, x4, x5, x6, x7⟩ := Pa.2.1
    exact ⟨x1, by rw [h2_N e2]; exact x2, by rw [h2_T e2]; exact x3, by rw [h2_R e2]; exact x4, by rw [h2_T e2]; exact x5, by rw [h2_L e2]; exact x6, by
      rw [H1 p 1 (fun v v0 v1 z => by have q := (KD10 (Pa.2.2.1 v v0 v1).1).2.1; rw [← z] at q; omega)]
      exact x7⟩
  · obtain ⟨Q, ⟨n1, n2, n3⟩, k4, k5, ⟨f1, f2⟩, ⟨s1, s2⟩, a1', a2⟩ := Pa.2.2.1 j j0 j1
    obtain ⟨-, -, w3, w4, w5⟩ := Pa.1.2.2 j j0 j1
    have own : ∀ o i, o ≤ 12 → o ≠ 5 → hI h' (kd h p j + o) i = hI h (kd h p j + o) i := fun o i ho h5 => H1 _ i (fun v v0 v1 z => by
      by_cases c : v = j
      · rw [c] at z; omega
      · have := kd_nw Pa v0 v1 j0 j1 c; omega)
    have own0 := fun i => own 0 i (by omega) (by omega)
    rw [Nat.add_zero] at own0
    have ww := fun g (g0 : 0 ≤ g) (g1 : g < 64) hg => w j g j0 j1 g0 g1 hg
    unfold KR
    rw [kd_2 e2, kd_2 e2, own0, own0, own0, own0, own0, h2_R e2, ww 0 (by omega) (by omega) (by omega), ww 1 (by omega) (by omega) (by omega), ww 2 (by omega) (by omega) (by omega), ww 5 (by omega) (by omega) (by omega), ww 30 (by omega) (by omega) (by omega), ww 39 (by omega) (by omega) (by omega)]
    refine ⟨⟨Q.1, by rw [h2_N e2]; exact Q.2.1, by rw [h2_T e2]; exact Q.2.2.1, fun e he => by
      obtain ⟨y1, y2, y3⟩ := Q.2.2.2 e he
      exact ⟨by rw [h2_R e2]; exact y1, by rw [h2_T e2]; exact y2, by rw [h2_L e2]; exact y3⟩⟩, ⟨n1, n2, n3⟩, k4, k5, ⟨f1, fun i hi => ?_⟩, ⟨s1, fun i hi => ?_⟩, a1', fun i hi => ?_⟩
    · rw [own 1 i (by omega) (by omega), own 2 i (by omega) (by omega), ww _ (by omega) (by omega) (by omega), ww _ (by omega) (by omega) (by omega)]
      exact f2 i hi
    · obtain ⟨y1, y2, y3⟩ := s2 i hi
      rw [own 4 i (by omega) (by omega), ww (31 + i) (by omega) (by omega) (by omega), H2 j j0 j1 i, if_pos ⟨j1, hi⟩, b4 j (35 + i) j0 (by omega) (by omega) (by omega), if_pos ⟨j1, by omega, by omega⟩, show (35 + (i : Int) - 35).toNat = i by omega]
      exact ⟨y1, rfl, y3⟩
    · rw [own 6 i (by omega) (by omega), h2_R e2, ww _ (by omega) (by omega) (by omega), ww _ (by omega) (by omega) (by omega)]
      exact a2 i hi
  · rw [w i 0 i0 i1 (by omega) (by omega) (by omega), w j 0 j0 j1 (by omega) (by omega) (by omega)]
    exact Pa.2.2.2 i j i0 i1 j0 j1
end BK5
