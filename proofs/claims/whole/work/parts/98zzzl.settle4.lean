/-! a patch is made: generations and statics on the other side; statics in the class -/
section STT
variable {h h' h0 h1 t t0 t' : hS} {m m0 P p k : Nat} {r r0 : Int → Nat} {G j : Int} {K : Nat → Int → Prop}
/-- what the rows are then -/
def gsv (t0 : hS) (G v g : Int) : Int := if g = 2 ∧ wg t0 1 v 3 = 1 then G else if 35 ≤ g ∧ g < 35 + wg t0 1 v 30 then stv t0 v (g - 35).toNat else wg t0 1 v g
theorem stv_f (W0 : WF t0 0 m0 r0) (f : fw t0 t) {v : Int} (ho : wg t0 1 v 4 = -1 ∨ (0 ≤ wg t0 1 v 4 ∧ wg t0 1 v 4 < m0)) (w30 : wg t0 1 v 30 ≤ 4) (e : ∀ g : Int, 0 ≤ g → g < 39 → g ≠ 2 → wg t 1 v g = wg t0 1 v g) {i : Nat} (hi : (i : Int) < wg t0 1 v 30) : stv t v i = stv t0 v i := by
  unfold stv
  rw [e 4 (by omega) (by omega) (by omega), e (31 + i) (by omega) (by omega) (by omega), e (35 + i) (by omega) (by omega) (by omega)]
  by_cases c : wg t0 1 v 4 = -1
  · rw [if_pos c, if_pos c]
  · have ho' : 0 ≤ wg t0 1 v 4 ∧ wg t0 1 v 4 < m0 := by omega
    rw [if_neg c, if_neg c, sIx_x (fw_x W0 f) W0 ho'.1 ho'.2]
    by_cases c2 : sIx t0 0 (wg t0 1 v 4) (wg t0 1 v (31 + i)) = -1
    · rw [if_pos c2, if_pos c2]
    · rw [if_neg c2, if_neg c2]
      obtain ⟨y1, y2, -⟩ := sIx_lt W0 ho'.1 ho'.2 c2
      obtain ⟨-, -, -, w04, -⟩ := W0.2.2 _ ho'.1 ho'.2
      have := W0.2.1
      exact fw_w f (.inl rfl) ho'.1 (by omega) (by omega) (by omega)
theorem c274_194 (W : WF t0 1 m r) (W0 : WF t0 0 m0 r0) (Gb : 0 ≤ G ∧ G ≤ 100000) (eG : hI t0 395 27 = G) (ho : ∀ v : Int, 0 ≤ v → v < m → wg t0 1 v 4 = -1 ∨ (0 ≤ wg t0 1 v 4 ∧ wg t0 1 v 4 < m0)) : ∀ (D i N : Nat) (t : hS), i + D = m → D < N → fw t0 t → wm t 1 = wm t0 1 → (∀ v g : Int, 0 ≤ v → v < 12 → 0 ≤ g → g < 64 → wg t 1 v g = if v < (i : Int) then gsv t0 (G + 1) v g else wg t0 1 v g) → ∃ t', lp (fun s => c274_b194 s.1 s.2) N ((i : Int), t) = some t' ∧ fw t0 t' ∧ wm t' 1 = wm t0 1 ∧ ∀ v g : Int, 0 ≤ v → v < 12 → 0 ≤ g → g < 64 → wg t' 1 v g = if v < (m : Int) then gsv t0 (G + 1) v g else wg t0 1 v g
  | 0, i, N, t, hi, hN, f, em, H => by
    obtain ⟨N, rfl⟩ : ∃ n, N = n + 1 := ⟨N - 1, by omega⟩
    obtain rfl : i = m := by omega
    refine ⟨t, lp_d ?_, f, em, H⟩
    show c274_b194 (i : Int) t = _
    unfold c274_b194
    refine bnd (c198_e (by omega) (by omega)) ?_
    rw [em, W.1, if_pos (by omega)]
  | D + 1, i, N, t, hi, hN, f, em, H => by
    obtain ⟨N, rfl⟩ : ∃ n, N = n + 1 := ⟨N - 1, by omega⟩
    have hm := W.2.1
    obtain ⟨-, -, w3, w4, w5⟩ := W.2.2 (i : Int) (by omega) (by omega)
    have cur : ∀ g : Int, 0 ≤ g → g < 64 → wg t 1 (i : Int) g = wg t0 1 (i : Int) g := fun g g0 g1 => by rw [H (i : Int) g (by omega) (by omega) g0 g1, if_neg (by omega)]
    have e27 : hI t 395 27 = G := by rw [f.2 395 27 (by omega)]; exact eG
    -- the generation
    obtain ⟨t1, f1, m1, w1, st⟩ : ∃ t1, fw t t1 ∧ wm t1 1 = wm t 1 ∧ (∀ v g : Int, 0 ≤ v → v < 12 → 0 ≤ g → g < 64 → wg t1 1 v g = if v = (i : Int) ∧ g = 2 ∧ wg t0 1 (i : Int) 3 = 1 then G + 1 else wg t 1 v g) ∧ c274_b194 (i : Int) t = c274_j227 (i : Int) t1 := by
      by_cases c : wg t0 1 (i : Int) 3 = 1
      · refine ⟨wset t 1 (i : Int) 2 (G + 1), fw_set (by omega) (by omega) (by omega) (by omega), wms (by omega) (by omega) (by omega) (by omega), fun v g v0 v1 g0 g1 => ?_, ?_⟩
        · rw [wgs (by omega) (by omega) (by omega) (by omega) v0 v1 g0 g1]
          by_cases y : v = (i : Int) ∧ g = 2
          · rw [if_pos y, if_pos ⟨y.1, y.2, c⟩]
          · rw [if_neg y, if_neg (fun z => y ⟨z.1, z.2.1⟩)]
        · unfold c274_b194
          refine (bnd (c198_e (by omega) (by omega)) rfl).trans ?_
          rw [em, W.1, if_neg (by omega)]
          refine (bnd (c199_e (by omega) (by omega) (by omega) (by omega) (by omega) (by omega)) rfl).trans ?_
          rw [cur 3 (by omega) (by omega), if_pos c, e27, wadd_e (by omega) (by omega)]
          exact (bnd (c201_e (by omega) (by omega) (by omega) (by omega) (by omega) (by omega)) rfl)
      · refine ⟨t, fp_rf, rfl, fun v g v0 v1 g0 g1 => by rw [if_neg (fun z => c z.2.2)], ?_⟩
        unfold c274_b194
        refine (bnd (c198_e (by omega) (by omega)) rfl).trans ?_
        rw [em, W.1, if_neg (by omega)]
        refine (bnd (c199_e (by omega) (by omega) (by omega) (by omega) (by omega) (by omega)) rfl).trans ?_
        rw [cur 3 (by omega) (by omega), if_neg c]
    have c1 : ∀ g : Int, 0 ≤ g → g < 64 → g ≠ 2 → wg t1 1 (i : Int) g = wg t0 1 (i : Int) g := fun g g0 g1 hg => by rw [w1 (i : Int) g (by omega) (by omega) g0 g1, if_neg (fun z => hg z.2.1), cur g g0 g1]
    have ff := fp_tr f f1
    have W1 : WF t1 1 m r := by
      refine ⟨by rw [m1, em]; exact W.1, hm, fun v v0 v1 => ?_⟩
      have hv : ∀ g : Int, g = 1 ∨ g = 5 ∨ g = 30 ∨ g = 39 → wg t1 1 v g = wg t0 1 v g := fun g hg => by
        rw [w1 v g v0 (by omega) (by omega) (by omega), if_neg (by omega), H v g v0 (by omega) (by omega) (by omega)]
        by_cases y : v < (i : Int)
        · rw [if_pos y]
          unfold gsv
          have := (W.2.2 v v0 v1).2.2.2.1
          rw [if_neg (by omega), if_neg (by omega)]
        · rw [if_neg y]
      rw [hv 1 (by omega), hv 5 (by omega), hv 30 (by omega), hv 39 (by omega)]
      exact W.2.2 v v0 v1
    obtain ⟨t2, a1, a2, a3, a4⟩ := c274_239 (k := i) W1 (WF0_f W0 ff) (by omega) (by rw [c1 4 (by omega) (by omega) (by omega)]; exact ho (i : Int) (by omega) (by omega)) (wg t1 1 (i : Int) 30).toNat 0 hF0 t1 (by omega) (hF0_lt (by rw [c1 30 (by omega) (by omega) (by omega)]; omega)) fp_rf rfl (fun v g v0 v1 g0 g1 => by rw [if_neg (by omega)])
    obtain ⟨t', b1, b2, b3, b4⟩ := c274_194 W W0 Gb eG ho D (i + 1) N t2 (by omega) (by omega) (fp_tr ff a2) (a3.trans (m1.trans em)) (fun v g v0 v1 g0 g1 => by
      rw [a4 v g v0 v1 g0 g1, c1 30 (by omega) (by omega) (by omega)]
      by_cases y : v = (i : Int)
      · rw [if_pos (show v < ((i + 1 : Nat) : Int) by omega)]
        unfold gsv
        rw [y]
        by_cases y2 : 35 ≤ g ∧ g < 35 + wg t0 1 (i : Int) 30
        · rw [if_pos ⟨rfl, y2⟩, if_neg (by omega), if_pos y2]
          exact stv_f W0 ff (ho (i : Int) (by omega) (by omega)) w4.2 (fun g g0 g1 hg => c1 g g0 (by omega) hg) (by omega)
        · rw [if_neg (fun z => y2 z.2), if_neg y2, w1 (i : Int) g (by omega) (by omega) g0 g1, cur g g0 g1]
          by_cases y3 : g = 2 ∧ wg t0 1 (i : Int) 3 = 1
          · rw [if_pos ⟨rfl, y3⟩, if_pos y3]
          · rw [if_neg (fun z => y3 z.2), if_neg y3]
      · rw [if_neg (fun z => y z.1), w1 v g v0 v1 g0 g1, if_neg (fun z => y z.1), H v g v0 v1 g0 g1]
        by_cases y2 : v < (i : Int)
        · rw [if_pos y2, if_pos (by omega)]
        · rw [if_neg y2, if_neg (by omega)])
    refine ⟨t', (lp_n (s' := (((i + 1 : Nat) : Int), t2)) ?_).trans b1, b2, b3, b4⟩
    show c274_b194 (i : Int) t = _
    rw [st]
    unfold c274_j227
    refine bnd (c199_e (by omega) (by omega) (by omega) (by omega) (by omega) (by omega)) ?_
    refine bnd a1 ?_
    rw [wadd_n (by omega)]
/-- the class: one kind's statics -/
theorem c90_30 (Q : KD h0 k) {S u : Int} (hS4 : hI h0 k 8 = S) (S4 : 0 ≤ S ∧ S ≤ 4) (Pw : PW h0 t0 K p 0 m0 r0) (hu : u = -1 ∨ (0 ≤ u ∧ u < m0)) (hpk : ∀ v : Int, 0 ≤ v → v < m0 → kd h0 p v + 13 ≤ k) : ∀ (D i N : Nat) (h : hS), i + D = S.toNat → D < N → h.2 = h0.2 → (∀ x j, hI h x j = if x = k + 5 ∧ j < i then (if u = -1 then hI h0 (k + 5) j else if sIx t0 0 u (hI h0 (k + 4) j) = -1 then hI h0 (k + 5) j else wg t0 0 u (35 + sIx t0 0 u (hI h0 (k + 4) j))) else hI h0 x j) → ∃ h', lp (fun s => c90_b30 k (kd h0 p u) s.1 s.2) N ((i : Int), h) = some h' ∧ h'.2 = h0.2 ∧ ∀ x j, hI h' x j = if x = k + 5 ∧ j < S.toNat then (if u = -1 then hI h0 (k + 5) j else if sIx t0 0 u (hI h0 (k + 4) j) = -1 then hI h0 (k + 5) j else wg t0 0 u (35 + sIx t0 0 u (hI h0 (k + 4) j))) else hI h0 x j
  | 0, i, N, h, hi, hN, e2, H => by
    obtain ⟨N, rfl⟩ : ∃ n, N = n + 1 := ⟨N - 1, by omega⟩
    obtain rfl : i = S.toNat := by omega
    refine ⟨h, lp_d ?_, e2, H⟩
    have hT' : ∀ x, hT h x = hT h0 x := fun x => h2_T e2 x
    show c90_b30 k (kd h0 p u) ((S.toNat : Nat) : Int) h = _
    unfold c90_b30
    by_cases c : u = -1
    · rw [c, kd_m]
      refine bnd hnul_0 ?_
      rw [if_pos rfl]
    · have hu' : 0 ≤ u ∧ u < m0 := by omega
      have k8 := kd_8 Pw hu'.1 hu'.2
      refine bnd (hnul_8 (by omega)) ?_
      rw [if_neg (by decide)]
      refine bnd (gI_s (by rw [hT']; exact Q.2.2.1)) ?_
      rw [show hI h k 8 = S by rw [H k 8, if_neg (by omega)]; exact hS4, if_pos (by omega)]
  | D + 1, i, N, h, hi, hN, e2, H => by
    obtain ⟨N, rfl⟩ : ∃ n, N = n + 1 := ⟨N - 1, by omega⟩
    have hT' : ∀ x, hT h x = hT h0 x := fun x => h2_T e2 x
    have hL' : ∀ x, hL h x = hL h0 x := fun x => h2_L e2 x
    have hR' : ∀ x j, hR h x j = hR h0 x j := fun x j => h2_R e2 x j
    by_cases c : u = -1
    · refine ⟨h, lp_d ?_, e2, fun x j => ?_⟩
      · show c90_b30 k (kd h0 p u) (i : Int) h = _
        unfold c90_b30
        rw [c, kd_m]
        refine bnd hnul_0 ?_
        rw [if_pos rfl]
      · rw [H x j]
        by_cases y : x = k + 5 ∧ j < S.toNat
        · rw [if_pos y, if_pos c, y.1]
          by_cases y2 : k + 5 = k + 5 ∧ j < i
          · rw [if_pos y2]
          · rw [if_neg y2]
        · rw [if_neg y, if_neg (by omega)]
    · have hu' : 0 ≤ u ∧ u < m0 := by omega
      have k8 := kd_8 Pw hu'.1 hu'.2
      have kb := hpk u hu'.1 hu'.2
      obtain ⟨Qu, -, -, -, -, s6, -⟩ := Pw.2.2.1 u hu'.1 hu'.2
      obtain ⟨-, -, -, w4, -⟩ := Pw.1.2.2 u hu'.1 hu'.2
      obtain ⟨q9, q9t, q9l⟩ := KD9 Q
      obtain ⟨q10, q10t, q10l⟩ := KD10 Q
      obtain ⟨v9, v9t, v9l⟩ := KD9 Qu
      obtain ⟨v10, v10t, v10l⟩ := KD10 Qu
      have n5 : hI h (k + 4) i = hI h0 (k + 4) i := by rw [H, if_neg (by omega)]
      have e81 : c81 (kd h0 p u) (hI h0 (k + 4) i) h = some (sIx t0 0 u (hI h0 (k + 4) i)) := by
        have e := c81_w (n := hI h0 (k + 4) i) Pw hu'.1 hu'.2
        unfold c81 at e ⊢
        have q1 : gR h (kd h0 p u) 24 9 = gR h0 (kd h0 p u) 24 9 := by rw [gR_s (by rw [hT']; exact Qu.2.2.1), gR_s Qu.2.2.1, hR']
        have q2 : gI h (kd h0 p u) 24 8 = gI h0 (kd h0 p u) 24 8 := by rw [gI_s (by rw [hT']; exact Qu.2.2.1), gI_s Qu.2.2.1, H, if_neg (by omega)]
        rw [q1, q2]
        rw [gR_s Qu.2.2.1, gI_s Qu.2.2.1] at e ⊢
        rw [v9, s6.1] at e ⊢
        have e3 : c29 (kd h0 p u + 4) (wg t0 0 u 30) (hI h0 (k + 4) i) h = c29 (kd h0 p u + 4) (wg t0 0 u 30) (hI h0 (k + 4) i) h0 := by
          obtain ⟨A, hA⟩ : ∃ A : Nat, wg t0 0 u 30 = (A : Int) := ⟨(wg t0 0 u 30).toNat, by omega⟩
          rw [hA, c29_e (by rw [hT']; exact v9t) (by rw [hL']; omega) (by omega), c29_e v9t (by omega) (by omega)]
          exact congrArg some (ix_congr (fun a ha => by rw [H, if_neg (by omega)]))
        refine (bnd rfl (bnd rfl ?_)).trans e
        exact congrArg (fun z => Option.bind z _) e3
      have go : ∀ h1 : hS, h1.2 = h0.2 → (∀ x j, hI h1 x j = if x = k + 5 ∧ j = i then (if sIx t0 0 u (hI h0 (k + 4) i) = -1 then hI h0 (k + 5) i else wg t0 0 u (35 + sIx t0 0 u (hI h0 (k + 4) i))) else hI h x j) → c90_b30 k (kd h0 p u) (i : Int) h = some (.inl (((i + 1 : Nat) : Int), h1)) → ∃ h', lp (fun s => c90_b30 k (kd h0 p u) s.1 s.2) (N + 1) ((i : Int), h) = some h' ∧ h'.2 = h0.2 ∧ ∀ x j, hI h' x j = if x = k + 5 ∧ j < S.toNat then (if u = -1 then hI h0 (k + 5) j else if sIx t0 0 u (hI h0 (k + 4) j) = -1 then hI h0 (k + 5) j else wg t0 0 u (35 + sIx t0 0 u (hI h0 (k + 4) j))) else hI h0 x j := fun h1 e3 H1 e => by
        obtain ⟨h', a1, a2, a3⟩ := c90_30 Q hS4 S4 Pw hu hpk D (i + 1) N h1 (by omega) (by omega) e3 (fun x j => by
          rw [H1]
          by_cases y : x = k + 5 ∧ j = i
          · rw [if_pos y, if_pos (show x = k + 5 ∧ j < i + 1 by omega), if_neg c, y.2]
          · rw [if_neg y, H]
            by_cases y2 : x = k + 5 ∧ j < i
            · rw [if_pos y2, if_pos (show x = k + 5 ∧ j < i + 1 by omega)]
            · rw [if_neg y2, if_neg (show ¬ (x = k + 5 ∧ j < i + 1) by omega)])
        exact ⟨h', (lp_n (show (fun s : Int × hS => c90_b30 k (kd h0 p u) s.1 s.2) ((i : Int), h) = _ from e)).trans a1, a2, a3⟩
      have st : ∀ R, (if sIx t0 0 u (hI h0 (k + 4) i) = -1 then c90_j79 (i : Int) h else (gR h k 24 10).bind (fun v16 => (gR h (kd h0 p u) 24 10).bind (fun v17 => (aI h v17 1 (sIx t0 0 u (hI h0 (k + 4) i))).bind (fun v18 => (wI h v16 1 (i : Int) v18).bind (fun h19 => c90_j79 (i : Int) h19))))) = R → c90_b30 k (kd h0 p u) (i : Int) h = R := fun R e => by
        unfold c90_b30
        refine bnd (hnul_8 (by omega)) ?_
        rw [if_neg (by decide)]
        refine bnd (gI_s (by rw [hT']; exact Q.2.2.1)) ?_
        rw [show hI h k 8 = S by rw [H k 8, if_neg (by omega)]; exact hS4, if_neg (by omega)]
        refine bnd (gR_s (by rw [hT']; exact Q.2.2.1)) ?_
        rw [hR', q9]
        refine bnd (aI_s (by rw [hT']; exact q9t) (by omega) (by rw [hL', q9l]; omega)) ?_
        refine bnd (kT_s (by rw [hT']; exact Qu.2.2.1)) ?_
        rw [Int.toNat_natCast, n5]
        refine bnd e81 ?_
        exact e
      by_cases c2 : sIx t0 0 u (hI h0 (k + 4) i) = -1
      · refine go h e2 (fun x j => ?_) (st _ ?_)
        · by_cases y : x = k + 5 ∧ j = i
          · rw [if_pos y, if_pos c2, H, if_neg (by omega), y.1, y.2]
          · rw [if_neg y]
        · rw [if_pos c2]
          unfold c90_j79
          rw [wadd_n (by omega)]
      · obtain ⟨y1, y2, -⟩ := sIx_lt Pw.1 hu'.1 hu'.2 c2
        generalize hz : sIx t0 0 u (hI h0 (k + 4) i) = z at *
        have hv : hI h (kd h0 p u + 5) z.toNat = wg t0 0 u (35 + z) := by
          rw [H, if_neg (by omega), (s6.2 z.toNat (by omega)).2.1, show ((z.toNat : Nat) : Int) = z by omega]
        refine go (sI h (k + 5) i (wg t0 0 u (35 + z))) e2 (fun x j => ?_) (st _ ?_)
        · rw [hI_sI, if_neg c2]
        · rw [if_neg c2]
          refine bnd (gR_s (by rw [hT']; exact Q.2.2.1)) ?_
          refine bnd (gR_s (by rw [hT']; exact Qu.2.2.1)) ?_
          rw [hR', hR', q10, v10]
          refine bnd (aI_s (by rw [hT']; exact v10t) (by omega) (by rw [hL', v10l]; omega)) ?_
          rw [hv]
          refine bnd (wI_s (by rw [hT']; exact q10t) (by omega) (by rw [hL', q10l]; omega)) ?_
          unfold c90_j79
          rw [Int.toNat_natCast, wadd_n (by omega)]
end STT
