section MB2
variable {hc hr : hS} {K K' : Nat → Int → Prop} {p m s : Nat} {r : Int → Nat} {j n v : Int}
theorem wR_s {h : hS} {x t te : Nat} {i : Int} {v : Nat} (q : hT h x = t) (q8 : 8 ≤ x) (q0 : 0 ≤ i) (q1 : i < (hL h x : Int)) (qv : v = 0 ∨ hT h v = te) : wR h x t te i v = some (sR h x i.toNat v) := if_pos ⟨⟨q, q8, q0, q1⟩, qv⟩
theorem opS (B : BW hc hr K p m r) (j0 : 0 ≤ j) (j1 : j < m) (hs : hT hc s = 22) (s3 : hI hc s 3 = n) (s4 : hI hc s 4 = v) (n0 : 0 ≤ n ∧ n < 40) (q : hOw hr 1 j n = false) (h4 : wg hr 1 j 30 ≠ 4) : ∃ hc' hr', c77 (kd hc p j) s hc = some (0, hc') ∧ c222 1 j n v hr = some hr' ∧ BW hc' hr' K p m r ∧ kf (kd hc p j) hc hc' ∧ fw hr hr' := by
  have Q := B.1.2.2.1 j j0 j1
  have X := B.2.2.2.2 j j0 j1
  obtain ⟨w1, w2, w3, w4, w5⟩ := B.1.1.2.2 j j0 j1
  have hm := B.1.1.2.1
  obtain ⟨F, hF⟩ : ∃ F : Nat, wg hr 1 j 30 = (F : Int) := ⟨(wg hr 1 j 30).toNat, by omega⟩
  have hF8 : F < 4 := by omega
  obtain ⟨k, hk⟩ : ∃ k, kd hc p j = k := ⟨_, rfl⟩
  have e61 := c61_w (n := n) B.1 j0 j1
  rw [q] at e61
  unfold KR at Q
  unfold XR at X
  rw [hk] at Q X e61 ⊢
  obtain ⟨k1, k2, k3, k4, k5, k6, k7⟩ := Q
  have t := k1.2.2.1
  have ns := fun o ho => KD_no (o := o) k1 hs ho
  have ns0 : s ≠ k := ns 0 (by omega)
  have ns4 := ns 4 (by omega)
  have ns5 := ns 5 (by omega)
  obtain ⟨r1, r2, r3⟩ := KD9 k1
  obtain ⟨r4, r5, r6⟩ := KD10 k1
  have a4 : hI hc k 8 = (F : Int) := by rw [k6.1]; exact hF
  have eC : c77 k s hc = some (0, sI (sI (sI hc (k + 4) F n) (k + 5) F v) k 8 ((F + 1 : Nat) : Int)) := by
    unfold c77
    rw [gI_s hs, s3]
    simp only [bsome]
    rw [kT_s t]
    simp only [bsome]
    rw [e61]
    simp only [bsome]
    rw [if_pos (by decide), gI_s t, a4]
    simp only [bsome]
    rw [if_pos (by omega), gR_s t, r1]
    simp only [bsome]
    rw [wI_s r2 (by omega) (by omega), Int.toNat_natCast]
    simp only [bsome]
    rw [gR_s (show hT (sI hc (k + 4) F n) k = 24 from t), show hR (sI hc (k + 4) F n) k 10 = k + 5 from r4]
    simp only [bsome]
    rw [gI_s (show hT (sI hc (k + 4) F n) k = 24 from t), hI_sI, if_neg (by omega), a4]
    simp only [bsome]
    rw [gI_s (show hT (sI hc (k + 4) F n) s = 22 from hs), hI_sI, if_neg (by omega), s4]
    simp only [bsome]
    rw [wI_s (show hT (sI hc (k + 4) F n) (k + 5) = 1 from r5) (by omega) (show (F : Int) < (hL hc (k + 5) : Int) by omega), Int.toNat_natCast]
    simp only [bsome]
    rw [gI_s (show hT (sI (sI hc (k + 4) F n) (k + 5) F v) k = 24 from t), hI_sI, if_neg (by omega), hI_sI, if_neg (by omega), a4]
    simp only [bsome]
    rw [pI_s (show hT (sI (sI hc (k + 4) F n) (k + 5) F v) k = 24 from t), wadd_n (by omega)]
    rfl
  have eR : c222 1 j n v hr = some (wset (wset (wset hr 1 j 30 ((F + 1 : Nat) : Int)) 1 j (31 + F) n) 1 j (35 + F) v) := by
    unfold c222
    rw [c199_e (by omega) (by omega) j0 (by omega) (by omega) (by omega), hF]
    simp only [bsome]
    rw [wadd_n (by omega), c201_e (by omega) (by omega) j0 (by omega) (by omega) (by omega)]
    simp only [bsome]
    rw [wadd_e (x := 31) (by omega) (by omega), c201_e (by omega) (by omega) j0 (by omega) (by omega) (by omega)]
    simp only [bsome]
    rw [wadd_e (x := 35) (by omega) (by omega), c201_e (by omega) (by omega) j0 (by omega) (by omega) (by omega)]
    rfl
  have eW : ∀ u g : Int, 0 ≤ u → u < 12 → 0 ≤ g → g < 64 → wg (wset (wset (wset hr 1 j 30 ((F + 1 : Nat) : Int)) 1 j (31 + F) n) 1 j (35 + F) v) 1 u g = if u = j ∧ g = 35 + F then v else if u = j ∧ g = 31 + F then n else if u = j ∧ g = 30 then ((F + 1 : Nat) : Int) else wg hr 1 u g := fun u g u0 u1 g0 g1 => by
    rw [wgs j0 (by omega) (by omega) (by omega) u0 u1 g0 g1, wgs j0 (by omega) (by omega) (by omega) u0 u1 g0 g1, wgs j0 (by omega) (by omega) (by omega) u0 u1 g0 g1]
  have fR : fw hr (wset (wset (wset hr 1 j 30 ((F + 1 : Nat) : Int)) 1 j (31 + F) n) 1 j (35 + F) v) := fp_tr (fp_tr (fw_set j0 (by omega) (by omega) (by omega)) (fw_set j0 (by omega) (by omega) (by omega))) (fw_set j0 (by omega) (by omega) (by omega))
  have mR : wm (wset (wset (wset hr 1 j 30 ((F + 1 : Nat) : Int)) 1 j (31 + F) n) 1 j (35 + F) v) 1 = wm hr 1 := by
    rw [wms j0 (by omega) (by omega) (by omega), wms j0 (by omega) (by omega) (by omega), wms j0 (by omega) (by omega) (by omega)]
  have fC : kf k hc (sI (sI (sI hc (k + 4) F n) (k + 5) F v) k 8 ((F + 1 : Nat) : Int)) := kf_tr (kf_tr (kf_sI (by omega)) (kf_sI (by omega))) kf_s0
  have eI : ∀ x i, hI (sI (sI (sI hc (k + 4) F n) (k + 5) F v) k 8 ((F + 1 : Nat) : Int)) x i = if x = k ∧ i = 8 then ((F + 1 : Nat) : Int) else if x = k + 5 ∧ i = F then v else if x = k + 4 ∧ i = F then n else hI hc x i := fun x i => by
    rw [hI_sI, hI_sI, hI_sI]
  refine ⟨_, _, eC, eR, ?_, fC, fR⟩
  generalize wset (wset (wset hr 1 j 30 ((F + 1 : Nat) : Int)) 1 j (31 + F) n) 1 j (35 + F) v = hr' at eW fR mR ⊢
  have kR : ∀ x i, hR (sI (sI (sI hc (k + 4) F n) (k + 5) F v) k 8 ((F + 1 : Nat) : Int)) x i = hR hc x i := fun _ _ => rfl
  have kD : KD (sI (sI (sI hc (k + 4) F n) (k + 5) F v) k 8 ((F + 1 : Nat) : Int)) k := k1
  generalize sI (sI (sI hc (k + 4) F n) (k + 5) F v) k 8 ((F + 1 : Nat) : Int) = hc' at fC eI kR kD ⊢
  refine BW_j B j0 j1 (fun x hx _ => fC.2.2.2.2 x (by rw [hk] at hx; omega)) (by rw [fC.1]; exact Nat.le_refl _) (fun u g u0 u1 g0 g1 hu => ?_) ?_ ?_ mR (fun _ _ h => h) (fun x v' hx => ?_) (fun hkd => ?_) ⟨?_, ?_, ?_⟩
  · rw [eW u g u0 u1 g0 g1, if_neg (fun z => hu z.1), if_neg (fun z => hu z.1), if_neg (fun z => hu z.1)]
  · rw [eW j 0 j0 (by omega) (by omega) (by omega), if_neg (by omega), if_neg (by omega), if_neg (by omega)]
  · rw [eW j 1 j0 (by omega) (by omega) (by omega), if_neg (by omega), if_neg (by omega), if_neg (by omega)]
  · rw [fC.1]
    exact B.2.2.2.1 x v' hx
  · have g5 : wg hr' 1 j 30 = ((F + 1 : Nat) : Int) := by rw [eW j 30 j0 (by omega) (by omega) (by omega), if_neg (by omega), if_neg (by omega), if_pos ⟨rfl, rfl⟩]
    have gO : ∀ g : Int, 0 ≤ g → g < 64 → (g ≠ 30 ∧ g ≠ 31 + F ∧ g ≠ 35 + F) → wg hr' 1 j g = wg hr 1 j g := fun g g0 g1 hg => by
      rw [eW j g j0 (by omega) g0 g1, if_neg (by omega), if_neg (by omega), if_neg (by omega)]
    unfold KR XR
    rw [hkd, hkd, hk, g5]
    refine ⟨⟨kD, ?_, ?_, ?_, ⟨?_, fun i hi => ?_⟩, ⟨?_, fun i hi => ?_⟩, ?_, fun i hi => ?_⟩, ?_, fun i hi => ?_⟩
    · rw [eI, if_neg (by omega), if_neg (by omega), if_neg (by omega), gO 0 (by omega) (by omega) (by omega)]
      exact k2
    · rw [kR, gO 1 (by omega) (by omega) (by omega)]
      exact k3
    · rw [eI, if_neg (by omega), if_neg (by omega), if_neg (by omega), gO 2 (by omega) (by omega) (by omega)]
      exact k4
    · rw [eI, if_neg (by omega), if_neg (by omega), if_neg (by omega), gO 5 (by omega) (by omega) (by omega)]
      exact k5.1
    · rw [gO 5 (by omega) (by omega) (by omega)] at hi
      rw [eI, if_neg (by omega), if_neg (by omega), if_neg (by omega), eI, if_neg (by omega), if_neg (by omega), if_neg (by omega), gO _ (by omega) (by omega) (by omega), gO _ (by omega) (by omega) (by omega)]
      exact k5.2 i hi
    · rw [eI, if_pos ⟨rfl, rfl⟩]
    · by_cases c : i = F
      · subst c
        rw [eI, if_neg (by omega), if_neg (by omega), if_pos ⟨rfl, rfl⟩, eI, if_neg (by omega), if_pos ⟨rfl, rfl⟩, eW j _ j0 (by omega) (by omega) (by omega), if_neg (by omega), if_pos ⟨rfl, rfl⟩, eW j _ j0 (by omega) (by omega) (by omega), if_pos ⟨rfl, rfl⟩]
        exact ⟨rfl, rfl, n0⟩
      · rw [eI, if_neg (by omega), if_neg (by omega), if_neg (by omega), eI, if_neg (by omega), if_neg (by omega), if_neg (by omega), gO _ (by omega) (by omega) (by omega), gO _ (by omega) (by omega) (by omega)]
        exact k6.2 i (by omega)
    · rw [eI, if_neg (by omega), if_neg (by omega), if_neg (by omega), gO 39 (by omega) (by omega) (by omega)]
      exact k7.1
    · rw [gO 39 (by omega) (by omega) (by omega)] at hi
      rw [eI, if_neg (by omega), if_neg (by omega), if_neg (by omega), kR, gO _ (by omega) (by omega) (by omega), gO _ (by omega) (by omega) (by omega)]
      exact k7.2 i hi
    · rw [eI, if_neg (by omega), if_neg (by omega), if_neg (by omega), gO 3 (by omega) (by omega) (by omega)]
      exact X.1
    · rw [gO 5 (by omega) (by omega) (by omega)] at hi
      rw [eI, if_neg (by omega), if_neg (by omega), if_neg (by omega), gO _ (by omega) (by omega) (by omega)]
      exact X.2 i hi
  · rw [eW j 5 j0 (by omega) (by omega) (by omega), if_neg (by omega), if_neg (by omega), if_neg (by omega)]
    exact w3
  · rw [eW j 30 j0 (by omega) (by omega) (by omega), if_neg (by omega), if_neg (by omega), if_pos ⟨rfl, rfl⟩]
    omega
  · rw [eW j 39 j0 (by omega) (by omega) (by omega), if_neg (by omega), if_neg (by omega), if_neg (by omega)]
    exact w5
/-- the act's place: its own, or the next free one -/
theorem opA (B : BW hc hr K p m r) (j0 : 0 ≤ j) (j1 : j < m) (hs : hT hc s = 22) (s3 : hI hc s 3 = n) (s5 : K (hR hc s 5) v) (ts : hT hc (hR hc s 5) = 1) (n0 : 0 ≤ n ∧ n < 40) (h8 : aIx hr 1 j n ≠ -1 ∨ wg hr 1 j 39 ≠ 8) : ∃ hc' hr', c78 (kd hc p j) s hc = some (0, hc') ∧ c220 1 j n v hr = some hr' ∧ BW hc' hr' K p m r ∧ kf (kd hc p j) hc hc' ∧ fw hr hr' ∧ ∀ u g : Int, 0 ≤ u → u < 12 → 0 ≤ g → g < 39 → wg hr' 1 u g = wg hr 1 u g := by
  have Q := B.1.2.2.1 j j0 j1
  have X := B.2.2.2.2 j j0 j1
  have W := B.1.1
  obtain ⟨w1, w2, w3, w4, w5⟩ := W.2.2 j j0 j1
  have hm := W.2.1
  obtain ⟨A, hA⟩ : ∃ A : Nat, wg hr 1 j 39 = (A : Int) := ⟨(wg hr 1 j 39).toNat, by omega⟩
  obtain ⟨k, hk⟩ : ∃ k, kd hc p j = k := ⟨_, rfl⟩
  have e29 := c29_a (n := n) B.1 j0 j1
  have bx : aIx hr 1 j n = -1 ∨ (0 ≤ aIx hr 1 j n ∧ aIx hr 1 j n < wg hr 1 j 39 ∧ wg hr 1 j (40 + aIx hr 1 j n) = n) := by
    by_cases z : aIx hr 1 j n = -1
    · exact .inl z
    · exact .inr (aIx_lt W j0 j1 z)
  have e205 := c205_w (n := n) W (by omega) (by omega) j0 j1
  unfold KR at Q
  unfold XR at X
  rw [hk] at Q X e29 ⊢
  obtain ⟨k1, k2, k3, k4, k5, k6, k7⟩ := Q
  have t := k1.2.2.1
  have ns := fun o ho => KD_no (o := o) k1 hs ho
  have ns0 : s ≠ k := ns 0 (by omega)
  have ns6 := ns 6 (by omega)
  obtain ⟨r1, r2, r3⟩ := KD12 k1
  obtain ⟨r4, r5, r6⟩ := KD13 k1
  have a4 : hI hc k 11 = (A : Int) := by rw [k7.1]; exact hA
  have h448 := k1.1
  obtain ⟨T, A', hT8, hcase⟩ : ∃ T A' : Nat, T < 8 ∧ ((aIx hr 1 j n = -1 ∧ T = A ∧ A' = A + 1) ∨ (aIx hr 1 j n = (T : Int) ∧ T < A ∧ A' = A)) := by
    rcases bx with z | ⟨z1, z2, -⟩
    · exact ⟨A, A + 1, by omega, .inl ⟨z, rfl, rfl⟩⟩
    · exact ⟨(aIx hr 1 j n).toNat, A, by omega, .inr ⟨by omega, by omega, rfl⟩⟩
  have j48 : ∀ h : hS, hT h = hT hc → hL h = hL hc → (∀ x i, hR h x i = hR hc x i) → (∀ i, hI h s i = hI hc s i) → c78_j48 k s (T : Int) h = some (0, sR (sI h (k + 6) T n) (k + 7) T (hR hc s 5)) := fun h eT eL eR eI => by
    unfold c78_j48
    rw [gR_s (show hT h k = 24 by rw [eT]; exact t), eR, r1]
    simp only [bsome]
    rw [gI_s (show hT h s = 22 by rw [eT]; exact hs), eI, s3]
    simp only [bsome]
    rw [wI_s (show hT h (k + 6) = 1 by rw [eT]; exact r2) (by omega) (by rw [eL, r3]; omega), Int.toNat_natCast]
    simp only [bsome]
    rw [gR_s (show hT (sI h (k + 6) T n) k = 24 from by show hT h k = 24; rw [eT]; exact t), show hR (sI h (k + 6) T n) k 13 = k + 7 from (eR k 13).trans r4]
    simp only [bsome]
    rw [gR_s (show hT (sI h (k + 6) T n) s = 22 from by show hT h s = 22; rw [eT]; exact hs), show hR (sI h (k + 6) T n) s 5 = hR hc s 5 from eR s 5]
    simp only [bsome]
    rw [wR_s (show hT (sI h (k + 6) T n) (k + 7) = 21 from by show hT h (k + 7) = 21; rw [eT]; exact r5) (by omega) (by omega) (show (T : Int) < (hL (sI h (k + 6) T n) (k + 7) : Int) from by show (T : Int) < (hL h (k + 7) : Int); rw [eL, r6]; omega) (.inr (show hT (sI h (k + 6) T n) (hR hc s 5) = 1 from by show hT h (hR hc s 5) = 1; rw [eT]; exact ts)), Int.toNat_natCast]
    rfl
  have j37 : ∀ h : hS, c220_j37 1 j n v (T : Int) h = some (wset (wset h 1 j (40 + T) n) 1 j (48 + T) v) := fun h => by
    unfold c220_j37
    rw [wadd_e (x := 40) (by omega) (by omega), c201_e (by omega) (by omega) j0 (by omega) (by omega) (by omega)]
    simp only [bsome]
    rw [wadd_e (x := 48) (by omega) (by omega), c201_e (by omega) (by omega) j0 (by omega) (by omega) (by omega)]
    rfl
  obtain ⟨hc0, eC, c0⟩ : ∃ hc0, c78 k s hc = some (0, sR (sI hc0 (k + 6) T n) (k + 7) T (hR hc s 5)) ∧ (kf k hc hc0 ∧ (∀ x i, hR hc0 x i = hR hc x i) ∧ (∀ x i, hI hc0 x i = if x = k ∧ i = 11 then (A' : Int) else hI hc x i)) := by
    unfold c78
    rw [gR_s t, r1]
    simp only [bsome]
    rw [gI_s t]
    simp only [bsome]
    rw [gI_s hs, s3]
    simp only [bsome]
    rw [e29]
    simp only [bsome]
    rcases hcase with ⟨z, rfl, rfl⟩ | ⟨z, z1, rfl⟩
    · rw [if_pos z, a4, if_pos (by omega), pI_s t, wadd_n (by omega)]
      simp only [bsome]
      refine ⟨sI hc k 11 ((T + 1 : Nat) : Int), j48 _ rfl rfl (fun _ _ => rfl) (fun i => by rw [hI_sI, if_neg (by omega)]), kf_s0, fun _ _ => rfl, fun x i => by rw [hI_sI]⟩
    · rw [z, if_neg (by omega)]
      refine ⟨hc, j48 _ rfl rfl (fun _ _ => rfl) (fun i => rfl), kf_rf, fun _ _ => rfl, fun x i => ?_⟩
      by_cases c : x = k ∧ i = 11
      · rw [if_pos c, c.1, c.2]; exact a4
      · rw [if_neg c]
  obtain ⟨hr0, eR, d0⟩ : ∃ hr0, c220 1 j n v hr = some (wset (wset hr0 1 j (40 + T) n) 1 j (48 + T) v) ∧ (fw hr hr0 ∧ wm hr0 1 = wm hr 1 ∧ ∀ u g : Int, 0 ≤ u → u < 12 → 0 ≤ g → g < 64 → wg hr0 1 u g = if u = j ∧ g = 39 then (A' : Int) else wg hr 1 u g) := by
    unfold c220
    rw [e205]
    simp only [bsome]
    rcases hcase with ⟨z, rfl, rfl⟩ | ⟨z, z1, rfl⟩
    · rw [if_pos z, c199_e (by omega) (by omega) j0 (by omega) (by omega) (by omega), hA]
      simp only [bsome]
      rw [wadd_n (by omega), c201_e (by omega) (by omega) j0 (by omega) (by omega) (by omega)]
      simp only [bsome]
      exact ⟨_, j37 _, fw_set j0 (by omega) (by omega) (by omega), wms j0 (by omega) (by omega) (by omega), fun u g u0 u1 g0 g1 => wgs j0 (by omega) (by omega) (by omega) u0 u1 g0 g1⟩
    · rw [z, if_neg (by omega)]
      refine ⟨_, j37 _, fp_rf, rfl, fun u g u0 u1 g0 g1 => ?_⟩
      by_cases c : u = j ∧ g = 39
      · rw [if_pos c, c.1, c.2]; exact hA
      · rw [if_neg c]
  have eW : ∀ u g : Int, 0 ≤ u → u < 12 → 0 ≤ g → g < 64 → wg (wset (wset hr0 1 j (40 + T) n) 1 j (48 + T) v) 1 u g = if u = j ∧ g = 48 + T then v else if u = j ∧ g = 40 + T then n else if u = j ∧ g = 39 then (A' : Int) else wg hr 1 u g := fun u g u0 u1 g0 g1 => by
    rw [wgs j0 (by omega) (by omega) (by omega) u0 u1 g0 g1, wgs j0 (by omega) (by omega) (by omega) u0 u1 g0 g1, d0.2.2 u g u0 u1 g0 g1]
  have fR : fw hr (wset (wset hr0 1 j (40 + T) n) 1 j (48 + T) v) := fp_tr d0.1 (fp_tr (fw_set j0 (by omega) (by omega) (by omega)) (fw_set j0 (by omega) (by omega) (by omega)))
  have mR : wm (wset (wset hr0 1 j (40 + T) n) 1 j (48 + T) v) 1 = wm hr 1 := by
    rw [wms j0 (by omega) (by omega) (by omega), wms j0 (by omega) (by omega) (by omega), d0.2.1]
  have fC : kf k hc (sR (sI hc0 (k + 6) T n) (k + 7) T (hR hc s 5)) := kf_tr c0.1 (kf_tr (kf_sI (by omega)) (kf_sR (by omega)))
  have eI : ∀ x i, hI (sR (sI hc0 (k + 6) T n) (k + 7) T (hR hc s 5)) x i = if x = k + 6 ∧ i = T then n else if x = k ∧ i = 11 then (A' : Int) else hI hc x i := fun x i => by
    rw [hI_sR, hI_sI, c0.2.2]
  have kR : ∀ x i, hR (sR (sI hc0 (k + 6) T n) (k + 7) T (hR hc s 5)) x i = if x = k + 7 ∧ i = T then hR hc s 5 else hR hc x i := fun x i => by
    rw [hR_sR, hR_sI, c0.2.1]
  refine ⟨_, _, eC, eR, ?_, fC, fR, fun u g u0 u1 g0 g1 => by rw [eW u g u0 u1 g0 (by omega), if_neg (by omega), if_neg (by omega), if_neg (by omega)]⟩
  generalize wset (wset hr0 1 j (40 + T) n) 1 j (48 + T) v = hr' at eW fR mR ⊢
  generalize sR (sI hc0 (k + 6) T n) (k + 7) T (hR hc s 5) = hc' at fC eI kR ⊢
  refine BW_j B j0 j1 (fun x hx _ => fC.2.2.2.2 x (by rw [hk] at hx; omega)) (by rw [fC.1]; exact Nat.le_refl _) (fun u g u0 u1 g0 g1 hu => ?_) ?_ ?_ mR (fun _ _ h => h) (fun x v' hx => ?_) (fun hkd => ?_) ⟨?_, ?_, ?_⟩
  · rw [eW u g u0 u1 g0 g1, if_neg (fun z => hu z.1), if_neg (fun z => hu z.1), if_neg (fun z => hu z.1)]
  · rw [eW j 0 j0 (by omega) (by omega) (by omega), if_neg (by omega), if_neg (by omega), if_neg (by omega)]
  · rw [eW j 1 j0 (by omega) (by omega) (by omega), if_neg (by omega), if_neg (by omega), if_neg (by omega)]
  · rw [fC.1]
    exact B.2.2.2.1 x v' hx
  · have g5 : wg hr' 1 j 39 = (A' : Int) := by rw [eW j 39 j0 (by omega) (by omega) (by omega), if_neg (by omega), if_neg (by omega), if_pos ⟨rfl, rfl⟩]
    have gO : ∀ g : Int, 0 ≤ g → g < 64 → (g ≠ 39 ∧ g ≠ 40 + T ∧ g ≠ 48 + T) → wg hr' 1 j g = wg hr 1 j g := fun g g0 g1 hg => by
      rw [eW j g j0 (by omega) g0 g1, if_neg (by omega), if_neg (by omega), if_neg (by omega)]
    unfold KR XR
    rw [hkd, hkd, hk, g5]
    refine ⟨⟨⟨h448, by rw [fC.1]; exact k1.2.1, by rw [fC.2.2.1]; exact t, fun e he => ?_⟩, ?_, ?_, ?_, ⟨?_, fun i hi => ?_⟩, ⟨?_, fun i hi => ?_⟩, ?_, fun i hi => ?_⟩, ?_, fun i hi => ?_⟩
    · rw [kR, if_neg (by omega), fC.2.2.1, fC.2.2.2.1]
      exact k1.2.2.2 e he
    · rw [eI, if_neg (by omega), if_neg (by omega), gO 0 (by omega) (by omega) (by omega)]
      exact k2
    · rw [kR, if_neg (by omega), gO 1 (by omega) (by omega) (by omega)]
      exact k3
    · rw [eI, if_neg (by omega), if_neg (by omega), gO 2 (by omega) (by omega) (by omega)]
      exact k4
    · rw [eI, if_neg (by omega), if_neg (by omega), gO 5 (by omega) (by omega) (by omega)]
      exact k5.1
    · rw [gO 5 (by omega) (by omega) (by omega)] at hi
      rw [eI, if_neg (by omega), if_neg (by omega), eI, if_neg (by omega), if_neg (by omega), gO _ (by omega) (by omega) (by omega), gO _ (by omega) (by omega) (by omega)]
      exact k5.2 i hi
    · rw [eI, if_neg (by omega), if_neg (by omega), gO 30 (by omega) (by omega) (by omega)]
      exact k6.1
    · rw [gO 30 (by omega) (by omega) (by omega)] at hi
      rw [eI, if_neg (by omega), if_neg (by omega), eI, if_neg (by omega), if_neg (by omega), gO _ (by omega) (by omega) (by omega), gO _ (by omega) (by omega) (by omega)]
      exact k6.2 i hi
    · rw [eI, if_neg (by omega), if_pos ⟨rfl, rfl⟩]
    · by_cases c : i = T
      · subst c
        rw [eI, if_pos ⟨rfl, rfl⟩, kR, if_pos ⟨rfl, rfl⟩, eW j _ j0 (by omega) (by omega) (by omega), if_neg (by omega), if_pos ⟨rfl, rfl⟩, eW j _ j0 (by omega) (by omega) (by omega), if_pos ⟨rfl, rfl⟩]
        exact ⟨rfl, s5, n0⟩
      · rw [eI, if_neg (by omega), if_neg (by omega), kR, if_neg (by omega), gO _ (by omega) (by omega) (by omega), gO _ (by omega) (by omega) (by omega)]
        exact k7.2 i (by omega)
    · rw [eI, if_neg (by omega), if_neg (by omega), gO 3 (by omega) (by omega) (by omega)]
      exact X.1
    · rw [gO 5 (by omega) (by omega) (by omega)] at hi
      rw [eI, if_neg (by omega), if_neg (by omega), gO _ (by omega) (by omega) (by omega)]
      exact X.2 i hi
  · rw [eW j 5 j0 (by omega) (by omega) (by omega), if_neg (by omega), if_neg (by omega), if_neg (by omega)]
    exact w3
  · rw [eW j 30 j0 (by omega) (by omega) (by omega), if_neg (by omega), if_neg (by omega), if_neg (by omega)]
    exact w4
  · rw [eW j 39 j0 (by omega) (by omega) (by omega), if_neg (by omega), if_neg (by omega), if_pos ⟨rfl, rfl⟩]
    omega
end MB2
