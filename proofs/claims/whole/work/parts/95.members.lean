/-! a member comes: field, static, act -/
section MBR
variable {hc hr : hS} {K : Nat → Int → Prop} {p m s : Nat} {r : Int → Nat} {j n v : Int}
theorem wgs {h : hS} {j f k g v : Int} (j0 : 0 ≤ j) (j1 : j < 12) (f0 : 0 ≤ f) (f1 : f < 64) (k0 : 0 ≤ k) (k1 : k < 12) (g0 : 0 ≤ g) (g1 : g < 64) : wg (wset h 1 j f v) 1 k g = if k = j ∧ g = f then v else wg h 1 k g := by
  rw [wg_set (by omega) j0 f0 f1 j1 (by omega) k0 g0 g1 k1]
  by_cases c : k = j ∧ g = f
  · rw [if_pos c, if_pos ⟨rfl, c⟩]
  · rw [if_neg c, if_neg (fun z => c z.2)]
/-- ints of world 1 alone are other -/
def fw (h h' : hS) : Prop := fp (fun x i => x = 400 ∧ 769 ≤ i ∧ i < 1538) h h'
theorem fw_set {h : hS} {j f v : Int} (j0 : 0 ≤ j) (j1 : j < 12) (f0 : 0 ≤ f) (f1 : f < 64) : fw h (wset h 1 j f v) := fp_sI ⟨rfl, by omega, by omega⟩
theorem wms {h : hS} {j f v : Int} (j0 : 0 ≤ j) (j1 : j < 12) (f0 : 0 ≤ f) (f1 : f < 64) : wm (wset h 1 j f v) 1 = wm h 1 := wm_set (by omega) j0 f0 f1 j1 (by omega)
/-- the cells of one kind alone are other -/
def kf (k : Nat) (h h' : hS) : Prop := hN h' = hN h ∧ hM h' = hM h ∧ hT h' = hT h ∧ hL h' = hL h ∧ ∀ x, (x < k ∨ k + 8 ≤ x) → sm h h' x
theorem kf_rf {k : Nat} {h : hS} : kf k h h := ⟨rfl, rfl, rfl, rfl, fun _ _ => sm_rf⟩
theorem kf_tr {k : Nat} {h h1 h2 : hS} (a : kf k h h1) (b : kf k h1 h2) : kf k h h2 := ⟨b.1.trans a.1, b.2.1.trans a.2.1, b.2.2.1.trans a.2.2.1, b.2.2.2.1.trans a.2.2.2.1, fun x hx => sm_tr (a.2.2.2.2 x hx) (b.2.2.2.2 x hx)⟩
theorem kf_sI {k : Nat} {h : hS} {o i : Nat} {v : Int} (ho : o ≤ 7) : kf k h (sI h (k + o) i v) := ⟨rfl, rfl, rfl, rfl, fun x hx => ⟨fun j => by rw [hI_sI, if_neg (by omega)], fun _ => rfl, rfl, rfl⟩⟩
theorem kf_s0 {k : Nat} {h : hS} {i : Nat} {v : Int} : kf k h (sI h k i v) := kf_sI (o := 0) (by omega)
theorem kf_sR {k : Nat} {h : hS} {o i : Nat} {v : Nat} (ho : o ≤ 7) : kf k h (sR h (k + o) i v) := ⟨rfl, rfl, rfl, rfl, fun x hx => ⟨fun _ => rfl, fun j => by rw [hR_sR, if_neg (by omega)], rfl, rfl⟩⟩
/-- no cell of a kind has the tag of a step -/
theorem KD_no {h : hS} {k x o : Nat} (Q : KD h k) (hx : hT h x = 22) (ho : o ≤ 12) : x ≠ k + o := by
  rintro rfl
  have := KD_tag Q ho
  rw [hx] at this
  cases this
theorem opF (B : BW hc hr K p m r) (j0 : 0 ≤ j) (j1 : j < m) (hs : hT hc s = 22) (s3 : hI hc s 3 = n) (s4 : hI hc s 4 = v) (n0 : 0 ≤ n ∧ n < 40) (q : hOw hr 1 j n = false) (h8 : wg hr 1 j 5 ≠ 8) : ∃ hc' hr', c76 (kd hc p j) s hc = some (0, hc') ∧ c223 1 j n v hr = some hr' ∧ BW hc' hr' K p m r ∧ kf (kd hc p j) hc hc' ∧ fw hr hr' := by
  have Q := B.1.2.2.1 j j0 j1
  have X := B.2.2.2.2 j j0 j1
  obtain ⟨w1, w2, w3, w4, w5⟩ := B.1.1.2.2 j j0 j1
  have hm := B.1.1.2.1
  obtain ⟨F, hF⟩ : ∃ F : Nat, wg hr 1 j 5 = (F : Int) := ⟨(wg hr 1 j 5).toNat, by omega⟩
  have hF8 : F < 8 := by omega
  obtain ⟨k, hk⟩ : ∃ k, kd hc p j = k := ⟨_, rfl⟩
  have e61 := c61_w (n := n) B.1 j0 j1
  rw [q] at e61
  unfold KR at Q
  unfold XR at X
  rw [hk] at Q X e61 ⊢
  obtain ⟨k1, k2, k3, k4, k5, k6, k7⟩ := Q
  have t := k1.2.2.1
  have ns := fun o ho => KD_no (o := o) k1 hs ho
  have ns0 : s ≠ k := ns 0 (by omega)
  have ns1 := ns 1 (by omega)
  have ns2 := ns 2 (by omega)
  have ns3 := ns 3 (by omega)
  obtain ⟨r1, r2, r3⟩ := KD5 k1
  obtain ⟨r4, r5, r6⟩ := KD6 k1
  obtain ⟨r7, r8, r9⟩ := KD7 k1
  have a4 : hI hc k 4 = (F : Int) := by rw [k5.1]; exact hF
  have eC : c76 k s hc = some (0, sI (sI (sI (sI hc (k + 1) F n) (k + 2) F v) (k + 3) F (-1)) k 4 ((F + 1 : Nat) : Int)) := by
    unfold c76
    rw [gI_s hs, s3]
    simp only [bsome]
    rw [kT_s t]
    simp only [bsome]
    rw [e61]
    simp only [bsome]
    rw [if_pos (by decide), gI_s t, a4]
    simp only [bsome]
    rw [if_pos (by omega), gR_s t, r1]
    simp only [bsome]
    rw [wI_s r2 (by omega) (by omega), Int.toNat_natCast]
    simp only [bsome]
    rw [gR_s (show hT (sI hc (k + 1) F n) k = 24 from t), show hR (sI hc (k + 1) F n) k 6 = k + 2 from r4]
    simp only [bsome]
    rw [gI_s (show hT (sI hc (k + 1) F n) k = 24 from t), hI_sI, if_neg (by omega), a4]
    simp only [bsome]
    rw [gI_s (show hT (sI hc (k + 1) F n) s = 22 from hs), hI_sI, if_neg (by omega), s4]
    simp only [bsome]
    rw [wI_s (show hT (sI hc (k + 1) F n) (k + 2) = 1 from r5) (by omega) (show (F : Int) < (hL hc (k + 2) : Int) by omega), Int.toNat_natCast]
    simp only [bsome]
    rw [gR_s (show hT (sI (sI hc (k + 1) F n) (k + 2) F v) k = 24 from t), show hR (sI (sI hc (k + 1) F n) (k + 2) F v) k 7 = k + 3 from r7]
    simp only [bsome]
    rw [gI_s (show hT (sI (sI hc (k + 1) F n) (k + 2) F v) k = 24 from t), hI_sI, if_neg (by omega), hI_sI, if_neg (by omega), a4]
    simp only [bsome]
    rw [wI_s (show hT (sI (sI hc (k + 1) F n) (k + 2) F v) (k + 3) = 1 from r8) (by omega) (show (F : Int) < (hL hc (k + 3) : Int) by omega), Int.toNat_natCast]
    simp only [bsome]
    rw [gI_s (show hT (sI (sI (sI hc (k + 1) F n) (k + 2) F v) (k + 3) F (-1)) k = 24 from t), hI_sI, if_neg (by omega), hI_sI, if_neg (by omega), hI_sI, if_neg (by omega), a4]
    simp only [bsome]
    rw [pI_s (show hT (sI (sI (sI hc (k + 1) F n) (k + 2) F v) (k + 3) F (-1)) k = 24 from t), wadd_n (by omega)]
    rfl
  have eR : c223 1 j n v hr = some (wset (wset (wset (wset hr 1 j 5 ((F + 1 : Nat) : Int)) 1 j (6 + F) n) 1 j (14 + F) v) 1 j (22 + F) (-1)) := by
    unfold c223
    rw [c199_e (by omega) (by omega) j0 (by omega) (by omega) (by omega), hF]
    simp only [bsome]
    rw [wadd_n (by omega), c201_e (by omega) (by omega) j0 (by omega) (by omega) (by omega)]
    simp only [bsome]
    rw [wadd_e (x := 6) (by omega) (by omega), c201_e (by omega) (by omega) j0 (by omega) (by omega) (by omega)]
    simp only [bsome]
    rw [wadd_e (x := 14) (by omega) (by omega), c201_e (by omega) (by omega) j0 (by omega) (by omega) (by omega)]
    simp only [bsome]
    rw [wadd_e (x := 22) (by omega) (by omega), c201_e (by omega) (by omega) j0 (by omega) (by omega) (by omega)]
    rfl
  have eW : ∀ u g : Int, 0 ≤ u → u < 12 → 0 ≤ g → g < 64 → wg (wset (wset (wset (wset hr 1 j 5 ((F + 1 : Nat) : Int)) 1 j (6 + F) n) 1 j (14 + F) v) 1 j (22 + F) (-1)) 1 u g = if u = j ∧ g = 22 + F then -1 else if u = j ∧ g = 14 + F then v else if u = j ∧ g = 6 + F then n else if u = j ∧ g = 5 then ((F + 1 : Nat) : Int) else wg hr 1 u g := fun u g u0 u1 g0 g1 => by
    rw [wgs j0 (by omega) (by omega) (by omega) u0 u1 g0 g1, wgs j0 (by omega) (by omega) (by omega) u0 u1 g0 g1, wgs j0 (by omega) (by omega) (by omega) u0 u1 g0 g1, wgs j0 (by omega) (by omega) (by omega) u0 u1 g0 g1]
  have fR : fw hr (wset (wset (wset (wset hr 1 j 5 ((F + 1 : Nat) : Int)) 1 j (6 + F) n) 1 j (14 + F) v) 1 j (22 + F) (-1)) := fp_tr (fp_tr (fp_tr (fw_set j0 (by omega) (by omega) (by omega)) (fw_set j0 (by omega) (by omega) (by omega))) (fw_set j0 (by omega) (by omega) (by omega))) (fw_set j0 (by omega) (by omega) (by omega))
  have mR : wm (wset (wset (wset (wset hr 1 j 5 ((F + 1 : Nat) : Int)) 1 j (6 + F) n) 1 j (14 + F) v) 1 j (22 + F) (-1)) 1 = wm hr 1 := by
    rw [wms j0 (by omega) (by omega) (by omega), wms j0 (by omega) (by omega) (by omega), wms j0 (by omega) (by omega) (by omega), wms j0 (by omega) (by omega) (by omega)]
  have fC : kf k hc (sI (sI (sI (sI hc (k + 1) F n) (k + 2) F v) (k + 3) F (-1)) k 4 ((F + 1 : Nat) : Int)) := kf_tr (kf_tr (kf_tr (kf_sI (by omega)) (kf_sI (by omega))) (kf_sI (by omega))) kf_s0
  have eI : ∀ x i, hI (sI (sI (sI (sI hc (k + 1) F n) (k + 2) F v) (k + 3) F (-1)) k 4 ((F + 1 : Nat) : Int)) x i = if x = k ∧ i = 4 then ((F + 1 : Nat) : Int) else if x = k + 3 ∧ i = F then -1 else if x = k + 2 ∧ i = F then v else if x = k + 1 ∧ i = F then n else hI hc x i := fun x i => by
    rw [hI_sI, hI_sI, hI_sI, hI_sI]
  refine ⟨_, _, eC, eR, ?_, fC, fR⟩
  generalize wset (wset (wset (wset hr 1 j 5 ((F + 1 : Nat) : Int)) 1 j (6 + F) n) 1 j (14 + F) v) 1 j (22 + F) (-1) = hr' at eW fR mR ⊢
  have kR : ∀ x i, hR (sI (sI (sI (sI hc (k + 1) F n) (k + 2) F v) (k + 3) F (-1)) k 4 ((F + 1 : Nat) : Int)) x i = hR hc x i := fun _ _ => rfl
  have kD : KD (sI (sI (sI (sI hc (k + 1) F n) (k + 2) F v) (k + 3) F (-1)) k 4 ((F + 1 : Nat) : Int)) k := k1
  generalize sI (sI (sI (sI hc (k + 1) F n) (k + 2) F v) (k + 3) F (-1)) k 4 ((F + 1 : Nat) : Int) = hc' at fC eI kR kD ⊢
  refine BW_j B j0 j1 (fun x hx _ => fC.2.2.2.2 x (by rw [hk] at hx; omega)) (by rw [fC.1]; exact Nat.le_refl _) (fun u g u0 u1 g0 g1 hu => ?_) ?_ ?_ mR (fun _ _ h => h) (fun x v' hx => ?_) (fun hkd => ?_) ⟨?_, ?_, ?_⟩
  · rw [eW u g u0 u1 g0 g1, if_neg (fun z => hu z.1), if_neg (fun z => hu z.1), if_neg (fun z => hu z.1), if_neg (fun z => hu z.1)]
  · rw [eW j 0 j0 (by omega) (by omega) (by omega), if_neg (by omega), if_neg (by omega), if_neg (by omega), if_neg (by omega)]
  · rw [eW j 1 j0 (by omega) (by omega) (by omega), if_neg (by omega), if_neg (by omega), if_neg (by omega), if_neg (by omega)]
  · rw [fC.1]
    exact B.2.2.2.1 x v' hx
  · have g5 : wg hr' 1 j 5 = ((F + 1 : Nat) : Int) := by rw [eW j 5 j0 (by omega) (by omega) (by omega), if_neg (by omega), if_neg (by omega), if_neg (by omega), if_pos ⟨rfl, rfl⟩]
    have gO : ∀ g : Int, 0 ≤ g → g < 64 → (g ≠ 5 ∧ g ≠ 6 + F ∧ g ≠ 14 + F ∧ g ≠ 22 + F) → wg hr' 1 j g = wg hr 1 j g := fun g g0 g1 hg => by
      rw [eW j g j0 (by omega) g0 g1, if_neg (by omega), if_neg (by omega), if_neg (by omega), if_neg (by omega)]
    unfold KR XR
    rw [hkd, hkd, hk, g5]
    refine ⟨⟨kD, ?_, ?_, ?_, ⟨?_, fun i hi => ?_⟩, ⟨?_, fun i hi => ?_⟩, ?_, fun i hi => ?_⟩, ?_, fun i hi => ?_⟩
    · rw [eI, if_neg (by omega), if_neg (by omega), if_neg (by omega), if_neg (by omega), gO 0 (by omega) (by omega) (by omega)]
      exact k2
    · rw [kR, gO 1 (by omega) (by omega) (by omega)]
      exact k3
    · rw [eI, if_neg (by omega), if_neg (by omega), if_neg (by omega), if_neg (by omega), gO 2 (by omega) (by omega) (by omega)]
      exact k4
    · rw [eI, if_pos ⟨rfl, rfl⟩]
    · by_cases c : i = F
      · subst c
        rw [eI, if_neg (by omega), if_neg (by omega), if_neg (by omega), if_pos ⟨rfl, rfl⟩, eI, if_neg (by omega), if_neg (by omega), if_pos ⟨rfl, rfl⟩, eW j _ j0 (by omega) (by omega) (by omega), if_neg (by omega), if_neg (by omega), if_pos ⟨rfl, rfl⟩, eW j _ j0 (by omega) (by omega) (by omega), if_neg (by omega), if_pos ⟨rfl, rfl⟩]
        exact ⟨rfl, rfl, n0⟩
      · rw [eI, if_neg (by omega), if_neg (by omega), if_neg (by omega), if_neg (by omega), eI, if_neg (by omega), if_neg (by omega), if_neg (by omega), if_neg (by omega), gO _ (by omega) (by omega) (by omega), gO _ (by omega) (by omega) (by omega)]
        exact k5.2 i (by omega)
    · rw [eI, if_neg (by omega), if_neg (by omega), if_neg (by omega), if_neg (by omega), gO 30 (by omega) (by omega) (by omega)]
      exact k6.1
    · rw [gO 30 (by omega) (by omega) (by omega)] at hi
      rw [eI, if_neg (by omega), if_neg (by omega), if_neg (by omega), if_neg (by omega), eI, if_neg (by omega), if_neg (by omega), if_neg (by omega), if_neg (by omega), gO _ (by omega) (by omega) (by omega), gO _ (by omega) (by omega) (by omega)]
      exact k6.2 i hi
    · rw [eI, if_neg (by omega), if_neg (by omega), if_neg (by omega), if_neg (by omega), gO 39 (by omega) (by omega) (by omega)]
      exact k7.1
    · rw [gO 39 (by omega) (by omega) (by omega)] at hi
      rw [eI, if_neg (by omega), if_neg (by omega), if_neg (by omega), if_neg (by omega), kR, gO _ (by omega) (by omega) (by omega), gO _ (by omega) (by omega) (by omega)]
      exact k7.2 i hi
    · rw [eI, if_neg (by omega), if_neg (by omega), if_neg (by omega), if_neg (by omega), gO 3 (by omega) (by omega) (by omega)]
      exact X.1
    · by_cases c : i = F
      · subst c
        rw [eI, if_neg (by omega), if_pos ⟨rfl, rfl⟩, eW j _ j0 (by omega) (by omega) (by omega), if_pos ⟨rfl, rfl⟩]
      · rw [eI, if_neg (by omega), if_neg (by omega), if_neg (by omega), if_neg (by omega), gO _ (by omega) (by omega) (by omega)]
        exact X.2 i (by omega)
  · rw [eW j 5 j0 (by omega) (by omega) (by omega), if_neg (by omega), if_neg (by omega), if_neg (by omega), if_pos ⟨rfl, rfl⟩]
    omega
  · rw [eW j 30 j0 (by omega) (by omega) (by omega), if_neg (by omega), if_neg (by omega), if_neg (by omega), if_neg (by omega)]
    exact w4
  · rw [eW j 39 j0 (by omega) (by omega) (by omega), if_neg (by omega), if_neg (by omega), if_neg (by omega), if_neg (by omega)]
    exact w5
end MBR
