/-! long acts and patches: what is told of them -/
section LAP
variable {hc hr : hS}
/-- the cells of the long acts -/
def SL (h : hS) : Prop := ∀ l : Nat, l < 10 → hR h 21 l = 375 + 2 * l ∧ hT h (375 + 2 * l) = 20 ∧ hR h (375 + 2 * l) 0 = 376 + 2 * l ∧ hT h (376 + 2 * l) = 12
def LA1 (hc hr : hS) (l : Nat) : Prop :=
  hI hc (375 + 2 * l) 1 = hI hr 424 l ∧ (hI hr 424 l = 0 ∨ hI hr 424 l = 1) ∧ hI hc (375 + 2 * l) 2 = hI hr 423 l ∧ (hI hr 423 l = 0 ∨ hI hr 423 l = 1) ∧ (hI hr 423 l = 1 → hI hr 424 l = 1) ∧ (hI hr 424 l = 1 → (hI hc (375 + 2 * l) 3 = hI hr 425 l ∧ (hI hr 425 l = 0 ∨ hI hr 425 l = 1)) ∧ hI hc (375 + 2 * l) 4 = hI hr 430 l ∧ hI hc (375 + 2 * l) 5 = (if hI hr 423 l = 1 then 0 else hI hr 431 l) ∧ hI hc (375 + 2 * l) 6 = hI hr 432 l ∧ KD hc (hR hc (376 + 2 * l) 1) ∧ hI hc (hR hc (376 + 2 * l) 1) 2 = hI hr 437 (12 * l))
def LA (hc hr : hS) : Prop := ∀ l : Nat, l < 10 → LA1 hc hr l
theorem api22 (S : SL hc) (L : LA hc hr) (n f : Int) : ∃ v, c170 n f hc = some v ∧ c294 n f hr = some v := by
  unfold c170 c294
  rw [c191_e]
  simp only [bsome]
  by_cases a : n < 0
  · rw [if_pos a, if_neg (show ¬ (0 ≤ n ∧ n ≤ 9) by omega), if_pos rfl]
    exact ⟨_, rfl, rfl⟩
  rw [if_neg a]
  by_cases b : 10 ≤ n
  · rw [if_pos b, if_neg (show ¬ (0 ≤ n ∧ n ≤ 9) by omega), if_pos rfl]
    exact ⟨_, rfl, rfl⟩
  obtain ⟨s1, s2, s3, s4⟩ := S n.toNat (by omega)
  obtain ⟨x1, x2, x3, x4, x5, x6⟩ := L n.toNat (by omega)
  rw [if_neg b, if_pos (show 0 ≤ n ∧ n ≤ 9 by omega), if_neg (show ¬ (1 : Int) = 0 by omega), aRs_s (by omega) (by omega), aIs_s (by omega) (by omega)]
  simp only [bsome]
  rw [s1, gI_s s2]
  simp only [bsome]
  rw [x1]
  rcases x2 with e | e
  · rw [e, if_pos rfl, if_pos rfl]
    exact ⟨_, rfl, rfl⟩
  · obtain ⟨⟨y1, y1'⟩, y2, y3, y4, y5, y6⟩ := x6 e
    rw [e, if_neg (show ¬ (1 : Int) = 0 by omega), if_neg (show ¬ (1 : Int) = 0 by omega), kT_s s2]
    simp only [bsome]
    unfold c171
    by_cases d : f < 0 ∨ 5 < f
    · rw [if_pos d, if_pos d]
      exact ⟨_, rfl, rfl⟩
    rw [if_neg d, if_neg d]
    by_cases f0 : f = 0
    · rw [if_pos f0, if_pos f0, gI_s s2, aIs_s (by omega) (by omega)]
      simp only [bsome]
      rw [x3]
      rcases x4 with z | z
      · rw [z, if_pos rfl]; exact ⟨_, rfl, rfl⟩
      · rw [z, if_neg (by omega)]; exact ⟨_, rfl, rfl⟩
    rw [if_neg f0, if_neg f0]
    by_cases f1 : f = 1
    · rw [if_pos f1, if_pos f1, gI_s s2, aIs_s (by omega) (by omega)]
      simp only [bsome]
      rw [y2]
      exact ⟨_, rfl, rfl⟩
    rw [if_neg f1, if_neg f1]
    by_cases f2 : f = 2
    · rw [if_pos f2, if_pos f2, gI_s s2, aIs_s (by omega) (by omega)]
      simp only [bsome]
      rw [y3]
      rcases x4 with z | z
      · rw [z, if_neg (show ¬ (0 : Int) = 1 by omega), if_pos rfl, aIs_s (by omega) (by omega)]; exact ⟨_, rfl, rfl⟩
      · rw [z, if_pos rfl, if_neg (show ¬ (1 : Int) = 0 by omega)]; exact ⟨_, rfl, rfl⟩
    rw [if_neg f2, if_neg f2]
    by_cases f3 : f = 3
    · rw [if_pos f3, if_pos f3, gR_s s2, wmul_e (by omega) (by omega), aIs_s (by omega) (by omega)]
      simp only [bsome]
      rw [s3, gR_s s4]
      simp only [bsome]
      rw [gI_s y5.2.2.1]
      simp only [bsome]
      rw [y6, show (12 * n).toNat = 12 * n.toNat by omega]
      exact ⟨_, rfl, rfl⟩
    rw [if_neg f3, if_neg f3]
    by_cases f4 : f = 4
    · rw [if_pos f4, if_pos f4, gI_s s2, aIs_s (by omega) (by omega)]
      simp only [bsome]
      rw [y1]
      rcases y1' with z | z
      · rw [z, if_pos rfl]; exact ⟨_, rfl, rfl⟩
      · rw [z, if_neg (by omega)]; exact ⟨_, rfl, rfl⟩
    rw [if_neg f4, if_neg f4]
    have f5 : f = 5 := by omega
    rw [if_pos f5, if_pos f5, gI_s s2, aIs_s (by omega) (by omega)]
    simp only [bsome]
    rw [y4]
    exact ⟨_, rfl, rfl⟩
/-- forbid -/
theorem api23 (S : SL hc) (L : LA hc hr) (n x : Int) (hx : x = 0 ∨ x = 1) : ∃ v hc' hr', c172 n x hc = some (v, hc') ∧ c295 n x hr = some (v, hr') ∧ ((hc' = hc ∧ hr' = hr) ∨ ((0 ≤ n ∧ n < 10) ∧ hc' = sI hc (375 + 2 * n.toNat) 3 x ∧ hr' = sI hr 425 n.toNat x)) := by
  unfold c172 c295
  rw [c191_e]
  simp only [bsome]
  by_cases a : n < 0
  · rw [if_pos a, if_neg (show ¬ (0 ≤ n ∧ n ≤ 9) by omega), if_pos rfl]
    exact ⟨_, _, _, rfl, rfl, .inl ⟨rfl, rfl⟩⟩
  rw [if_neg a]
  by_cases b : 10 ≤ n
  · rw [if_pos b, if_neg (show ¬ (0 ≤ n ∧ n ≤ 9) by omega), if_pos rfl]
    exact ⟨_, _, _, rfl, rfl, .inl ⟨rfl, rfl⟩⟩
  obtain ⟨s1, s2, s3, s4⟩ := S n.toNat (by omega)
  obtain ⟨x1, x2, x3, x4, x5, x6⟩ := L n.toNat (by omega)
  rw [if_neg b, if_pos (show 0 ≤ n ∧ n ≤ 9 by omega), if_neg (show ¬ (1 : Int) = 0 by omega), aRs_s (by omega) (by omega), aIs_s (by omega) (by omega)]
  simp only [bsome]
  rw [s1, gI_s s2]
  simp only [bsome]
  rw [x3]
  rcases x4 with e | e
  · rw [e, if_pos rfl, if_pos rfl]
    exact ⟨_, _, _, rfl, rfl, .inl ⟨rfl, rfl⟩⟩
  · rw [e, if_neg (show ¬ (1 : Int) = 0 by omega), if_neg (show ¬ (1 : Int) = 0 by omega), kB_s hx, wIs_s (by omega) (by omega), wbol_e hx]
    simp only [bsome]
    rw [pI_s s2]
    exact ⟨_, _, _, rfl, rfl, .inr ⟨by omega, rfl, rfl⟩⟩
/-- the patches that are kept, and the one that waits -/
def PT (hc hr : hS) (κ : Nat) : Prop :=
  hI hc 48 4 = κ ∧ hI hr 395 25 = κ ∧ κ ≤ 6 ∧ (∀ k : Nat, k < κ → (448 ≤ hR hc 50 k ∧ hR hc 50 k < hN hc ∧ hT hc (hR hc 50 k) = 26) ∧ hI hc (hR hc 50 k) 1 = hI hr 402 k) ∧ (∀ j k : Nat, j < κ → k < κ → hR hc 50 j = hR hc 50 k → j = k) ∧ (hI hr 395 28 = -1 ∧ hR hc 48 5 = 0 ∨ (0 ≤ hI hr 395 28 ∧ hI hr 395 28 < κ ∧ hR hc 48 5 = hR hc 50 (hI hr 395 28).toNat ∧ hI hc 48 6 = hI hr 395 26 ∧ 0 ≤ hI hc 48 6 ∧ hI hc 48 6 ≤ 8))
theorem api25 {κ : Nat} (P : PT hc hr κ) (n : Int) : ∃ v, c175 n hc = some v ∧ c297 n hr = some v := by
  obtain ⟨p1, p2, p3, p4, p5, p6⟩ := P
  unfold c175 c297
  rw [p1, p2, wsub_e (by omega) (by omega), c191_e]
  simp only [bsome]
  by_cases a : n < 0
  · rw [if_pos a, if_neg (show ¬ (0 ≤ n ∧ n ≤ (κ : Int) - 1) by omega), if_pos rfl]
    exact ⟨_, rfl, rfl⟩
  rw [if_neg a]
  by_cases b : n < (κ : Int)
  · obtain ⟨⟨q1, q2, q3⟩, q4⟩ := p4 n.toNat (by omega)
    rw [if_pos b, if_pos (show 0 ≤ n ∧ n ≤ (κ : Int) - 1 by omega), if_neg (show ¬ (1 : Int) = 0 by omega), aRs_s (by omega) (by omega), aIs_s (by omega) (by omega)]
    simp only [bsome]
    rw [gI_s q3]
    exact ⟨_, rfl, by rw [q4]⟩
  · rw [if_neg b, if_neg (show ¬ (0 ≤ n ∧ n ≤ (κ : Int) - 1) by omega), if_pos rfl]
    exact ⟨_, rfl, rfl⟩
theorem api24 {κ : Nat} (P : PT hc hr κ) (n : Int) : ∃ v hc' hr', c173 n hc = some (v, hc') ∧ c296 n hr = some (v, hr') ∧ PT hc' hr' κ ∧ ((hc' = hc ∧ hr' = hr) ∨ ((0 ≤ n ∧ n < κ) ∧ chg (fun x => x = 48 ∨ x = hR hc 50 n.toNat) hc hc' ∧ (∀ j, j ≠ 6 → hI hc' 48 j = hI hc 48 j) ∧ (∀ j, j ≠ 5 → hR hc' 48 j = hR hc 48 j) ∧ (∀ x j, x ≠ 48 → hR hc' x j = hR hc x j) ∧ fp (fun x j => (x = 395 ∧ (j = 28 ∨ j = 26)) ∨ x = 402) hr hr')) := by
  have P' := P
  obtain ⟨p1, p2, p3, p4, p5, p6⟩ := P
  unfold c173 c174 c296
  rw [p1, p2, wsub_e (by omega) (by omega), c191_e]
  simp only [bsome]
  by_cases a : n < 0
  · rw [if_pos a, if_neg (show ¬ (0 ≤ n ∧ n ≤ (κ : Int) - 1) by omega), if_pos rfl]
    exact ⟨_, _, _, rfl, rfl, P', .inl ⟨rfl, rfl⟩⟩
  rw [if_neg a]
  by_cases b : (κ : Int) ≤ n
  · rw [if_pos b, if_neg (show ¬ (0 ≤ n ∧ n ≤ (κ : Int) - 1) by omega), if_pos rfl]
    exact ⟨_, _, _, rfl, rfl, P', .inl ⟨rfl, rfl⟩⟩
  rw [if_neg b, if_pos (show 0 ≤ n ∧ n ≤ (κ : Int) - 1 by omega), if_neg (show ¬ (1 : Int) = 0 by omega)]
  obtain ⟨⟨q1, q2, q3⟩, q4⟩ := p4 n.toNat (by omega)
  rcases p6 with ⟨w1, w2⟩ | ⟨w1, w2, w3, w4⟩
  · rw [w2, hnul_0, if_pos w1, aRs_s (by omega) (by omega)]
    simp only [bsome]
    rw [if_pos trivial]
    have e1 : hR (sR hc 48 5 (hR hc 50 n.toNat)) 48 5 = hR hc 50 n.toNat := by rw [hR_sR, if_pos ⟨rfl, rfl⟩]
    rw [e1, pI_s (show hT (sR hc 48 5 (hR hc 50 n.toNat)) (hR hc 50 n.toNat) = 26 from q3), wIs_s (by omega) (by omega)]
    simp only [bsome]
    have e50 : ∀ k, hR (sI (sI (sR hc 48 5 (hR hc 50 n.toNat)) (hR hc 50 n.toNat) 1 1) 48 6 0) 50 k = hR hc 50 k := fun k => by
      show hR (sR hc 48 5 (hR hc 50 n.toNat)) 50 k = _
      rw [hR_sR, if_neg (by omega)]
    refine ⟨_, _, _, rfl, rfl, ?_, .inr ⟨by omega, ?_, ?_, ?_, ?_, ?_⟩⟩
    · refine ⟨?_, ?_, p3, ?_, ?_, .inr ⟨?_, ?_, ?_, ?_, ?_, ?_⟩⟩
      · rw [hI_sI, if_neg (by omega), hI_sI, if_neg (by omega)]
        exact p1
      · rw [hI_sI, if_neg (by omega), hI_sI, if_neg (by omega), hI_sI, if_neg (by omega)]
        exact p2
      · intro k hk
        rw [e50]
        obtain ⟨z1, z2⟩ := p4 k hk
        refine ⟨z1, ?_⟩
        rw [hI_sI, if_neg (by omega), hI_sI, hI_sI]
        by_cases hkn : k = n.toNat
        · rw [hkn, if_pos ⟨rfl, rfl⟩, if_pos ⟨rfl, rfl⟩]
        · rw [if_neg (fun c => hkn (p5 k n.toNat hk (by omega) c.1)), if_neg (fun c => hkn c.2), hI_sI, if_neg (by omega), hI_sI, if_neg (by omega)]
          exact z2
      · intro j k hj hk
        rw [e50, e50]
        exact p5 j k hj hk
      · rw [hI_sI, if_neg (by omega), hI_sI, if_neg (by omega), hI_sI, if_pos ⟨rfl, rfl⟩]
        omega
      · rw [hI_sI, if_neg (by omega), hI_sI, if_neg (by omega), hI_sI, if_pos ⟨rfl, rfl⟩]
        omega
      · rw [hI_sI (x := 402), if_neg (by omega), hI_sI (x := 395) (i := 26), if_neg (by omega), hI_sI (x := 395) (i := 28), if_pos ⟨rfl, rfl⟩, e50]
        exact e1
      · rw [hI_sI, if_pos ⟨rfl, rfl⟩, hI_sI, if_neg (by omega), hI_sI, if_pos ⟨rfl, rfl⟩]
      · rw [hI_sI, if_pos ⟨rfl, rfl⟩]; omega
      · rw [hI_sI, if_pos ⟨rfl, rfl⟩]; omega
    · exact chg_tr (chg_tr (chg_sR (.inl rfl)) (chg_sI (.inr rfl))) (chg_sI (.inl rfl))
    · intro j hj
      rw [hI_sI, if_neg (fun c => hj c.2), hI_sI, if_neg (by omega)]
      rfl
    · intro j hj
      show hR (sR hc 48 5 (hR hc 50 n.toNat)) 48 j = _
      rw [hR_sR, if_neg (fun c => hj c.2)]
    · intro x j hx
      show hR (sR hc 48 5 (hR hc 50 n.toNat)) x j = _
      rw [hR_sR, if_neg (fun c => hx c.1)]
    · exact fp_tr (fp_tr (fp_sI (.inl ⟨rfl, .inl rfl⟩)) (fp_sI (.inl ⟨rfl, .inr rfl⟩))) (fp_sI (.inr rfl))
  · obtain ⟨y1, y2, y3⟩ := (p4 (hI hr 395 28).toNat (by omega)).1
    rw [w3, hnul_8 (by omega), if_neg (by omega)]
    exact ⟨_, _, _, rfl, rfl, P', .inl ⟨rfl, rfl⟩⟩
end LAP
