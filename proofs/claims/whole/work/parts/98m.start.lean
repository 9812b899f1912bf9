/-! how a text begins to be read -/
section BGN
variable {hc hr : hS} {wk : Nat → Int}
/-- the class cuts the tape and stands before its first token: l1 is the pond that is built, or 0 -/
def CS (l1 n : Nat) (b : Nat → Int) (hc h9 : hS) : Prop := TKA h9 (TK n b) ∧ (hI h9 15 3 = 0 ∧ hI h9 15 4 = 0 ∧ hI h9 15 5 = -1 ∧ hI h9 15 9 = 0 ∧ hI h9 9 1 = 0) ∧ (hR h9 15 11 = l1 ∧ hR h9 15 12 = hN hc) ∧ (hN h9 = hN hc + 1 ∧ hM h9 = hM hc + 3) ∧ (hT h9 (hN hc) = 8 ∧ hR h9 (hN hc) 0 = 6 ∧ hI h9 (hN hc) 1 = 0 ∧ hI h9 (hN hc) 2 = 0) ∧ ∀ x, x < hN hc → hT h9 x = hT hc x ∧ hL h9 x = hL hc x ∧ (∀ j, ¬ (x = 15 ∧ (j = 11 ∨ j = 12)) → hR h9 x j = hR hc x j) ∧ ∀ j, ¬ (x = 11 ∨ x = 12 ∨ x = 13 ∨ (x = 9 ∧ (j = 5 ∨ j = 1)) ∨ (x = 15 ∧ (j = 3 ∨ j = 4 ∨ j = 5 ∨ j = 9))) → hI h9 x j = hI hc x j
theorem c42_s {n : Nat} {b : Nat → Int} (l1 : Nat) (h448 : 448 ≤ hN hc) (T : txc hc n b) (X : CTX hc wk) (hw : ∀ i : Nat, i < 22 → wk i = wkf i) : ∃ h9, c42 l1 hc = (lp (fun s => c42_b39 s.1 s.2) hF0 (1, h9)).bind (fun r28 => xs r28 (fun x28 => (kB x28.1).bind (fun u29 => some (x28.1, x28.2))) (fun o28 => some o28)) ∧ CS l1 n b hc h9 := by
  obtain ⟨h1, a1, a2, a3, a4⟩ := c25_e T X
  rw [tokb_congr hw] at a2
  have n1 : hN h1 = hN hc := congrArg (fun z : (Nat → Nat → Nat) × (Nat → Nat → Int64) × (Nat → Nat) × (Nat → Nat) × Nat × Nat => z.2.2.2.2.1) a4.1
  have m1 : hM h1 = hM hc := congrArg (fun z : (Nat → Nat → Nat) × (Nat → Nat → Int64) × (Nat → Nat) × (Nat → Nat) × Nat × Nat => z.2.2.2.2.2) a4.1
  have t1 : ∀ x, hT h1 x = hT hc x := fun x => by show h1.2.2.2.1 x = hc.2.2.2.1 x; rw [a4.1]
  have l1' : ∀ x, hL h1 x = hL hc x := fun x => by show h1.2.2.2.2.1 x = hc.2.2.2.2.1 x; rw [a4.1]
  have r1 : ∀ x j, hR h1 x j = hR hc x j := fun x j => by show h1.2.1 x j = hc.2.1 x j; rw [a4.1]
  obtain ⟨q, hq⟩ : ∃ q, hN hc = q := ⟨_, rfl⟩
  have eN2 : hN (sR h1 15 11 l1) = q := by rw [← hq, ← n1]; rfl
  obtain ⟨h3, e3⟩ : ∃ h3, h3 = mkH (sR h1 15 11 l1) 8 3 := ⟨_, rfl⟩
  have i3 : ∀ x j, hI h3 x j = if x = q then 0 else hI h1 x j := fun x j => by rw [e3, hI_mk, eN2]; rfl
  have r3 : ∀ x j, hR h3 x j = if x = q then 0 else if x = 15 ∧ j = 11 then l1 else hR hc x j := fun x j => by rw [e3, hR_mk, eN2, hR_sR, r1]
  have t3 : ∀ x, hT h3 x = if x = q then 8 else hT hc x := fun x => by
    rw [e3, hT_mk, eN2]
    show (if x = q then 8 else hT h1 x) = _
    rw [t1]
  have l3 : ∀ x, hL h3 x = if x = q then 3 else hL hc x := fun x => by
    rw [e3, hL_mk, eN2]
    show (if x = q then 3 else hL h1 x) = _
    rw [l1']
  have n3 : hN h3 = q + 1 := by rw [e3, hN_mk, eN2]
  have m3 : hM h3 = hM hc + 3 := by rw [e3, hM_mk, ← m1]; rfl
  have t3q : hT h3 q = 8 := by rw [t3, if_pos rfl]
  have e11 : c11 q h3 = some (sR (sI h3 q 2 0) q 0 6) := by
    unfold c11 c12 c13
    rw [k8_s (by omega)]
    simp only [bsome]
    rw [pI_s t3q]
    simp only [bsome]
    rw [pR_s (h := sI h3 q 2 0) (x := q) (t := 8) t3q]
    rfl
  refine ⟨sI (sI (sI (sI (sR (sR (sI h3 q 2 0) q 0 6) 15 12 q) 15 3 0) 15 4 0) 15 5 (-1)) 15 9 0, ?_, ?_⟩
  · unfold c42 c43
    rw [a1]
    simp only [bsome]
    rw [eN2, ← e3, k8_s (show 8 ≤ q by omega)]
    simp only [bsome]
    rw [e11]
    rfl
  · have iF : ∀ x j, hI (sI (sI (sI (sI (sR (sR (sI h3 q 2 0) q 0 6) 15 12 q) 15 3 0) 15 4 0) 15 5 (-1)) 15 9 0) x j = if x = 15 ∧ j = 9 then 0 else if x = 15 ∧ j = 5 then -1 else if x = 15 ∧ j = 4 then 0 else if x = 15 ∧ j = 3 then 0 else if x = q then 0 else hI h1 x j := fun x j => by
      rw [hI_sI, hI_sI, hI_sI, hI_sI, hI_sR, hI_sR, hI_sI, i3]
      by_cases c : x = q ∧ j = 2
      · rw [if_pos c, if_pos c.1]
      · rw [if_neg c]
    have rF : ∀ x j, hR (sI (sI (sI (sI (sR (sR (sI h3 q 2 0) q 0 6) 15 12 q) 15 3 0) 15 4 0) 15 5 (-1)) 15 9 0) x j = if x = 15 ∧ j = 12 then q else if x = q ∧ j = 0 then 6 else if x = q then 0 else if x = 15 ∧ j = 11 then l1 else hR hc x j := fun x j => by
      rw [hR_sI, hR_sI, hR_sI, hR_sI, hR_sR, hR_sR, hR_sI, r3]
    have tF : ∀ x, hT (sI (sI (sI (sI (sR (sR (sI h3 q 2 0) q 0 6) 15 12 q) 15 3 0) 15 4 0) 15 5 (-1)) 15 9 0) x = hT h3 x := fun _ => rfl
    have lF : ∀ x, hL (sI (sI (sI (sI (sR (sR (sI h3 q 2 0) q 0 6) 15 12 q) 15 3 0) 15 4 0) 15 5 (-1)) 15 9 0) x = hL h3 x := fun _ => rfl
    have nF : hN (sI (sI (sI (sI (sR (sR (sI h3 q 2 0) q 0 6) 15 12 q) 15 3 0) 15 4 0) 15 5 (-1)) 15 9 0) = hN h3 := rfl
    have mF : hM (sI (sI (sI (sI (sR (sR (sI h3 q 2 0) q 0 6) 15 12 q) 15 3 0) 15 4 0) 15 5 (-1)) 15 9 0) = hM h3 := rfl
    generalize sI (sI (sI (sI (sR (sR (sI h3 q 2 0) q 0 6) 15 12 q) 15 3 0) 15 4 0) 15 5 (-1)) 15 9 0 = h9 at iF rF tF lF nF mF ⊢
    unfold CS
    rw [hq] at h448 ⊢
    refine ⟨TKA_cg a2 (fun x j hx => ?_), ⟨?_, ?_, ?_, ?_, ?_⟩, ⟨?_, ?_⟩, ⟨by omega, by omega⟩, ⟨?_, ?_, ?_, ?_⟩, fun x hx => ⟨?_, ?_, fun j hj => ?_, fun j hj => ?_⟩⟩
    · rw [iF, if_neg (by omega), if_neg (by omega), if_neg (by omega), if_neg (by omega), if_neg (by omega)]
    · rw [iF, if_neg (by omega), if_neg (by omega), if_neg (by omega), if_pos ⟨rfl, rfl⟩]
    · rw [iF, if_neg (by omega), if_neg (by omega), if_pos ⟨rfl, rfl⟩]
    · rw [iF, if_neg (by omega), if_pos ⟨rfl, rfl⟩]
    · rw [iF, if_pos ⟨rfl, rfl⟩]
    · rw [iF, if_neg (by omega), if_neg (by omega), if_neg (by omega), if_neg (by omega), if_neg (by omega)]
      exact a3
    · rw [rF, if_neg (by omega), if_neg (by omega), if_neg (by omega), if_pos ⟨rfl, rfl⟩]
    · rw [rF, if_pos ⟨rfl, rfl⟩]
    · rw [tF, t3q]
    · rw [rF, if_neg (by omega), if_pos ⟨rfl, rfl⟩]
    · rw [iF, if_neg (by omega), if_neg (by omega), if_neg (by omega), if_neg (by omega), if_pos rfl]
    · rw [iF, if_neg (by omega), if_neg (by omega), if_neg (by omega), if_neg (by omega), if_pos rfl]
    · rw [tF, t3, if_neg (by omega)]
    · rw [lF, l3, if_neg (by omega)]
    · rw [rF, if_neg (by omega), if_neg (by omega), if_neg (by omega), if_neg (by omega)]
    · rw [iF, if_neg (by omega), if_neg (by omega), if_neg (by omega), if_neg (by omega), if_neg (by omega)]
      exact a4.2 x j (by omega)
/-- both stand before the first token of the tape -/
theorem BX_0 {n : Nat} {b : Nat → Int} {h9 hr1 : hS} {l1 : Nat} (h448 : 448 ≤ hN hc) (S : CS l1 n b hc h9) (N : nmR hc hr) (t16 : hT hc 16 = 1 ∧ hL hc 16 = 40) (q7 : 0 ≤ hI hc 15 7) (S1 : STD n b (tokb b n wkf n 0 ++ [(4, n, 0)]) hr1) (W1 : lrn hr1) (T1 : txr hr1 n b) (e11 : hI hr1 395 11 = 0) (e16 : hI hr1 395 16 = 0) (e18 : hI hr1 395 18 = 0) (e7 : hI hr1 395 7 = hI hr 395 7) (eJ : ∀ j, hJ hr1 397 j = hJ hr 397 j) : ∃ q sl : Nat, 1 ≤ sl ∧ BX sl n b 0 q 0 0 h9 hr1 := by
  obtain ⟨s1, ⟨s2, s2a, s2b, -⟩, -, -, -, s3⟩ := S
  obtain ⟨y1, y2, -, y4⟩ := s3 15 (by omega)
  obtain ⟨z1, z2, -, z4⟩ := s3 16 (by omega)
  refine ⟨(hI hc 15 7).toNat, (hI hc 15 7).toNat + 1, by omega, ⟨s1, s2, ?_, ?_, T1, W1⟩, ⟨e11, ?_, by rw [z1]; exact t16.1, by rw [z2]; exact t16.2, s2a, s2b⟩, ⟨?_, e16, e18⟩, ⟨by omega, by omega⟩, fun hs => by omega⟩
  · unfold TK
    rw [List.length_append]
    simp
  · exact S1
  · exact nmR_r (nmR_c N (y4 2 (by omega)) (fun j => z4 j (by omega))) e7 eJ
  · rw [y4 7 (by omega)]
    omega
end BGN
