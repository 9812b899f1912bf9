/-! call 18: beat (2) -/
/-- what a beat leaves alone -/
def BEc (h h' : hS) : Prop := (hN h ≤ hN h' ∧ hM h ≤ hM h') ∧ JQr h h' ∧ ∀ x, x < 448 → (hT h' x = hT h x ∧ hL h' x = hL h x) ∧ (∀ j, ¬ ((23 ≤ x ∧ x ≤ 48) ∨ x = 51 ∨ (53 ≤ x ∧ x < 213) ∨ (215 ≤ x ∧ x < 395) ∨ (x = 8 ∧ j = 7)) → hR h' x j = hR h x j) ∧ ∀ j, ¬ ((x = 8 ∧ j = 9) ∨ x = 20 ∨ x = 22 ∨ (24 ≤ x ∧ x ≤ 47) ∨ (x = 48 ∧ j ≠ 4) ∨ x = 52 ∨ (53 ≤ x ∧ x < 213) ∨ (215 ≤ x ∧ x < 395)) → hI h' x j = hI h x j
def BEt (t t' : hS) : Prop := fp (fun x j => (x = 395 ∧ ((26 ≤ j ∧ j ≤ 29) ∨ (39 ≤ j ∧ j ≤ 42) ∨ j = 52 ∨ j = 54 ∨ j = 55 ∨ j = 59 ∨ j = 60 ∨ j = 66 ∨ (82 ≤ j ∧ j ≤ 84))) ∨ x = 400 ∨ (402 ≤ x ∧ x ≤ 447)) t t'
section BT9
variable {h h' h0 h1 h2 h3 t t' t1 t2 t3 hA tA : hS} {K : Nat → Int → Prop} {p P m q κ k : Nat} {r : Int → Nat} {G s v : Int} {R0 R1 : Nat → Nat}
/-- the loops of a beat, and what is held behind them -/
theorem BE_1 (I : INq K p m q r κ G R0 R1 h t) (h448 : 448 ≤ hN h) (bt : hI h 8 9 = hI t 395 59 ∧ 0 ≤ hI h 8 9 ∧ hI h 8 9 < 1000) (wk : hI h 8 10 = hI t 395 30 ∧ (hI t 395 30 = -1 ∨ (0 ≤ hI t 395 30 ∧ hI t 395 30 < 40))) (eA : hA = sI (sI (sI h 8 9 (hI h 8 9 + 1)) 22 13 0) 22 11 1) (eB : tA = sI (sI (sI t 395 59 (hI h 8 9 + 1)) 395 66 0) 395 60 1) : ∃ h1 t1 h2 t2 h3 t3, lp (fun s => c136_b40 s.1 s.2) hF0 (0, hA) = some h1 ∧ lp (fun s => c271_b34 s.1 s.2) hF0 (0, tA) = some t1 ∧ lp (fun s => c136_b95 s.1 s.2.1 s.2.2) hF0 (0, 0, h1) = some (fbI t3 10, h2) ∧ lp (fun s => c271_b135 s.1 s.2) hF0 (0, t1) = some t2 ∧ h3 = sI h2 22 11 0 ∧ t3 = sI t2 395 60 0 ∧ INq K p m q r κ G R0 R1 h3 t3 ∧ (∀ c, c < 40 → hI h3 20 c = hI t3 418 c) ∧ BTc p m hA h2 ∧ BTr tA t2 := by
  obtain ⟨U, ⟨Ss, La, LR⟩, PTh, Pk, Gn, ⟨x1, x2, x3⟩, rf, e87, Lt⟩ := I
  have iA : ∀ x j, ¬ ((x = 8 ∧ j = 9) ∨ (x = 22 ∧ (j = 11 ∨ j = 13))) → hI hA x j = hI h x j := fun x j hx => by rw [eA, hI_sI, if_neg (by omega), hI_sI, if_neg (by omega), hI_sI, if_neg (by omega)]
  have iB : ∀ x j, ¬ (x = 395 ∧ (j = 59 ∨ j = 60 ∨ j = 66)) → hI tA x j = hI t x j := fun x j hx => by rw [eB, hI_sI, if_neg (by omega), hI_sI, if_neg (by omega), hI_sI, if_neg (by omega)]
  have rA : ∀ x j, hR hA x j = hR h x j := fun x j => by rw [eA, hR_sI, hR_sI, hR_sI]
  have gA : hJ hA = hJ h ∧ hT hA = hT h ∧ hL hA = hL h ∧ hN hA = hN h ∧ hM hA = hM h := by rw [eA]; exact ⟨rfl, rfl, rfl, rfl, rfl⟩
  have a8 : hI hA 8 9 = hI h 8 9 + 1 := by rw [eA, hI_sI, if_neg (by omega), hI_sI, if_neg (by omega), hI_sI, if_pos ⟨rfl, rfl⟩]
  have a13 : hI hA 22 13 = 0 := by rw [eA, hI_sI, if_neg (by omega), hI_sI, if_pos ⟨rfl, rfl⟩]
  have a11 : hI hA 22 11 = 1 := by rw [eA, hI_sI, if_pos ⟨rfl, rfl⟩]
  have b59 : hI tA 395 59 = hI h 8 9 + 1 := by rw [eB, hI_sI, if_neg (by omega), hI_sI, if_neg (by omega), hI_sI, if_pos ⟨rfl, rfl⟩]
  have b66 : hI tA 395 66 = 0 := by rw [eB, hI_sI, if_neg (by omega), hI_sI, if_pos ⟨rfl, rfl⟩]
  have b60 : hI tA 395 60 = 1 := by rw [eB, hI_sI, if_pos ⟨rfl, rfl⟩]
  have UA : RUNp K p m q r κ hA tA := RUN_p U gA rA iA iB ⟨a13.trans b66.symm, by rw [a13]; omega, fun i hi => by rw [a13] at hi; omega⟩ (a11.trans b60.symm)
  obtain ⟨SA, LA', RA⟩ := SLL_s Ss La LR ⟨gA.2.1, gA.2.2.1, gA.2.2.2.1⟩ rA (fun x j hx => iA x j (by omega)) (fun y j hy => iB y j (by omega))
  have BTrf : BTc p m hA hA := ⟨⟨rfl, rfl, rfl, rfl, rfl⟩, fun _ _ _ => rfl, fun _ _ _ => rfl⟩
  obtain ⟨h1, t1, e1, e2, ⟨U1, B1', F1, T1, O1⟩, rows⟩ := b40_l (K := K) (p := p) (m := m) (q := q) (r := r) (κ := κ) (h0 := hA) (t0 := tA) (by rw [iA 8 10 (by omega), iB 395 30 (by omega)]; exact wk) (a8.trans b59.symm) 40 0 hF0 hA tA (by omega) (hF0_lt (by omega)) ⟨UA, BTrf, fun _ _ _ _ => ⟨rfl, rfl⟩, fp_rf, fun _ _ _ _ => rfl⟩ (fun c hc => by omega)
  have S1 := SL_b SA B1' (fun l hl => (F1 _ (by omega) (by omega) 0).2)
  have L1 : LA h1 t1 := fun l hl => LA1_b UA.1 (LA' l hl) B1' (fun j => (F1 _ (by omega) (by omega) j).1) (F1 _ (by omega) (by omega) 1).2 (fun y h1 h2 => O1 y l (by omega) (by omega)) (O1 437 _ (by omega) (by omega))
  have R1' := LRs_b UA.1 RA B1' (fun _ => True) (fun l hl _ j => F1 _ (by omega) (by omega) j) (fun l hl _ y h1 h2 => O1 y l (by omega) (by omega)) (fun l hl _ y j h1 h2 h3 h4 => O1 y j (by omega) (by omega)) (fun j => T1.2 399 j (by omega)) (fun l hl z => absurd trivial z)
  obtain ⟨h2, t2, e3, e4, ⟨U2, S2, L2, R2, B2, T2⟩⟩ := b95_l (K := K) (p := p) (m := m) (q := q) (r := r) (κ := κ) (h0 := hA) (t0 := tA) 10 0 hF0 h1 t1 (by omega) (hF0_lt (by omega)) ⟨U1, S1, L1, R1', B1', T1⟩
  sorry
end BT9
