/-! pond -/
/-- what the other side changes in a text that is told -/
def FY2 (h h' : hS) : Prop := h'.2.1 = h.2.1 ∧ h'.2.2.2 = h.2.2.2 ∧ (∀ x j, ¬ ((x = 399 ∧ 42000 ≤ j) ∨ (x = 400 ∧ 769 ≤ j ∧ j < 1538) ∨ (x = 395 ∧ ((1 ≤ j ∧ j ≤ 5) ∨ j = 7 ∨ j = 9 ∨ (11 ≤ j ∧ j ≤ 14) ∨ (16 ≤ j ∧ j ≤ 22) ∨ j = 24))) → hI h' x j = hI h x j) ∧ (∀ x j, ¬ (x = 397 ∨ x = 398 ∨ (x = 395 ∧ j = 10)) → hJ h' x j = hJ h x j)
/-- how both stand behind a text: no tape, the names, the fault -/
def EN (hc hr : hS) : Prop := tpR hc hr ∧ lrn hr ∧ nmR hc hr ∧ fltR hc hr ∧ 0 ≤ hI hc 15 7
section AP3
variable {hc hr hc' hr' : hS}
theorem c224_e {h : hS} : c224 h = some (sI (sI (sI h 395 13 (hI h 395 11)) 395 14 (if hI h 395 11 = 0 then -1 else hI h 395 12)) 395 1 0) := by
  have e11 : hI (sI h 395 13 (hI h 395 11)) 395 11 = hI h 395 11 := by rw [hI_sI, if_neg (by omega)]
  have e12 : hI (sI h 395 13 (hI h 395 11)) 395 12 = hI h 395 12 := by rw [hI_sI, if_neg (by omega)]
  unfold c224 c224_j24
  simp only [bsome]
  rw [e11, e12]
  by_cases c : hI h 395 11 = 0
  · rw [if_pos c, if_pos c]
  · rw [if_neg c, if_neg c]
theorem tells_FY (f : FY hr hr') : FY2 hr (sI (sI (sI hr' 395 13 (hI hr' 395 11)) 395 14 (if hI hr' 395 11 = 0 then -1 else hI hr' 395 12)) 395 1 0) := ⟨f.1, f.2.1, fun x j hx => by
  rw [hI_sI, if_neg (by omega), hI_sI, if_neg (by omega), hI_sI, if_neg (by omega)]
  exact f.2.2.1 x j (by omega), fun x j hx => f.2.2.2 x j (by omega)⟩
theorem tells_EN (L : FL hc' hr') (e9 : hI hc' 9 1 = 0) (W : lrn hr') : EN hc' (sI (sI (sI hr' 395 13 (hI hr' 395 11)) 395 14 (if hI hr' 395 11 = 0 then -1 else hI hr' 395 12)) 395 1 0) := by
  obtain ⟨f, a, h1, h2, h3, h4, h5, h6, h7⟩ := L
  refine ⟨⟨?_, by omega, fun i hi => by omega⟩, ⟨?_, W.2⟩, nmR_r h6 ?_ (fun _ => rfl), ⟨?_, ?_⟩, h7⟩
  · rw [e9, hI_sI, if_pos ⟨rfl, rfl⟩]
  · rw [hI_sI, if_neg (by omega), hI_sI, if_neg (by omega), hI_sI, if_neg (by omega)]; exact W.1
  · rw [hI_sI, if_neg (by omega), hI_sI, if_neg (by omega), hI_sI, if_neg (by omega)]
  · rw [h2, hI_sI, if_neg (by omega), hI_sI, if_neg (by omega), hI_sI, if_pos ⟨rfl, rfl⟩, h4]
  · rw [h3, hI_sI, if_neg (by omega), hI_sI, if_pos ⟨rfl, rfl⟩, h4, if_neg (by omega), h5]
/-- what a told pond leaves -/
def PZ (hc hr hc' hr' : hS) (p mk : Nat) (K : Nat → Int → Prop) : Prop := (hR hc' 8 7 = p ∧ p = hN hc) ∧ PW hc' hr' K p 0 mk rN ∧ TB hc' hr' p 0 mk ∧ CF hr' 0 mk ∧ (∀ j : Int, 0 ≤ j → j < mk → XR hc' hr' p 0 j) ∧ CT hc' hr' K 0 ∧ (hI hc' 8 8 = 0 ∧ hI hr' 395 33 = 0 ∧ ∀ c, c < 40 → hI hc' (215 + 4 * c) 1 = 0) ∧ (∀ l, l < 10 → (hI hc' (375 + 2 * l) 1 = 0 ∧ hI hc' (375 + 2 * l) 2 = 0) ∧ hI hr' 423 l = 0 ∧ hI hr' 424 l = 0) ∧ (hI hc' 8 10 = -1 ∧ hI hr' 395 30 = -1) ∧ (hI hc' 48 4 = 0 ∧ hI hr' 395 25 = 0 ∧ hR hc' 48 5 = 0 ∧ hI hr' 395 28 = -1 ∧ hR hc' 48 7 = 0 ∧ hR hc' 48 8 = 0 ∧ hI hr' 395 29 = -1 ∧ hI hc' 48 9 = 0 ∧ hI hr' 395 27 = 0)
  ∧ ((hN hc ≤ hN hc' ∧ hM hc ≤ hM hc') ∧ ∀ x, x < hN hc → hT hc' x = hT hc x ∧ hL hc' x = hL hc x ∧ (∀ j, ¬ ((x = 15 ∧ (j = 11 ∨ j = 12)) ∨ (x = 8 ∧ j = 7) ∨ (x = 48 ∧ (j = 5 ∨ j = 7 ∨ j = 8))) → hR hc' x j = hR hc x j) ∧ ∀ j, ¬ (x = 11 ∨ x = 12 ∨ x = 13 ∨ x = 16 ∨ x = 17 ∨ (x = 9 ∧ (j = 5 ∨ j = 1)) ∨ (x = 15 ∧ 2 ≤ j ∧ j ≤ 10) ∨ (x = 8 ∧ (j = 8 ∨ j = 10)) ∨ (x = 48 ∧ (j = 4 ∨ j = 9)) ∨ (j = 1 ∧ 215 ≤ x ∧ x < 375) ∨ ((j = 1 ∨ j = 2) ∧ 375 ≤ x ∧ x < 395)) → hI hc' x j = hI hc x j)
  ∧ (hr'.2.1 = hr.2.1 ∧ hr'.2.2.2 = hr.2.2.2 ∧ (∀ x j, ¬ (x = 399 ∨ (x = 400 ∧ j < 1538) ∨ (x = 395 ∧ ((1 ≤ j ∧ j ≤ 5) ∨ j = 7 ∨ j = 9 ∨ (11 ≤ j ∧ j ≤ 14) ∨ (16 ≤ j ∧ j ≤ 22) ∨ (24 ≤ j ∧ j ≤ 30) ∨ j = 33)) ∨ x = 423 ∨ x = 424) → hI hr' x j = hI hr x j) ∧ (∀ x j, ¬ (x = 397 ∨ x = 398 ∨ (x = 395 ∧ j = 10)) → hJ hr' x j = hJ hr x j))
/-- the class's end of pond -/
theorem pond_c {n l mk N0 M0 p : Nat} {b : Nat → Int} {K : Nat → Int → Prop} (Q : MP n b N0 M0 l K p mk rN hc hr) (hS0 : ∀ c : Nat, c < 40 → hR hc 19 c = 215 + 4 * c ∧ hT hc (215 + 4 * c) = 16) (hS1 : ∀ c : Nat, c < 10 → hR hc 21 c = 375 + 2 * c ∧ hT hc (375 + 2 * c) = 20) : ∃ h1 h', c88 p 0 0 hc = some h1 ∧ gch p mk hc h1 ∧ F41 p (1, hc) = some ((mk : Int), h') ∧ (hN h' = hN h1 ∧ hM h' = hM h1 ∧ hT h' = hT h1 ∧ hL h' = hL h1) ∧ (∀ x j, ¬ ((x = 8 ∧ j = 7) ∨ (x = 48 ∧ (j = 5 ∨ j = 7 ∨ j = 8))) → hR h' x j = hR h1 x j) ∧ (∀ x j, ¬ ((x = 8 ∧ (j = 8 ∨ j = 10)) ∨ (x = 48 ∧ (j = 4 ∨ j = 9)) ∨ (j = 1 ∧ ∃ c, c < 40 ∧ x = 215 + 4 * c) ∨ ((j = 1 ∨ j = 2) ∧ ∃ c, c < 10 ∧ x = 375 + 2 * c)) → hI h' x j = hI h1 x j) ∧ (hR h' 8 7 = p ∧ hI h' 8 8 = 0 ∧ hI h' 8 10 = -1) ∧ (hI h' 48 4 = 0 ∧ hR h' 48 5 = 0 ∧ hR h' 48 7 = 0 ∧ hR h' 48 8 = 0 ∧ hI h' 48 9 = 0) ∧ (∀ c, c < 40 → hI h' (215 + 4 * c) 1 = 0) ∧ ∀ c, c < 10 → hI h' (375 + 2 * c) 1 = 0 ∧ hI h' (375 + 2 * c) 2 = 0 := by
  obtain ⟨h1, s1, s2, -, -, s5, -⟩ := pond_s Q
  obtain ⟨q, m, sl, B, hm, W, T, hN0, t17, rm, Cf, Tz⟩ := Q
  have p448 : 448 ≤ p := by omega
  have low : ∀ x, x < 448 → ∀ u : Int, 0 ≤ u → u < mk → ¬ (kd hc p u + 8 ≤ x ∧ x ≤ kd hc p u + 12) := fun x hx u u0 u1 => by have := W.2.1 u u0 u1; omega
  have T2 : ∀ c : Nat, c < 40 → hR (sR h1 8 7 p) 19 c = 215 + 4 * c ∧ hT (sR h1 8 7 p) (215 + 4 * c) = 16 := fun c hc' => by
    refine ⟨?_, ?_⟩
    · rw [hR_sR, if_neg (by omega), (s2.2.2.2.2 19 (low 19 (by omega))).1]
      exact (hS0 c hc').1
    · show hT h1 (215 + 4 * c) = 16
      rw [s2.2.2.1]
      exact (hS0 c hc').2
  obtain ⟨h2, a1, a2, a3⟩ := c41_c (h := sR h1 8 7 p) T2 40 0 hF0 (sR h1 8 7 p) rfl (hF0_lt (by omega)) fp_rf (fun c hc' => by omega)
  have T3 : ∀ c : Nat, c < 10 → hR h2 21 c = 375 + 2 * c ∧ hT h2 (375 + 2 * c) = 20 := fun c hc' => by
    refine ⟨?_, ?_⟩
    · show h2.2.1 21 c = _
      rw [a2.1]
      show hR (sR h1 8 7 p) 21 c = _
      rw [hR_sR, if_neg (by omega), (s2.2.2.2.2 21 (low 21 (by omega))).1]
      exact (hS1 c hc').1
    · show h2.2.2.2.1 (375 + 2 * c) = 20
      rw [a2.1]
      show hT h1 (375 + 2 * c) = 20
      rw [s2.2.2.1]
      exact (hS1 c hc').2
  obtain ⟨h3, b1, b2, b3⟩ := c41_a (h := h2) T3 10 0 hF0 h2 rfl (hF0_lt (by omega)) fp_rf (fun c hc' => by omega)
  have a1 : lp (fun s => c41_b34 s.1 s.2) hF0 (0, sR h1 8 7 p) = some h2 := a1
  have b1 : lp (fun s => c41_b58 s.1 s.2) hF0 (0, h2) = some h3 := b1
  have e3 : h3.2 = (sR h1 8 7 p).2 := b2.1.trans a2.1
  have R3 : ∀ x j, hR h3 x j = if x = 8 ∧ j = 7 then p else hR h1 x j := fun x j => by
    show h3.2.1 x j = _
    rw [e3]
    show hR (sR h1 8 7 p) x j = _
    rw [hR_sR]
  have T3' : hT h3 = hT h1 := by show h3.2.2.2.1 = _; rw [e3]; rfl
  have L3' : hL h3 = hL h1 := by show h3.2.2.2.2.1 = _; rw [e3]; rfl
  have N3 : hN h3 = hN h1 := by show h3.2.2.2.2.2.1 = _; rw [e3]; rfl
  have M3 : hM h3 = hM h1 := by show h3.2.2.2.2.2.2 = _; rw [e3]; rfl
  have I3 : ∀ x j, ¬ ((j = 1 ∧ ∃ c, c < 40 ∧ x = 215 + 4 * c) ∨ ((j = 1 ∨ j = 2) ∧ ∃ c, c < 10 ∧ x = 375 + 2 * c)) → hI h3 x j = hI h1 x j := fun x j hx => by
    rw [b2.2 x j (fun z => hx (.inr z)), a2.2 x j (fun z => hx (.inl z)), hI_sR]
  obtain ⟨h', eh⟩ : ∃ h', h' = sI (sR (sR (sR (sI (sI (sI h3 8 8 0) 8 10 (-1)) 48 4 0) 48 5 0) 48 7 0) 48 8 0) 48 9 0 := ⟨_, rfl⟩
  have iF : ∀ x j, hI h' x j = if x = 48 ∧ j = 9 then 0 else if x = 48 ∧ j = 4 then 0 else if x = 8 ∧ j = 10 then -1 else if x = 8 ∧ j = 8 then 0 else hI h3 x j := fun x j => by
    rw [eh, hI_sI, hI_sR, hI_sR, hI_sR, hI_sI, hI_sI, hI_sI]
  have rF : ∀ x j, hR h' x j = if x = 48 ∧ j = 8 then 0 else if x = 48 ∧ j = 7 then 0 else if x = 48 ∧ j = 5 then 0 else hR h3 x j := fun x j => by
    rw [eh, hR_sI, hR_sR, hR_sR, hR_sR, hR_sI, hR_sI, hR_sI]
  have tF : hT h' = hT h1 := by rw [eh]; exact T3'
  have lF : hL h' = hL h1 := by rw [eh]; exact L3'
  have nF : hN h' = hN h1 := by rw [eh]; exact N3
  have mF : hM h' = hM h1 := by rw [eh]; exact M3
  refine ⟨h1, h', s1, s2, ?_, ⟨nF, mF, tF, lF⟩, fun x j hx => ?_, fun x j hx => ?_, ⟨?_, ?_, ?_⟩, ⟨?_, ?_, ?_, ?_, ?_⟩, fun c hc' => ?_, fun c hc' => ?_⟩
  · have e87 : hR h' 8 7 = p := by rw [rF, if_neg (by omega), if_neg (by omega), if_neg (by omega), R3, if_pos ⟨rfl, rfl⟩]
    have ep1 : hI h' p 1 = (mk : Int) := by
      rw [iF, if_neg (by omega), if_neg (by omega), if_neg (by omega), if_neg (by omega), I3 p 1 (by omega)]
      exact s5.2.1.2.2.2.2.2.2
    have p18 : hT h' p = 18 := by rw [tF]; exact s5.2.1.2.2.1
    unfold F41
    rw [if_neg (show ¬ (1 : Int) = 0 by omega), kT_s W.1.2.1.2.2.1]
    simp only [bsome]
    rw [s1]
    simp only [bsome]
    rw [a1]
    simp only [bsome]
    rw [b1]
    simp only [bsome]
    unfold c91
    simp only [bsome]
    rw [← eh, e87, gI_s p18, ep1]
    rfl
  · rw [rF, if_neg (by omega), if_neg (by omega), if_neg (by omega), R3, if_neg (by omega)]
  · rw [iF, if_neg (by omega), if_neg (by omega), if_neg (by omega), if_neg (by omega), I3 x j (fun z => hx (.inr (.inr z)))]
  · rw [rF, if_neg (by omega), if_neg (by omega), if_neg (by omega), R3, if_pos ⟨rfl, rfl⟩]
  · rw [iF, if_neg (by omega), if_neg (by omega), if_neg (by omega), if_pos ⟨rfl, rfl⟩]
  · rw [iF, if_neg (by omega), if_neg (by omega), if_pos ⟨rfl, rfl⟩]
  · rw [iF, if_neg (by omega), if_pos ⟨rfl, rfl⟩]
  · rw [rF, if_neg (by omega), if_neg (by omega), if_pos ⟨rfl, rfl⟩]
  · rw [rF, if_neg (by omega), if_pos ⟨rfl, rfl⟩]
  · rw [rF, if_pos ⟨rfl, rfl⟩]
  · rw [iF, if_pos ⟨rfl, rfl⟩]
  · rw [iF, if_neg (by omega), if_neg (by omega), if_neg (by omega), if_neg (by omega), b2.2 _ _ (fun z => by obtain ⟨-, d, z1, z2⟩ := z; omega)]
    exact a3 c hc'
  · rw [iF, if_neg (by omega), if_neg (by omega), if_neg (by omega), if_neg (by omega), iF, if_neg (by omega), if_neg (by omega), if_neg (by omega), if_neg (by omega)]
    exact b3 c hc'
end AP3
