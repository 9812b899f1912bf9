/-! call 18: beat -/
section BT8
variable {h h' h0 h1 h2 h3 t t' t1 t2 : hS} {K : Nat → Int → Prop} {p P m q κ k : Nat} {r : Int → Nat} {G s v : Int} {R0 R1 : Nat → Nat}
/-- the long acts stay where only small things change -/
theorem SLL_s (Ss : SL h) (La : LA h t) (LR : LRs h t K κ) (g : hT h' = hT h ∧ hL h' = hL h ∧ hN h' = hN h) (eR : ∀ x j, hR h' x j = hR h x j) (eI : ∀ x j, 48 < x → hI h' x j = hI h x j) (et : ∀ y j, (y = 399 ∨ (423 ≤ y ∧ y ≤ 437)) → hI t' y j = hI t y j) : SL h' ∧ LA h' t' ∧ LRs h' t' K κ := by
  obtain ⟨g1, g2, g3⟩ := g
  have tT : ∀ x, hT h' x = hT h x := fun x => by rw [g1]
  have tL : ∀ x, hL h' x = hL h x := fun x => by rw [g2]
  have s : ∀ x, 48 < x → sm h h' x := fun x hx => ⟨fun j => eI x j hx, fun j => eR x j, tT x, tL x⟩
  have kd : ∀ {a : Nat}, KD h a → KD h' a ∧ ∀ o, o ≤ 12 → sm h h' (a + o) := fun Q => KD_st (fun x x1 _ _ => s x (by omega)) (by rw [g3]; exact Nat.le_refl _) Q
  have ee : ∀ y, 423 ≤ y → y ≤ 437 → ∀ j, hI t' y j = hI t y j := fun y h1 h2 j => et y j (.inr ⟨h1, h2⟩)
  refine ⟨fun l hl => ?_, fun l hl => ?_, fun l hl z => ?_⟩
  · obtain ⟨a1, a2, a3, a4⟩ := Ss l hl
    exact ⟨by rw [eR]; exact a1, by rw [tT]; exact a2, by rw [eR]; exact a3, by rw [tT]; exact a4⟩
  · obtain ⟨x1, x2, x3, x4, x5, x6⟩ := La l hl
    unfold LA1
    rw [(s (375 + 2 * l) (by omega)).1, (s (375 + 2 * l) (by omega)).1, (s (375 + 2 * l) (by omega)).1, (s (375 + 2 * l) (by omega)).1, (s (375 + 2 * l) (by omega)).1, (s (375 + 2 * l) (by omega)).1, eR, ee 423 (by omega) (by omega), ee 424 (by omega) (by omega), ee 425 (by omega) (by omega), ee 430 (by omega) (by omega), ee 431 (by omega) (by omega), ee 432 (by omega) (by omega), ee 437 (by omega) (by omega)]
    refine ⟨x1, x2, x3, x4, x5, fun z => ?_⟩
    obtain ⟨y1, y2, y3, y4, y5, y6⟩ := x6 z
    obtain ⟨k1, k2⟩ := kd y5
    have s0 := k2 0 (by omega)
    rw [Nat.add_zero] at s0
    exact ⟨y1, y2, y3, y4, k1, by rw [s0.1]; exact y6⟩
  · rw [ee 423 (by omega) (by omega)] at z
    obtain ⟨x, c, Q, X⟩ := LR l hl z
    obtain ⟨⟨q1, q2, q3, q4, q5, q6⟩, ⟨d1, d2, d3⟩, g1', g2', g3', n, k, ⟨n1, n2, n3⟩, n4, n5, n6, n7⟩ := Q
    have sx := s x (by omega)
    have F9 := s (376 + 2 * l) (by omega)
    refine ⟨x, c, ⟨⟨by rw [tT]; exact q1, by rw [eR]; exact q2, q3, by rw [tT]; exact q4, by rw [tL]; exact q5, q6⟩, ⟨d1, by rw [eR]; exact d2, by rw [(s _ (by omega)).1]; exact d3⟩, by rw [ee 426 (by omega) (by omega)]; exact g1', by rw [F9.1, ee 427 (by omega) (by omega)]; exact g2', by rw [F9.1, ee 428 (by omega) (by omega)]; exact g3', n, k, ⟨n1, by rw [F9.1]; exact n2, by rw [ee 434 (by omega) (by omega)]; exact n3⟩, by rw [ee 433 (by omega) (by omega)]; exact n4, n5, ?_, by rw [ee 435 (by omega) (by omega)]; exact n7⟩, SFX_g X sx.1 sx.2.2.2 (F9.1 4) (ee 429 (by omega) (by omega) l) (ee 432 (by omega) (by omega) l) (fun j => et 399 j (.inl rfl))⟩
    rw [eR]
    exact ACH_c n6 (fun a' Q' => by
      obtain ⟨z1, z2⟩ := kd Q'
      exact ⟨z1, fun o ho _ => z2 o ho⟩) (fun u u1 u2 => ⟨ee 435 (by omega) (by omega) _, ee 436 (by omega) (by omega) _, ee 437 (by omega) (by omega) _⟩)
/-- ready still, at the beat's begin and at its end -/
theorem RUN_p (U : RUNp K p m q r κ h t) (g : hJ h' = hJ h ∧ hT h' = hT h ∧ hL h' = hL h ∧ hN h' = hN h ∧ hM h' = hM h) (eR : ∀ x j, hR h' x j = hR h x j) (eI : ∀ x j, ¬ ((x = 8 ∧ j = 9) ∨ (x = 22 ∧ (j = 11 ∨ j = 13))) → hI h' x j = hI h x j) (et : ∀ x j, ¬ (x = 395 ∧ (j = 59 ∨ j = 60 ∨ j = 66)) → hI t' x j = hI t x j) (rn : rnnR h' t') (e11 : hI h' 22 11 = hI t' 395 60) : RUNp K p m q r κ h' t' := by
  obtain ⟨R, C, hk, ⟨f1, f2⟩, -, n, e⟩ := U
  obtain ⟨g1, g2, g3, g4, g5⟩ := g
  obtain ⟨hA, eA⟩ : ∃ hA, hA = sI h 8 9 (hI h' 8 9) := ⟨_, rfl⟩
  have R1 : RT hA t K p m q r := RT_8 R (by rw [eA]; exact ⟨rfl, rfl, rfl, rfl, rfl, fun x hx j => ⟨by rw [hI_sI, if_neg (fun w => hx w.1)], rfl⟩⟩) (by rw [eA, hI_sI, if_neg (by omega)]) (fun _ _ _ => rfl)
  have ch : chg (fun x => (20 ≤ x ∧ x ≤ 47) ∨ (375 ≤ x ∧ x < 395)) hA h' := ⟨by rw [eA]; exact g1, by rw [eA]; exact g2, by rw [eA]; exact g3, by rw [eA]; exact g4, by rw [eA]; exact g5, fun x hx j => ⟨by
    rw [eA, hI_sI]
    by_cases z : x = 8 ∧ j = 9
    · rw [if_pos z, z.1, z.2]
    · rw [if_neg z]
      exact eI x j (by omega), by rw [eA, hR_sI]; exact eR x j⟩⟩
  have ch8 : chg (fun x => x = 8 ∨ x = 22) h h' := ⟨g1, g2, g3, g4, g5, fun x hx j => ⟨eI x j (by omega), eR x j⟩⟩
  exact ⟨RT_c R1 ch (fun x j hx => et x j (by omega)), CT_chg C ch8 (fun x hx => by omega) (fun j => et 399 j (by omega)), hk, ⟨fun e e1 e2 => ⟨by rw [eR]; exact (f1 e e1 e2).1, by rw [g2]; exact (f1 e e1 e2).2⟩, by rw [g2]; exact f2⟩, rn, e11, by rw [et 395 54 (by omega)]; exact e⟩
theorem BT_kp (R : RT h t K p m q r) (b : BTc p m h h') : kpH p m h h' := by
  obtain ⟨⟨c1, c2, c3, c4, c5⟩, c6, c7⟩ := b
  have k8 : ∀ j : Int, 0 ≤ j → j < m → 448 ≤ kd h p j := fun j j0 j1 => (R.2.1.2.2.1 j j0 j1).1.1
  have low : ∀ x, x < 448 → ∀ u : Int, 0 ≤ u → u < m → x ≠ kd h p u + 5 := fun x hx u u0 u1 z => by have := k8 u u0 u1; omega
  have i : ∀ x j, x < 448 → ¬ (x = 20 ∨ (x = 22 ∧ j ≠ 11) ∨ (24 ≤ x ∧ x ≤ 47) ∨ (375 ≤ x ∧ x < 395) ∨ (215 ≤ x ∧ x < 375)) → hI h' x j = hI h x j := fun x j hx hn => c7 x j (fun z => by
    rcases z with z | z | z | z | z | ⟨u, u0, u1, z⟩
    · omega
    · omega
    · omega
    · omega
    · omega
    · exact low x hx u u0 u1 z)
  have s : ∀ x, x < 448 → ¬ (x = 20 ∨ (22 ≤ x ∧ x ≤ 47) ∨ (375 ≤ x ∧ x < 395) ∨ (215 ≤ x ∧ x < 375)) → sm h h' x := fun x hx hn => ⟨fun j => i x j hx (by omega), fun j => c6 x j (by omega), by rw [c2], by rw [c3]⟩
  refine ⟨by rw [c4]; exact Nat.le_refl _, fun x x1 x2 => ⟨by rw [c2], fun j => c6 x j (by omega), fun _ hn => ⟨fun j => c7 x j (fun z => ?_), fun j => c6 x j (by omega), by rw [c2], by rw [c3]⟩⟩, ⟨s 213 (by omega) (by omega), s 214 (by omega) (by omega), s 6 (by omega) (by omega)⟩, fun j => c6 50 j (by omega), ⟨i 48 9 (by omega) (by omega), c6 48 7 (by omega), c6 48 8 (by omega)⟩⟩
  rcases z with z | z | z | z | z | ⟨u, u0, u1, z⟩
  · omega
  · omega
  · omega
  · omega
  · omega
  · exact hn u u0 u1 z
theorem BT_kt (b : BTr t t') : kpT t t' := ⟨fun j => b.2 399 j (by omega), fun j => b.2 401 j (by omega), ⟨b.2 395 27 (by omega), b.2 395 29 (by omega)⟩, fun v g v0 v1 g0 g1 n => b.2 400 _ (by omega), fun v g v0 v1 g0 g1 => b.2 400 _ (by omega), b.2 400 _ (by omega)⟩
end BT8
