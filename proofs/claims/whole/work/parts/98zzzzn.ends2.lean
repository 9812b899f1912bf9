/-! the beat's end, beside the other side -/
section ENDy
variable {h h' h0 h8 h9 t t' t7 : hS} {K : Nat → Int → Prop} {p m q κ l x c a k : Nat} {r : Int → Nat}
theorem ENDS (Ss : SL h) (La : LA h t) (LR : LRs h t K κ) (st : stq h h8) (h448 : 448 ≤ hN h) (et : ∀ y j, 424 ≤ y → y ≤ 437 → y ≠ 431 → hI t7 y j = hI t y j) (e99 : ∀ j, hI t7 399 j = hI t 399 j) (T16 : ∀ c, c < 40 → hT h8 (215 + 4 * c) = 16) (lv : ∀ c, c < 40 → hI h8 (215 + 4 * c) 1 = 0 ∨ hI h8 (215 + 4 * c) 1 = 1) (dy : ∀ l, l < 10 → ((hI t 423 l = 1 ∧ ∃ c : Nat, c < 40 ∧ hI t 426 l = (c : Int) ∧ hI h8 (215 + 4 * c) 1 = 0) → hI t7 423 l = 0 ∧ hI t7 431 l = 3) ∧ (¬ (hI t 423 l = 1 ∧ ∃ c : Nat, c < 40 ∧ hI t 426 l = (c : Int) ∧ hI h8 (215 + 4 * c) 1 = 0) → hI t7 423 l = hI t 423 l ∧ hI t7 431 l = hI t 431 l)) (kt : ∀ x v, K x v → (448 ≤ x ∧ x < hN h ∧ hT h x = 1)) : ∃ h9, c165 h8 = some h9 ∧ ENq h8 h9 10 ∧ SL h9 ∧ LA h9 t7 ∧ LRs h9 t7 K κ := by
  obtain ⟨stN, stS, st21⟩ := st
  have sl : ∀ l, l < 10 → sm h h8 (375 + 2 * l) ∧ sm h h8 (376 + 2 * l) := fun l hl => by
    obtain ⟨a1, a2, a3, a4⟩ := Ss l hl
    exact ⟨stS _ (by omega) (by omega) (by omega), stS _ (by omega) (by omega) (by omega)⟩
  -- who runs
  have run : ∀ l, l < 10 → hI h (375 + 2 * l) 2 ≠ 0 → hI t 423 l = 1 := fun l hl z => by
    obtain ⟨x1, x2, x3, x4, x5, x6⟩ := La l hl
    rcases x4 with w | w
    · exact absurd (x3.trans w) z
    · exact w
  have lk : ∀ l, l < 10 → hI t 423 l = 1 → ∃ c, c < 40 ∧ hR h8 (376 + 2 * l) 0 = 215 + 4 * c ∧ hI t 426 l = (c : Int) ∧ hI t 432 l = 0 := fun l hl z => by
    obtain ⟨x, c, F, X⟩ := LR l hl z
    obtain ⟨-, -, -, -, -, -, -, -, -, -, -, -, -, X9⟩ := X
    obtain ⟨-, ⟨d1, d2, d3⟩, g1, -⟩ := F
    exact ⟨c, d1, by rw [(sl l hl).2.2.1]; exact d2, g1, X9⟩
  have F8 : ∀ l, l < 10 → (hR h8 21 l = 375 + 2 * l ∧ hT h8 (375 + 2 * l) = 20 ∧ hR h8 (375 + 2 * l) 0 = 376 + 2 * l ∧ hT h8 (376 + 2 * l) = 12) ∧ (hI h8 (375 + 2 * l) 2 ≠ 0 → ∃ c, c < 40 ∧ hR h8 (376 + 2 * l) 0 = 215 + 4 * c ∧ hT h8 (215 + 4 * c) = 16) := fun l hl => by
    obtain ⟨a1, a2, a3, a4⟩ := Ss l hl
    obtain ⟨s1, s2⟩ := sl l hl
    refine ⟨⟨by rw [st21]; exact a1, by rw [s1.2.2.1]; exact a2, by rw [s1.2.1]; exact a3, by rw [s2.2.2.1]; exact a4⟩, fun z => ?_⟩
    rw [s1.1] at z
    obtain ⟨c, y1, y2, -⟩ := lk l hl (run l hl z)
    exact ⟨c, y1, y2, T16 c y1⟩
  obtain ⟨h9, e1, E⟩ := c165_l F8 10 0 hF0 h8 (by omega) (hF0_lt (by omega)) ⟨⟨rfl, rfl, rfl, rfl, rfl⟩, fun _ _ => rfl, fun _ _ _ => rfl, fun l hl => by omega, fun l _ _ _ => rfl⟩
  obtain ⟨⟨c1, c2, c3, c4, c5⟩, c6, c7, c8, -⟩ := id E
  have t9 : ∀ x, hT h9 x = hT h8 x := fun x => by rw [c2]
  have l9 : ∀ x, hL h9 x = hL h8 x := fun x => by rw [c3]
  -- dying, in both
  have dq : ∀ l, l < 10 → (dqE h8 l ↔ (hI t 423 l = 1 ∧ ∃ c : Nat, c < 40 ∧ hI t 426 l = (c : Int) ∧ hI h8 (215 + 4 * c) 1 = 0)) := fun l hl => by
    unfold dqE
    rw [(sl l hl).1.1]
    constructor
    · rintro ⟨z1, z2⟩
      have r1 := run l hl z1
      obtain ⟨c, y1, y2, y3, -⟩ := lk l hl r1
      rw [y2] at z2
      exact ⟨r1, c, y1, y3, z2⟩
    · rintro ⟨z1, c, z2, z3, z4⟩
      obtain ⟨c', y1, y2, y3, -⟩ := lk l hl z1
      obtain rfl : c' = c := by omega
      obtain ⟨x1, x2, x3, x4, x5, x6⟩ := La l hl
      exact ⟨by rw [x3, z1]; omega, by rw [y2]; exact z4⟩
  have s89 : ∀ x, (∀ l, l < 10 → x ≠ 375 + 2 * l) → sm h8 h9 x := fun x hx => ⟨fun j => c7 x j (fun w => by obtain ⟨l, w1, w2, -⟩ := w; exact hx l w1 w2), fun j => c6 x j, t9 x, l9 x⟩
  have s48 : ∀ x, 448 ≤ x → x < hN h → hT h x ≠ 26 → sm h h9 x := fun x x1 x2 x3 => sm_tr (stS x (by omega) x2 x3) (s89 x (fun l hl => by omega))
  have n9 : hN h ≤ hN h9 := by rw [c4]; exact stN
  have sf : ∀ l, l < 10 → sm h h9 (376 + 2 * l) := fun l hl => sm_tr (sl l hl).2 (s89 _ (fun l' hl' => by omega))
  refine ⟨h9, ?_, E, fun l hl => ?_, fun l hl => ?_, fun l hl z => ?_⟩
  · unfold c165
    refine bnd e1 ?_
    rfl
  · obtain ⟨a1, a2, a3, a4⟩ := (F8 l hl).1
    exact ⟨by rw [c6]; exact a1, by rw [t9]; exact a2, by rw [c6]; exact a3, by rw [t9]; exact a4⟩
  · obtain ⟨x1, x2, x3, x4, x5, x6⟩ := La l hl
    have e4 := et 424 l (by omega) (by omega) (by omega)
    have e5 := et 425 l (by omega) (by omega) (by omega)
    have e30 := et 430 l (by omega) (by omega) (by omega)
    have e32 := et 432 l (by omega) (by omega) (by omega)
    have e37 := et 437 (12 * l) (by omega) (by omega) (by omega)
    have sk : hI t 424 l = 1 → KD h9 (hR h9 (376 + 2 * l) 1) ∧ hI h9 (hR h9 (376 + 2 * l) 1) 2 = hI t7 437 (12 * l) := fun z => by
      obtain ⟨-, -, -, -, y5, y6⟩ := x6 z
      obtain ⟨k1, k2⟩ := KD_st s48 n9 y5
      have s0 := k2 0 (by omega)
      rw [Nat.add_zero] at s0
      rw [(sf l hl).2.1, e37]
      exact ⟨k1, by rw [s0.1]; exact y6⟩
    unfold LA1
    rw [e4, e5, e30, e32]
    have s0 := (sl l hl).1
    by_cases d : dqE h8 l
    · obtain ⟨z1, z2⟩ := (dq l hl).1 d
      obtain ⟨v1, v2, v3⟩ := (c8 l hl).1 d
      obtain ⟨w1, w2⟩ := (dy l hl).1 ⟨z1, z2⟩
      have i9 : ∀ j, j ≠ 2 → j ≠ 5 → j ≠ 6 → hI h9 (375 + 2 * l) j = hI h (375 + 2 * l) j := fun j j2 j5 j6 => by rw [c7 _ j (fun w => by obtain ⟨l', -, -, w⟩ := w; omega), s0.1]
      obtain ⟨c, -, -, -, q32⟩ := lk l hl z1
      rw [v1, v2, v3, w1, w2, i9 1 (by omega) (by omega) (by omega), i9 3 (by omega) (by omega) (by omega), i9 4 (by omega) (by omega) (by omega)]
      refine ⟨x1, x2, rfl, .inl rfl, fun w => by omega, fun w => ?_⟩
      obtain ⟨y1, y2, y3, y4, y5, y6⟩ := x6 w
      exact ⟨y1, y2, by rw [if_neg (by omega)], q32.symm, sk w⟩
    · have nd := fun w => d ((dq l hl).2 w)
      obtain ⟨w1, w2⟩ := (dy l hl).2 nd
      have i9 : ∀ j, hI h9 (375 + 2 * l) j = hI h (375 + 2 * l) j := fun j => by rw [(c8 l hl).2 d j, s0.1]
      rw [i9, i9, i9, i9, i9, i9, w1, w2]
      refine ⟨x1, x2, x3, x4, x5, fun w => ?_⟩
      obtain ⟨y1, y2, y3, y4, y5, y6⟩ := x6 w
      exact ⟨y1, y2, y3, y4, sk w⟩
  · have nd : ¬ (hI t 423 l = 1 ∧ ∃ c : Nat, c < 40 ∧ hI t 426 l = (c : Int) ∧ hI h8 (215 + 4 * c) 1 = 0) := fun w => by
      have := ((dy l hl).1 w).1
      omega
    have r1 : hI t 423 l = 1 := ((dy l hl).2 nd).1 ▸ z
    obtain ⟨x, c, Q, X⟩ := LR l hl r1
    obtain ⟨⟨q1, q2, q3, q4, q5, q6⟩, ⟨d1, d2, d3⟩, g1, g2, g3, n, k, ⟨n1, n2, n3⟩, n4, n5, n6, n7⟩ := Q
    obtain ⟨k1, k2, k3⟩ := kt x _ n7
    have sx := s48 x k1 k2 (by omega)
    have F9 := sf l hl
    have ee : ∀ y, 424 ≤ y → y ≤ 437 → y ≠ 431 → ∀ j, hI t7 y j = hI t y j := fun y h1 h2 h3 j => et y j h1 h2 h3
    have lc : hI h9 (215 + 4 * c) 1 = 1 := by
      rw [(s89 _ (fun l' hl' => by omega)).1]
      rcases lv c d1 with w | w
      · exact absurd ⟨r1, c, d1, g1, w⟩ nd
      · exact w
    refine ⟨x, c, ⟨⟨by rw [F9.2.2.1]; exact q1, by rw [F9.2.1]; exact q2, q3, by rw [sx.2.2.1]; exact q4, by rw [sx.2.2.2]; exact q5, q6⟩, ⟨d1, by rw [F9.2.1]; exact d2, lc⟩, by rw [ee 426 (by omega) (by omega) (by omega)]; exact g1, by rw [F9.1, ee 427 (by omega) (by omega) (by omega)]; exact g2, by rw [F9.1, ee 428 (by omega) (by omega) (by omega)]; exact g3, n, k, ⟨n1, by rw [F9.1]; exact n2, by rw [ee 434 (by omega) (by omega) (by omega)]; exact n3⟩, by rw [ee 433 (by omega) (by omega) (by omega)]; exact n4, n5, ?_, by rw [ee 435 (by omega) (by omega) (by omega)]; exact n7⟩, SFX_g X sx.1 sx.2.2.2 (F9.1 4) (ee 429 (by omega) (by omega) (by omega) l) (ee 432 (by omega) (by omega) (by omega) l) e99⟩
    rw [F9.2.1]
    exact ACH_c n6 (fun a' Q' => by
      obtain ⟨z1, z2⟩ := KD_st s48 n9 Q'
      exact ⟨z1, fun o ho _ => z2 o ho⟩) (fun u u1 u2 => ⟨ee 435 (by omega) (by omega) (by omega) _, ee 436 (by omega) (by omega) (by omega) _, ee 437 (by omega) (by omega) (by omega) _⟩)
end ENDy
