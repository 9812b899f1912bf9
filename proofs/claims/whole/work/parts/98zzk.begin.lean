/-! call 21: begin -/
section BGN
variable {h h' h0 h1 t t' t0 t1 t2 : hS} {K : Nat → Int → Prop} {p m q κ l x c : Nat} {r : Int → Nat} {n v : Int} {S : Nat → Prop}
theorem LRs_g (L : LRs h t K κ) (ch : chg S h h') (hS : ∀ x, S x → (20 ≤ x ∧ x ≤ 47) ∨ (375 ≤ x ∧ x < 395)) (o : Nat → Prop) (eF : ∀ l, l < 10 → o l → ∀ j, hI h' (376 + 2 * l) j = hI h (376 + 2 * l) j ∧ hR h' (376 + 2 * l) j = hR h (376 + 2 * l) j) (e1 : ∀ l, l < 10 → o l → ∀ y, 423 ≤ y → y ≤ 434 → hI t' y l = hI t y l) (e2 : ∀ l, l < 10 → o l → ∀ y j, 435 ≤ y → y ≤ 437 → 12 * l ≤ j → j < 12 * l + 12 → hI t' y j = hI t y j) (e399 : ∀ j, hI t' 399 j = hI t 399 j) (a : ∀ l, l < 10 → ¬ o l → hI t' 423 l = 1 → ∃ x c, FRL h' t' K l x c ∧ SFX h' t' κ l x) : LRs h' t' K κ := fun l hl z => by
  by_cases y : o l
  · obtain ⟨x, c, w1, w2⟩ := L l hl (by rw [← e1 l hl y 423 (by omega) (by omega)]; exact z)
    have hx := w1.1.2.2.1
    exact ⟨x, c, FRL_g w1 ch hS (eF l hl y) (fun y' h1 h2 _ => e1 l hl y y' (by omega) h2) (e2 l hl y), SFX_g w2 (fun j => (ch.2.2.2.2.2 x (fun z => by have := hS _ z; omega) j).1) (by rw [ch.2.2.1]) (eF l hl y 4).1 (e1 l hl y 429 (by omega) (by omega)) (e1 l hl y 432 (by omega) (by omega)) e399⟩
  · exact a l hl y z
theorem c293_0 (hl : l ≤ 10) (a : ∀ i : Nat, i < l → hI t 423 i ≠ 0) (b : l = 10 ∨ hI t 423 l = 0) : lp (fun s => c293_b3 t s) hF0 (0 : Int) = some (l : Int) := c293_l hl a b l 0 hF0 (by omega) (hF0_lt (by omega))
theorem c168_0 {l1 l2 l3 : Int} {l4 : Nat} {z : (hS) ⊕ (Int × hS)} (Ss : SL h) (L : LA h t) (hl : l ≤ 10) (a : ∀ i : Nat, i < l → hI t 423 i ≠ 0) (e : c168_b37 l1 l2 l3 l4 (l : Int) h = some (.inr z)) : lp (fun s => c168_b37 l1 l2 l3 l4 s.1 s.2) hF0 ((0 : Int), h) = some z := c168_l Ss L hl a e l 0 hF0 (by omega) (hF0_lt (by omega))
theorem c293_r0 (hl : l < 10) : ∃ T', lp (fun s => c293_b163 (l : Int) s.1 s.2) hF0 ((0 : Int), t) = some T' ∧ fp (fun y j => 435 ≤ y ∧ y ≤ 437 ∧ 12 * l ≤ j ∧ j < 12 * l + 12) t T' ∧ ∀ u, u < 12 → ∀ y, 414 ≤ y → y ≤ 416 → hI T' (y + 21) (12 * l + u) = hI t y u := c293_r hl 12 0 hF0 t (by omega) (hF0_lt (by omega)) ⟨fp_rf, fun u hu => absurd hu (by omega)⟩
end BGN
