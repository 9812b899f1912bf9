/-! the begin: all holds on the new object -/
def iniZ (x : Nat) : Bool := (hvals mv_W2 x).all (fun v => decide (iv v = 0))
section INI
theorem ini_0 {x : Nat} (h : iniZ x = true) (j : Nat) : hI h_W2 x j = 0 := by
  show iv ((hvals mv_W2 x).getD j .null) = 0
  rw [List.getD_eq_getElem?_getD]
  cases e : (hvals mv_W2 x)[j]? with
  | none => rfl
  | some v => exact of_decide_eq_true (List.all_eq_true.mp h v (List.mem_of_getElem? e))
set_option maxRecDepth 1000000 in
theorem ini_a : ∀ c : Nat, c < 40 → (hR h_W2 19 c = 215 + 4 * c ∧ (hT h_W2 (215 + 4 * c) = 16 ∧ hR h_W2 (215 + 4 * c) 3 = 215 + 4 * c + 1 ∧ hR h_W2 (215 + 4 * c) 4 = 215 + 4 * c + 2 ∧ hR h_W2 (215 + 4 * c) 5 = 215 + 4 * c + 3 ∧ (hT h_W2 (215 + 4 * c + 1) = 1 ∧ hT h_W2 (215 + 4 * c + 2) = 3 ∧ hT h_W2 (215 + 4 * c + 3) = 1) ∧ (hL h_W2 (215 + 4 * c + 1) = 40 ∧ hL h_W2 (215 + 4 * c + 2) = 40 ∧ hL h_W2 (215 + 4 * c + 3) = 40) ∧ hI h_W2 (215 + 4 * c) 0 = (c : Int))) ∧ (hR h_W2 49 c = 53 + 4 * c ∧ (hT h_W2 (53 + 4 * c) = 16 ∧ hR h_W2 (53 + 4 * c) 3 = 53 + 4 * c + 1 ∧ hR h_W2 (53 + 4 * c) 4 = 53 + 4 * c + 2 ∧ hR h_W2 (53 + 4 * c) 5 = 53 + 4 * c + 3 ∧ (hT h_W2 (53 + 4 * c + 1) = 1 ∧ hT h_W2 (53 + 4 * c + 2) = 3 ∧ hT h_W2 (53 + 4 * c + 3) = 1) ∧ (hL h_W2 (53 + 4 * c + 1) = 40 ∧ hL h_W2 (53 + 4 * c + 2) = 40 ∧ hL h_W2 (53 + 4 * c + 3) = 40) ∧ hI h_W2 (53 + 4 * c) 0 = (c : Int))) ∧ hI h_W2 (215 + 4 * c) 1 = 0 ∧ iniZ (217 + 4 * c) = true := by decide +kernel
set_option maxRecDepth 1000000 in
theorem ini_b : ∀ l : Nat, l < 10 → (hR h_W2 21 l = 375 + 2 * l ∧ hT h_W2 (375 + 2 * l) = 20 ∧ hR h_W2 (375 + 2 * l) 0 = 376 + 2 * l ∧ hT h_W2 (376 + 2 * l) = 12) ∧ hI h_W2 (375 + 2 * l) 1 = 0 ∧ hI h_W2 (375 + 2 * l) 2 = 0 := by decide +kernel
set_option maxRecDepth 1000000 in
theorem ini_c : ∀ e : Nat, e < 21 → 1 ≤ e → (hR h_W2 23 e = 27 + e ∧ hT h_W2 (27 + e) = 12) := by decide +kernel
set_option maxRecDepth 1000000 in
theorem ini_d : iniZ 407 = true ∧ iniZ 423 = true ∧ iniZ 424 = true := by decide +kernel
set_option maxRecDepth 1000000 in
theorem ini_e : (hT h_W2 213 = 18 ∧ hR h_W2 213 0 = 214 ∧ hT h_W2 214 = 17 ∧ hL h_W2 214 = 12 ∧ hI h_W2 213 1 = 0) ∧ (hI h_W2 400 0 = 0 ∧ hI h_W2 8 8 = 0 ∧ hI h_W2 395 33 = 0 ∧ hT h_W2 24 = 12 ∧ hI h_W2 22 13 = 0 ∧ hI h_W2 395 66 = 0 ∧ hI h_W2 22 11 = 0 ∧ hI h_W2 395 60 = 0 ∧ hI h_W2 395 54 = 0) ∧ (hI h_W2 48 4 = 0 ∧ hI h_W2 395 25 = 0 ∧ hI h_W2 395 28 = -1 ∧ hR h_W2 48 5 = 0 ∧ hI h_W2 48 9 = 0 ∧ hI h_W2 395 27 = 0) ∧ (hT h_W2 52 = 1 ∧ hL h_W2 52 = 40) ∧ (hI h_W2 48 10 = hI h_W2 395 82 ∧ hI h_W2 48 11 = hI h_W2 395 83 ∧ hI h_W2 48 12 = hI h_W2 395 84) ∧ hR h_W2 8 7 = 213 ∧ (hI h_W2 395 29 = -1 ∧ hR h_W2 48 7 = 0) := by decide +kernel
set_option maxRecDepth 1000000 in
theorem ini_f : (hI h_W2 9 1 = 0 ∧ hI h_W2 395 1 = 0) ∧ (hT h_W2 4 = 2002 ∧ hI h_W2 4 0 = 0 ∧ hR h_W2 4 1 = 5 ∧ hT h_W2 5 = 5 ∧ hL h_W2 5 = 11 ∧ ∀ i : Nat, i < 11 → hI h_W2 5 i = sgnL.getD i 0) ∧ (hT h_W2 14 = 1 ∧ hL h_W2 14 = 22 ∧ ∀ i : Nat, i < 22 → hI h_W2 14 i = wkf i) ∧ hI h_W2 395 9 = 0 ∧ (hI h_W2 15 2 = 0 ∧ hI h_W2 395 7 = 0) ∧ (hT h_W2 16 = 1 ∧ hL h_W2 16 = 40) ∧ (hT h_W2 17 = 1 ∧ hL h_W2 17 = 4000) ∧ hI h_W2 15 7 = 0 ∧ hN h_W2 = 448 ∧ hM h_W2 ≤ 87100 := by decide +kernel
set_option maxRecDepth 1000000 in
theorem ini_g : (hT h_W2 6 = 19 ∧ hL h_W2 6 = 0) ∧ (hI h_W2 15 4 = hI h_W2 395 13 ∧ hI h_W2 15 5 = hI h_W2 395 14) ∧ (hI h_W2 8 11 = hI h_W2 395 56 ∧ hI h_W2 8 12 = hI h_W2 395 57 ∧ hI h_W2 8 13 = hI h_W2 395 58) ∧ (hI h_W2 8 9 = 0 ∧ hI h_W2 395 59 = 0) ∧ (hI h_W2 8 10 = -1 ∧ hI h_W2 395 30 = -1) := by decide +kernel
end INI
