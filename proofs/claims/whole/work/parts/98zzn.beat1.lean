/-! call 18: beat, its two loops: what they change -/
def BTc (p m : Nat) (h h' : hS) : Prop := (hJ h' = hJ h ∧ hT h' = hT h ∧ hL h' = hL h ∧ hN h' = hN h ∧ hM h' = hM h) ∧ (∀ x j, ¬ ((x = 23 ∧ j = 0) ∨ x = 24 ∨ (28 ≤ x ∧ x ≤ 47) ∨ (375 ≤ x ∧ x < 395)) → hR h' x j = hR h x j) ∧ ∀ x j, ¬ (x = 20 ∨ (x = 22 ∧ j ≠ 11) ∨ (24 ≤ x ∧ x ≤ 47) ∨ (375 ≤ x ∧ x < 395) ∨ (215 ≤ x ∧ x < 375 ∧ (x - 215) % 4 ≠ 0 ∧ (x - 215) % 4 ≠ 2) ∨ ∃ u : Int, 0 ≤ u ∧ u < m ∧ x = kd h p u + 5) → hI h' x j = hI h x j
def BTr (t t' : hS) : Prop := fp (fun x j => (x = 395 ∧ (j = 39 ∨ j = 40 ∨ j = 41 ∨ j = 42 ∨ j = 52 ∨ j = 54 ∨ j = 55 ∨ j = 66)) ∨ (417 ≤ x ∧ x ≤ 422) ∨ x = 405 ∨ x = 406 ∨ (x = 400 ∧ j < 769 ∧ 35 ≤ (j + 63) % 64 ∧ (j + 63) % 64 < 39) ∨ (408 ≤ x ∧ x ≤ 416) ∨ (423 ≤ x ∧ x ≤ 437)) t t'
section BTT
variable {h h' h0 h1 t t' t0 t1 t2 : hS} {K : Nat → Int → Prop} {p m q κ F0 l x c a i : Nat} {r : Int → Nat} {n v : Int} {S : Nat → Prop}
theorem BTr_tr (a : BTr t t1) (b : BTr t1 t') : BTr t t' := fp_tr a b
theorem BTr_N (a : RNr t t') : BTr t t' := ⟨a.1, fun x j z => a.2 x j (by omega)⟩
theorem BTr_n (a : BTr t t') (j : Nat) : hI t' 399 j = hI t 399 j := a.2 399 j (by omega)
theorem BTc_rf : BTc p m h h := ⟨⟨rfl, rfl, rfl, rfl, rfl⟩, fun _ _ _ => rfl, fun _ _ _ => rfl⟩
theorem BTc_kd (hp : p = 213 ∨ 448 ≤ p) (a : BTc p m h h') (u : Int) : kd h' p u = kd h p u := by
  unfold kd
  split
  · rfl
  · exact a.2.1 _ _ (by omega)
theorem BTc_tr (hp : p = 213 ∨ 448 ≤ p) (a : BTc p m h h1) (b : BTc p m h1 h') : BTc p m h h' := by
  have hk := BTc_kd hp a
  obtain ⟨⟨a1, a2, a3, a4, a5⟩, a6, a7⟩ := a
  obtain ⟨⟨b1, b2, b3, b4, b5⟩, b6, b7⟩ := b
  refine ⟨⟨b1.trans a1, b2.trans a2, b3.trans a3, b4.trans a4, b5.trans a5⟩, fun x j w => (b6 x j w).trans (a6 x j w), fun x j w => (b7 x j (fun z => w ?_)).trans (a7 x j w)⟩
  rcases z with z | z | z | z | z | ⟨u, u0, u1, z⟩
  · exact .inl z
  · exact .inr (.inl z)
  · exact .inr (.inr (.inl z))
  · exact .inr (.inr (.inr (.inl z)))
  · exact .inr (.inr (.inr (.inr (.inl z))))
  · exact .inr (.inr (.inr (.inr (.inr ⟨u, u0, u1, by rw [← hk]; exact z⟩))))
theorem BTc_N (f : F0k F0) (a : RNc p m F0 h h') : BTc p m h h' := ⟨a.1, fun x j w => a.2.1 x j (fun e e20 z => by have := FF_b (e := e) f e20; omega) (by omega), fun x j w => a.2.2 x j (fun e e20 z => w (by have := FF_b (e := e) f e20; omega)) (fun z => w (by
  rcases z with z | z | z | z | z
  · exact .inr (.inl z)
  · exact .inr (.inr (.inl (by omega)))
  · exact .inr (.inr (.inl (by omega)))
  · exact .inr (.inr (.inr (.inr (.inl z))))
  · exact .inr (.inr (.inr (.inr (.inr z)))))) ⟩
theorem BTc_20 {j : Nat} {z : Int} : BTc p m h (sI h 20 j z) := ⟨⟨rfl, rfl, rfl, rfl, rfl⟩, fun _ _ _ => rfl, fun y j' w => by
  rw [hI_sI, if_neg]
  rintro ⟨rfl, -⟩
  exact w (.inl rfl)⟩
theorem KD_b (R : RT h t K p m q r) (b : BTc p m h h') (Q : KD h a) : KD h' a ∧ ∀ o, o ≤ 12 → o ≠ 5 → sm h h' (a + o) := by
  obtain ⟨-, P, -, -, hp, -⟩ := R
  obtain ⟨⟨c1, c2, c3, c4, c5⟩, c6, c7⟩ := b
  have hR' : ∀ x j, 448 ≤ x → hR h' x j = hR h x j := fun x j hx => c6 x j (by omega)
  have qa := Q.1
  refine ⟨⟨Q.1, by rw [c4]; exact Q.2.1, by rw [c2]; exact Q.2.2.1, fun e he => ?_⟩, fun o ho h5 => ⟨fun j => c7 _ j (fun z => ?_), fun j => hR' _ j (by omega), by rw [c2], by rw [c3]⟩⟩
  · rw [hR' _ _ qa, c2, c3]
    exact Q.2.2.2 e he
  · rcases z with z | z | z | z | z | ⟨u, u0, u1, z⟩
    · omega
    · omega
    · omega
    · omega
    · omega
    · have Qu := (P.2.2.1 u u0 u1).1
      by_cases e : a = kd h p u
      · omega
      · have := KD_d Q Qu e
        omega
theorem BT_x (R : RT h t K p m q r) (b : BTc p m h h') (k : K x v) (j : Nat) : hI h' x j = hI h x j := by
  obtain ⟨⟨d1, -⟩, d2⟩ := R.2.2.2.2.2 _ _ k
  refine b.2.2 x j (fun z => ?_)
  rcases z with z | z | z | z | z | ⟨u, u0, u1, z⟩
  · omega
  · omega
  · omega
  · omega
  · omega
  · have := d2 u u0 u1
    omega
/-- a frame that waits, while others run -/
theorem FRL_b (R : RT h t K p m q r) (Q : FRL h t K l x c) (l10 : l < 10) (b : BTc p m h h') (eF : ∀ j, hI h' (376 + 2 * l) j = hI h (376 + 2 * l) j ∧ hR h' (376 + 2 * l) j = hR h (376 + 2 * l) j) (e1 : ∀ y, 426 ≤ y → y ≤ 434 → y ≠ 429 → hI t' y l = hI t y l) (e2 : ∀ y j, 435 ≤ y → y ≤ 437 → 12 * l ≤ j → j < 12 * l + 12 → hI t' y j = hI t y j) : FRL h' t' K l x c := by
  obtain ⟨⟨c1, c2, c3, c4, c5, c6⟩, ⟨d1, d2, d3⟩, g1, g2, g3, n, k, ⟨n1, n2, n3⟩, n4, n5, n6, n7⟩ := Q
  have hk : ∀ u : Int, 0 ≤ u → u < m → 448 ≤ kd h p u := fun u u0 u1 => (R.2.1.2.2.1 u u0 u1).1.1
  refine ⟨⟨by rw [b.1.2.1]; exact c1, by rw [(eF 3).2]; exact c2, c3, by rw [b.1.2.1]; exact c4, by rw [b.1.2.2.1]; exact c5, c6⟩, ⟨d1, by rw [(eF 0).2]; exact d2, ?_⟩, by rw [e1 426 (by omega) (by omega) (by omega)]; exact g1, by rw [(eF 6).1, e1 427 (by omega) (by omega) (by omega)]; exact g2, by rw [(eF 5).1, e1 428 (by omega) (by omega) (by omega)]; exact g3, n, k, ⟨n1, by rw [(eF 2).1]; exact n2, by rw [e1 434 (by omega) (by omega) (by omega)]; exact n3⟩, by rw [e1 433 (by omega) (by omega) (by omega)]; exact n4, n5, ?_, by rw [e2 435 _ (by omega) (by omega) (by omega) (by omega)]; exact n7⟩
  · rw [b.2.2 (215 + 4 * c) 1 (fun z => by
      rcases z with z | z | z | z | z | ⟨u, u0, u1, z⟩
      · omega
      · omega
      · omega
      · omega
      · omega
      · have := hk u u0 u1; omega)]
    exact d3
  · rw [(eF 1).2]
    exact ACH_c n6 (fun a' Q' => KD_b R b Q') (fun u u1 u2 => ⟨e2 435 _ (by omega) (by omega) (by omega) (by omega), e2 436 _ (by omega) (by omega) (by omega) (by omega), e2 437 _ (by omega) (by omega) (by omega) (by omega)⟩)
theorem LRs_b (R : RT h t K p m q r) (L : LRs h t K κ) (b : BTc p m h h') (o : Nat → Prop) (eF : ∀ l, l < 10 → o l → ∀ j, hI h' (376 + 2 * l) j = hI h (376 + 2 * l) j ∧ hR h' (376 + 2 * l) j = hR h (376 + 2 * l) j) (e1 : ∀ l, l < 10 → o l → ∀ y, 423 ≤ y → y ≤ 434 → hI t' y l = hI t y l) (e2 : ∀ l, l < 10 → o l → ∀ y j, 435 ≤ y → y ≤ 437 → 12 * l ≤ j → j < 12 * l + 12 → hI t' y j = hI t y j) (e399 : ∀ j, hI t' 399 j = hI t 399 j) (a : ∀ l, l < 10 → ¬ o l → hI t' 423 l = 1 → ∃ x c, FRL h' t' K l x c ∧ SFX h' t' κ l x) : LRs h' t' K κ := fun l hl z => by
  by_cases y : o l
  · obtain ⟨x, c, w1, w2⟩ := L l hl (by rw [← e1 l hl y 423 (by omega) (by omega)]; exact z)
    obtain ⟨n, k, -, -, -, -, kx⟩ := w1.2.2.2.2.2
    exact ⟨x, c, FRL_b R w1 hl b (eF l hl y) (fun y' h1 h2 _ => e1 l hl y y' (by omega) h2) (e2 l hl y), SFX_g w2 (fun j => BT_x R b kx j) (by rw [b.1.2.2.1]) (eF l hl y 4).1 (e1 l hl y 429 (by omega) (by omega)) (e1 l hl y 432 (by omega) (by omega)) e399⟩
  · exact a l hl y z
theorem LA1_b (R : RT h t K p m q r) (L : LA1 h t l) (b : BTc p m h h') (e0 : ∀ j, hI h' (375 + 2 * l) j = hI h (375 + 2 * l) j) (eF : hR h' (376 + 2 * l) 1 = hR h (376 + 2 * l) 1) (e1 : ∀ y, 423 ≤ y → y ≤ 432 → hI t' y l = hI t y l) (e2 : hI t' 437 (12 * l) = hI t 437 (12 * l)) : LA1 h' t' l := by
  obtain ⟨x1, x2, x3, x4, x5, x6⟩ := L
  have r3 := e1 423 (by omega) (by omega)
  have r4 := e1 424 (by omega) (by omega)
  have r5 := e1 425 (by omega) (by omega)
  have r0 := e1 430 (by omega) (by omega)
  have r1 := e1 431 (by omega) (by omega)
  have r2 := e1 432 (by omega) (by omega)
  unfold LA1
  rw [e0, e0, e0, e0, e0, e0, eF, r3, r4, r5, r0, r1, r2, e2]
  refine ⟨x1, x2, x3, x4, x5, fun z => ?_⟩
  obtain ⟨y1, y2, y3, y4, y5, y6⟩ := x6 z
  obtain ⟨k1, k2⟩ := KD_b R b y5
  have s0 := k2 0 (by omega) (by omega)
  rw [Nat.add_zero] at s0
  exact ⟨y1, y2, y3, y4, k1, by rw [s0.1]; exact y6⟩
theorem SL_b (Ss : SL h) (b : BTc p m h h') (e0 : ∀ l, l < 10 → hR h' (375 + 2 * l) 0 = hR h (375 + 2 * l) 0) : SL h' := fun l hl => by
  obtain ⟨a1, a2, a3, a4⟩ := Ss l hl
  exact ⟨by rw [b.2.1 21 _ (by omega)]; exact a1, by rw [b.1.2.1]; exact a2, by rw [e0 l hl]; exact a3, by rw [b.1.2.1]; exact a4⟩
end BTT
