/-! long acts: the frame that waits -/
def FRL (h t : hS) (K : Nat → Int → Prop) (l x c : Nat) : Prop := FCT h (376 + 2 * l) x ∧ (c < 40 ∧ hR h (376 + 2 * l) 0 = 215 + 4 * c ∧ hI h (215 + 4 * c) 1 = 1) ∧ hI t 426 l = (c : Int) ∧ hI h (376 + 2 * l) 6 = hI t 427 l ∧ hI h (376 + 2 * l) 5 = hI t 428 l ∧ ∃ n k : Nat, (n < 40 ∧ hI h (376 + 2 * l) 2 = (n : Int) ∧ hI t 434 l = (n : Int)) ∧ hI t 433 l = (k : Int) ∧ k ≤ 12 ∧ ACH h K n (fun i => hI t 435 (12 * l + i)) (fun i => hI t 436 (12 * l + i)) (fun i => hI t 437 (12 * l + i)) k (hR h (376 + 2 * l) 1) 0 ∧ K x (hI t 435 (12 * l))
/-- where it goes on -/
def SFX (h t : hS) (κ l x : Nat) : Prop := ∃ (tx : Nat) (L : List Nat) (f : Int) (qq : Nat) (C : List Int), tx ≤ κ ∧ LK (ntx t tx) L f ∧ (∀ i ∈ L, i < 1200) ∧ BL (fun q i S => SS (ntx t tx) (BK (ntx t tx) 0 12) ((12 : Nat) = 12) q i S) L qq C ∧ (∀ (j : Nat) (v : Int), (C ++ [0])[j]? = some v → hI h x (qq + j) = v) ∧ qq + C.length + 1 = hL h x ∧ hI h (376 + 2 * l) 4 = (qq : Int) ∧ hI t 429 l = gf tx f ∧ hI t 432 l = 0
def LRs (h t : hS) (K : Nat → Int → Prop) (κ : Nat) : Prop := ∀ l : Nat, l < 10 → hI t 423 l = 1 → ∃ x c, FRL h t K l x c ∧ SFX h t κ l x
section LNG
variable {h h' h0 h1 t t' t0 t1 t2 : hS} {K : Nat → Int → Prop} {p m q κ l x c : Nat} {r : Int → Nat} {n v : Int} {S : Nat → Prop}
theorem FRL_g (Q : FRL h t K l x c) (ch : chg S h h') (hS : ∀ x, S x → (20 ≤ x ∧ x ≤ 47) ∨ (375 ≤ x ∧ x < 395)) (eF : ∀ j, hI h' (376 + 2 * l) j = hI h (376 + 2 * l) j ∧ hR h' (376 + 2 * l) j = hR h (376 + 2 * l) j) (e1 : ∀ y, 426 ≤ y → y ≤ 434 → y ≠ 429 → hI t' y l = hI t y l) (e2 : ∀ y j, 435 ≤ y → y ≤ 437 → 12 * l ≤ j → j < 12 * l + 12 → hI t' y j = hI t y j) : FRL h' t' K l x c := by
  obtain ⟨⟨c1, c2, c3, c4, c5, c6⟩, ⟨d1, d2, d3⟩, g1, g2, g3, n, k, ⟨n1, n2, n3⟩, n4, n5, n6, n7⟩ := Q
  refine ⟨⟨by rw [ch.2.1]; exact c1, by rw [(eF 3).2]; exact c2, c3, by rw [ch.2.1]; exact c4, by rw [ch.2.2.1]; exact c5, c6⟩, ⟨d1, by rw [(eF 0).2]; exact d2, by rw [(ch.2.2.2.2.2 _ (fun z => by have := hS _ z; omega) 1).1]; exact d3⟩, by rw [e1 426 (by omega) (by omega) (by omega)]; exact g1, by rw [(eF 6).1, e1 427 (by omega) (by omega) (by omega)]; exact g2, by rw [(eF 5).1, e1 428 (by omega) (by omega) (by omega)]; exact g3, n, k, ⟨n1, by rw [(eF 2).1]; exact n2, by rw [e1 434 (by omega) (by omega) (by omega)]; exact n3⟩, by rw [e1 433 (by omega) (by omega) (by omega)]; exact n4, n5, ?_, by rw [e2 435 _ (by omega) (by omega) (by omega) (by omega)]; exact n7⟩
  rw [(eF 1).2]
  exact ACH_c n6 (fun a' Q' => KD_chg ch (fun x hx => by have := hS _ hx; omega) Q') (fun u u1 u2 => ⟨e2 435 _ (by omega) (by omega) (by omega) (by omega), e2 436 _ (by omega) (by omega) (by omega) (by omega), e2 437 _ (by omega) (by omega) (by omega) (by omega)⟩)
theorem SFX_g (Q : SFX h t κ l x) (hx : ∀ j, hI h' x j = hI h x j) (hl : hL h' x = hL h x) (e4 : hI h' (376 + 2 * l) 4 = hI h (376 + 2 * l) 4) (e429 : hI t' 429 l = hI t 429 l) (e432 : hI t' 432 l = hI t 432 l) (e399 : ∀ j, hI t' 399 j = hI t 399 j) : SFX h' t' κ l x := by
  obtain ⟨tx, L, f, qq, C, q1, q2, q3, q4, q5, q6, q7, q8, q9⟩ := Q
  have en : ntx t' tx = ntx t tx := funext fun i => funext fun j => e399 _
  exact ⟨tx, L, f, qq, C, q1, by rw [en]; exact q2, q3, by rw [en]; exact q4, fun j v e => by rw [hx]; exact q5 j v e, by rw [hl]; exact q6, by rw [e4]; exact q7, by rw [e429]; exact q8, by rw [e432]; exact q9⟩
theorem LA1_g (L : LA1 h t l) (ch : chg S h h') (hS : ∀ x, S x → (20 ≤ x ∧ x ≤ 47) ∨ (375 ≤ x ∧ x < 395)) (e0 : ∀ j, hI h' (375 + 2 * l) j = hI h (375 + 2 * l) j) (eF : hR h' (376 + 2 * l) 1 = hR h (376 + 2 * l) 1) (e1 : ∀ y, 423 ≤ y → y ≤ 432 → hI t' y l = hI t y l) (e2 : hI t' 437 (12 * l) = hI t 437 (12 * l)) : LA1 h' t' l := by
  obtain ⟨x1, x2, x3, x4, x5, x6⟩ := L
  have r3 := e1 423 (by omega) (by omega)
  have r4 := e1 424 (by omega) (by omega)
  have r5 := e1 425 (by omega) (by omega)
  have r0 := e1 430 (by omega) (by omega)
  have r1 := e1 431 (by omega) (by omega)
  have r2 := e1 432 (by omega) (by omega)
  unfold LA1
  rw [e0, e0, e0, e0, e0, e0, eF, r3, r4, r5, r0, r1, r2, e2]
  refine ⟨x1, x2, x3, x4, x5, fun z => ?_⟩
  obtain ⟨y1, y2, y3, y4, y5, y6⟩ := x6 z
  obtain ⟨k1, k2⟩ := KD_chg ch (fun x hx => by have := hS _ hx; omega) y5
  have s0 := k2 0 (by omega) (by omega)
  rw [Nat.add_zero] at s0
  exact ⟨y1, y2, y3, y4, k1, by rw [s0.1]; exact y6⟩
/-- the first slot that is free -/
theorem free_1 (t : hS) : (∀ i : Nat, i < 10 → hI t 423 i ≠ 0) ∨ ∃ l : Nat, l < 10 ∧ hI t 423 l = 0 ∧ ∀ i : Nat, i < l → hI t 423 i ≠ 0 := by
  have key : ∀ k : Nat, k ≤ 10 → (∀ i : Nat, i < k → hI t 423 i ≠ 0) ∨ ∃ l : Nat, l < 10 ∧ hI t 423 l = 0 ∧ ∀ i : Nat, i < l → hI t 423 i ≠ 0 := by
    intro k
    induction k with
    | zero => exact fun _ => .inl (fun i hi => absurd hi (by omega))
    | succ k ih =>
      intro hk
      rcases ih (by omega) with a | a
      · by_cases z : hI t 423 k = 0
        · exact .inr ⟨k, by omega, z, a⟩
        · refine .inl (fun i hi => ?_)
          by_cases y : i = k
          · rw [y]; exact z
          · exact a i (by omega)
      · exact .inr a
  exact key 10 (Nat.le_refl _)
theorem c293_l (hl : l ≤ 10) (a : ∀ i : Nat, i < l → hI t 423 i ≠ 0) (b : l = 10 ∨ hI t 423 l = 0) : ∀ (D i N : Nat), i + D = l → D < N → lp (fun s => c293_b3 t s) N (i : Int) = some (l : Int) := by
  intro D
  induction D with
  | zero =>
    intro i N hi hN
    obtain ⟨N, rfl⟩ : ∃ N1, N = N1 + 1 := ⟨N - 1, by omega⟩
    obtain rfl : i = l := by omega
    refine lp_d ?_
    unfold c293_b3
    by_cases z : (10 : Int) ≤ (i : Int)
    · rw [if_pos z]
    · rw [if_neg z]
      refine bnd (show aIs t 423 10 (i : Int) = some (hI t 423 i) by rw [aIs_s (by omega) (by omega), Int.toNat_natCast]) ?_
      rw [if_pos (b.resolve_left (by omega))]
  | succ D ih =>
    intro i N hi hN
    obtain ⟨N, rfl⟩ : ∃ N1, N = N1 + 1 := ⟨N - 1, by omega⟩
    have e1 : c293_b3 t (i : Int) = some (.inl ((i + 1 : Nat) : Int)) := by
      unfold c293_b3
      rw [if_neg (by omega)]
      refine bnd (show aIs t 423 10 (i : Int) = some (hI t 423 i) by rw [aIs_s (by omega) (by omega), Int.toNat_natCast]) ?_
      rw [if_neg (a i (by omega)), wadd_n (by omega)]
    rw [lp_n (s' := ((i + 1 : Nat) : Int)) e1]
    exact ih (i + 1) N (by omega) (by omega)
theorem c168_l {l1 l2 l3 : Int} {l4 : Nat} {z : (hS) ⊕ (Int × hS)} (Ss : SL h) (L : LA h t) (hl : l ≤ 10) (a : ∀ i : Nat, i < l → hI t 423 i ≠ 0) (e : c168_b37 l1 l2 l3 l4 (l : Int) h = some (.inr z)) : ∀ (D i N : Nat), i + D = l → D < N → lp (fun s => c168_b37 l1 l2 l3 l4 s.1 s.2) N ((i : Int), h) = some z := by
  intro D
  induction D with
  | zero =>
    intro i N hi hN
    obtain ⟨N, rfl⟩ : ∃ N1, N = N1 + 1 := ⟨N - 1, by omega⟩
    obtain rfl : i = l := by omega
    exact lp_d e
  | succ D ih =>
    intro i N hi hN
    obtain ⟨N, rfl⟩ : ∃ N1, N = N1 + 1 := ⟨N - 1, by omega⟩
    have e1 : c168_b37 l1 l2 l3 l4 (i : Int) h = some (.inl (((i + 1 : Nat) : Int), h)) := by
      obtain ⟨s1, s2, -⟩ := Ss i (by omega)
      unfold c168_b37
      rw [if_neg (by omega)]
      refine bnd (show aRs h 21 10 (i : Int) = some (375 + 2 * i) by rw [aRs_s (by omega) (by omega), Int.toNat_natCast, s1]) ?_
      rw [gI_s s2]
      refine bnd rfl ?_
      rw [if_neg (by rw [(L i (by omega)).2.2.1]; exact a i (by omega)), wadd_n (by omega)]
    rw [lp_n (s' := (((i + 1 : Nat) : Int), h)) e1]
    exact ih (i + 1) N (by omega) (by omega)
/-- the rows are put by -/
theorem c293_r (hl : l < 10) : ∀ (D i N : Nat) (T : hS), i + D = 12 → D < N → (fp (fun y j => 435 ≤ y ∧ y ≤ 437 ∧ 12 * l ≤ j ∧ j < 12 * l + 12) t T ∧ ∀ u, u < i → ∀ y, 414 ≤ y → y ≤ 416 → hI T (y + 21) (12 * l + u) = hI t y u) → ∃ T', lp (fun s => c293_b163 (l : Int) s.1 s.2) N ((i : Int), T) = some T' ∧ fp (fun y j => 435 ≤ y ∧ y ≤ 437 ∧ 12 * l ≤ j ∧ j < 12 * l + 12) t T' ∧ ∀ u, u < 12 → ∀ y, 414 ≤ y → y ≤ 416 → hI T' (y + 21) (12 * l + u) = hI t y u := by
  intro D
  induction D with
  | zero =>
    intro i N T hi hN ⟨g1, g2⟩
    obtain ⟨N, rfl⟩ : ∃ N1, N = N1 + 1 := ⟨N - 1, by omega⟩
    refine ⟨T, lp_d ?_, g1, fun u hu => g2 u (by omega)⟩
    show c293_b163 (l : Int) (i : Int) T = _
    unfold c293_b163
    rw [if_pos (by omega)]
  | succ D ih =>
    intro i N T hi hN ⟨g1, g2⟩
    obtain ⟨N, rfl⟩ : ∃ N1, N = N1 + 1 := ⟨N - 1, by omega⟩
    obtain ⟨T1, hT1⟩ : ∃ T1, T1 = sI (sI (sI T 435 (12 * l + i) (hI t 414 i)) 436 (12 * l + i) (hI t 415 i)) 437 (12 * l + i) (hI t 416 i) := ⟨_, rfl⟩
    have i1 : ∀ y u, hI T1 y u = if y = 437 ∧ u = 12 * l + i then hI t 416 i else if y = 436 ∧ u = 12 * l + i then hI t 415 i else if y = 435 ∧ u = 12 * l + i then hI t 414 i else hI T y u := fun y u => by rw [hT1, hI_sI, hI_sI, hI_sI]
    have f1 : fp (fun y j => 435 ≤ y ∧ y ≤ 437 ∧ 12 * l ≤ j ∧ j < 12 * l + 12) t (sI T 435 (12 * l + i) (hI t 414 i)) := fp_tr g1 (fp_sI ⟨by omega, by omega, by omega, by omega⟩)
    have f2 : fp (fun y j => 435 ≤ y ∧ y ≤ 437 ∧ 12 * l ≤ j ∧ j < 12 * l + 12) t (sI (sI T 435 (12 * l + i) (hI t 414 i)) 436 (12 * l + i) (hI t 415 i)) := fp_tr f1 (fp_sI ⟨by omega, by omega, by omega, by omega⟩)
    have f3 : fp (fun y j => 435 ≤ y ∧ y ≤ 437 ∧ 12 * l ≤ j ∧ j < 12 * l + 12) t T1 := by rw [hT1]; exact fp_tr f2 (fp_sI ⟨by omega, by omega, by omega, by omega⟩)
    have rd : ∀ (T2 : hS) (y : Nat), y ≤ 416 → fp (fun y j => 435 ≤ y ∧ y ≤ 437 ∧ 12 * l ≤ j ∧ j < 12 * l + 12) t T2 → aIs T2 y 252 (i : Int) = some (hI t y i) := fun T2 y hy g => by
      rw [aIs_s (by omega) (by omega), Int.toNat_natCast, g.2 y _ (by omega)]
    have ws : ∀ (y : Nat) (v : Int) (T2 : hS), wIs T2 y 120 (wadd (wmul 12 (l : Int)) (i : Int)) v = some (sI T2 y (12 * l + i) v) := fun y v T2 => by
      rw [wmul_e (by omega) (by omega), wadd_e (by omega) (by omega), wIs_s (by omega) (by omega), show (12 * (l : Int) + (i : Int)).toNat = 12 * l + i by omega]
    have e1 : c293_b163 (l : Int) (i : Int) T = some (.inl (((i + 1 : Nat) : Int), T1)) := by
      unfold c293_b163
      rw [if_neg (by omega)]
      refine bnd (rd T 414 (by omega) g1) ?_
      refine bnd (ws 435 _ T) ?_
      refine bnd (rd _ 415 (by omega) f1) ?_
      refine bnd (ws 436 _ _) ?_
      refine bnd (rd _ 416 (by omega) f2) ?_
      refine bnd (ws 437 _ _) ?_
      rw [wadd_n (by omega), ← hT1]
    obtain ⟨T', b1, b2, b3⟩ := ih (i + 1) N T1 (by omega) (by omega) ⟨f3, fun u hu y y1 y2 => by
      by_cases z : u = i
      · subst z
        rw [i1]
        by_cases y16 : y = 416
        · rw [if_pos ⟨by omega, rfl⟩, y16]
        · rw [if_neg (by omega)]
          by_cases y15 : y = 415
          · rw [if_pos ⟨by omega, rfl⟩, y15]
          · rw [if_neg (by omega), if_pos ⟨by omega, rfl⟩, show y = 414 by omega]
      · rw [i1, if_neg (by omega), if_neg (by omega), if_neg (by omega)]
        exact g2 u (by omega) y y1 y2⟩
    exact ⟨T', (lp_n (f := fun s => c293_b163 (l : Int) s.1 s.2) (s := ((i : Int), T)) (s' := (((i + 1 : Nat) : Int), T1)) e1).trans b1, b2, b3⟩
end LNG
