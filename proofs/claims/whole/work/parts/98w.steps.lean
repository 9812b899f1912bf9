/-! patches: a list of steps grows -/
/-- the list S holds the steps xs; A is its row, q its room; all from N0 on -/
def LSt (h : hS) (N0 S : Nat) (xs : List Nat) (A q : Nat) : Prop := (N0 ≤ S ∧ S < hN h ∧ hT h S = 8 ∧ hI h S 1 = (xs.length : Int) ∧ hR h S 0 = A) ∧ (hT h A = 19 ∧ hL h A = q ∧ xs.length ≤ q ∧ 2 * q ≤ 3 * xs.length + 20) ∧ ((A = 6 ∧ q = 0) ∨ (N0 ≤ A ∧ A < hN h ∧ 10 ≤ q)) ∧ ∀ (i x : Nat), xs[i]? = some x → hR h A i = x ∧ N0 ≤ x ∧ x < hN h ∧ hT h x = 22
section LST
variable {h h' : hS} {N0 S x A q : Nat} {xs : List Nat}
theorem wshr_1 {q : Nat} (hq : q ≤ 1000) : wshr (q : Int) 1 = ((q / 2 : Nat) : Int) := by
  have key : ∀ q : Fin 1001, wshr ((q.val : Nat) : Int) 1 = ((q.val / 2 : Nat) : Int) := by decide +kernel
  exact key ⟨q, by omega⟩
theorem hreq_6 : hreq 6 6 = some true := rfl
theorem hreq_7 : hreq 7 7 = some true := rfl
theorem LSt_c (L : LSt h N0 S xs A q) (en : hN h ≤ hN h') (eS : sm h h' S) (eA : sm h h' A) (e : ∀ y, y ∈ xs → hT h' y = hT h y) : LSt h' N0 S xs A q := by
  obtain ⟨⟨a1, a2, a3, a4, a5⟩, ⟨b1, b2, b3, b4⟩, c, d⟩ := L
  refine ⟨⟨a1, by omega, by rw [eS.2.2.1]; exact a3, by rw [eS.1]; exact a4, by rw [eS.2.1]; exact a5⟩, ⟨by rw [eA.2.2.1]; exact b1, by rw [eA.2.2.2]; exact b2, b3, b4⟩, by omega, fun i x hx => ?_⟩
  obtain ⟨d1, d2, d3, d4⟩ := d i x hx
  exact ⟨by rw [eA.2.1]; exact d1, d2, by omega, by rw [e x (List.mem_of_getElem? hx)]; exact d4⟩
/-- the step goes into the row -/
theorem c50_t (hSS : N0 ≤ S ∧ S < hN h ∧ hT h S = 8 ∧ hR h S 0 = A) (h8 : 18 ≤ N0) (hA : hT h A = 19 ∧ hL h A = q ∧ N0 ≤ A ∧ A < hN h ∧ 10 ≤ q) (hq : xs.length < q ∧ 2 * q ≤ 3 * (xs.length + 1) + 20 ∧ xs.length ≤ 1000) (hx : N0 ≤ x ∧ x < hN h ∧ hT h x = 22) (d : ∀ (i y : Nat), xs[i]? = some y → hR h A i = y ∧ N0 ≤ y ∧ y < hN h ∧ hT h y = 22) : ∃ h', c50_j11 S x A (xs.length : Int) h = some h' ∧ LSt h' N0 S (xs ++ [x]) A q ∧ (hN h' = hN h ∧ hM h' = hM h) ∧ (∀ y, y ≠ S → y ≠ A → sm h h' y) := by
  have hSA : S ≠ A := fun e => by rw [e] at hSS; omega
  refine ⟨sI (sR h A xs.length x) S 1 ((xs.length + 1 : Nat) : Int), ?_, ⟨⟨hSS.1, hSS.2.1, hSS.2.2.1, ?_, ?_⟩, ⟨hA.1, hA.2.1, ?_, ?_⟩, .inr ⟨hA.2.2.1, hA.2.2.2.1, hA.2.2.2.2⟩, fun i y hy => ?_⟩, ⟨rfl, rfl⟩, fun y y1 y2 => ⟨fun j => ?_, fun j => ?_, rfl, rfl⟩⟩
  · unfold c50_j11
    rw [show wR h A 19 22 (xs.length : Int) x = some (sR h A (xs.length : Int).toNat x) from if_pos ⟨⟨hA.1, by omega, by omega, by rw [hA.2.1]; omega⟩, .inr hx.2.2⟩, Int.toNat_natCast]
    simp only [bsome]
    rw [wadd_n (by omega), pI_s (h := sR h A xs.length x) (x := S) (t := 8) hSS.2.2.1]
    rfl
  · rw [hI_sI, if_pos ⟨rfl, rfl⟩, List.length_append]
    rfl
  · rw [hR_sI, hR_sR, if_neg (fun z => hSA z.1)]
    exact hSS.2.2.2
  · rw [List.length_append]
    show xs.length + 1 ≤ q
    omega
  · rw [List.length_append]
    show 2 * q ≤ 3 * (xs.length + 1) + 20
    omega
  · rw [hR_sI, hR_sR]
    by_cases c : i = xs.length
    · rw [if_pos ⟨rfl, c⟩]
      rw [c, List.getElem?_append_right (Nat.le_refl _), Nat.sub_self] at hy
      have hy : x = y := Option.some.inj hy
      subst hy
      exact ⟨rfl, hx⟩
    · rw [if_neg (fun z => c z.2)]
      have hi : i < (xs ++ [x]).length := by
        by_cases c2 : i < (xs ++ [x]).length
        · exact c2
        · rw [List.getElem?_eq_none (by omega)] at hy; cases hy
      rw [List.length_append] at hi
      have hi : i < xs.length + 1 := hi
      rw [List.getElem?_append_left (by omega)] at hy
      exact d i y hy
  · rw [hI_sI, if_neg (fun z => y1 z.1)]
    rfl
  · rw [hR_sI, hR_sR, if_neg (fun z => y2 z.1)]
/-- the step x is added behind the others -/
theorem c49_e (L : LSt h N0 S xs A q) (h8 : 18 ≤ N0) (hx : N0 ≤ x ∧ x < hN h ∧ hT h x = 22) (hl : xs.length ≤ 600) : ∃ h' A' q', c49 S x h = some (1, h') ∧ LSt h' N0 S (xs ++ [x]) A' q' ∧ (hN h ≤ hN h' ∧ hM h ≤ hM h' ∧ 5 * hN h' + q ≤ 5 * hN h + q' ∧ hM h' + 4 * q ≤ hM h + 4 * q') ∧ (∀ y, y < N0 → sm h h' y) ∧ (∀ y, y < hN h → hT h y ≠ 8 → hT h y ≠ 19 → sm h h' y) := by
  obtain ⟨⟨a1, a2, a3, a4, a5⟩, ⟨b1, b2, b3, b4⟩, c, d⟩ := L
  obtain ⟨v, hv⟩ : ∃ v, v = wadd (hI h S 2) 1 := ⟨_, rfl⟩
  obtain ⟨h2, e2⟩ : ∃ h2, h2 = sI h S 2 v := ⟨_, rfl⟩
  have t2 : ∀ y, hT h2 y = hT h y := fun y => by rw [e2]; rfl
  have l2 : ∀ y, hL h2 y = hL h y := fun y => by rw [e2]; rfl
  have r2 : ∀ y j, hR h2 y j = hR h y j := fun y j => by rw [e2]; rfl
  have i2 : ∀ y j, ¬ (y = S ∧ j = 2) → hI h2 y j = hI h y j := fun y j n => by rw [e2, hI_sI, if_neg n]
  have n2 : hN h2 = hN h ∧ hM h2 = hM h := by rw [e2]; exact ⟨rfl, rfl⟩
  have s2 : ∀ y, y ≠ S → sm h h2 y := fun y hy => ⟨fun j => i2 y j (fun z => hy z.1), r2 y, t2 y, l2 y⟩
  have e1 : ∀ h5, c50 S x A (xs.length : Int) h2 = some h5 → c49 S x h = some (1, h5) := fun h5 e5 => by
    unfold c49
    rw [gI_s a3]
    simp only [bsome]
    rw [pI_s a3, ← hv, ← e2]
    simp only [bsome]
    rw [gR_s (by rw [t2]; exact a3), r2, a5]
    simp only [bsome]
    rw [gI_s (by rw [t2]; exact a3), i2 S 1 (by omega), a4]
    simp only [bsome]
    rw [kT_s (by rw [t2]; exact a3)]
    simp only [bsome]
    rw [e5]
    rfl
  have hSA : S ≠ A := fun z => by rw [z] at a3; omega
  by_cases z : xs.length = q
  · -- the row is full: a new one
    obtain ⟨q', hq', hq0⟩ : ∃ q' : Nat, (A = 6 ∧ q = 0 ∧ q' = 10 ∨ (N0 ≤ A ∧ A < hN h ∧ 10 ≤ q ∧ q' = q + q / 2)) ∧ 10 ≤ q' := by
      rcases c with c | c
      · exact ⟨10, .inl ⟨c.1, c.2, rfl⟩, by omega⟩
      · exact ⟨q + q / 2, .inr ⟨c.1, c.2.1, c.2.2, rfl⟩, by omega⟩
    obtain ⟨h3, f1, f2, f3, f4, f5, f6, f7, f8, f9⟩ : ∃ h3, c51 S h2 = some (hN h, h3) ∧ (hN h3 = hN h + 1 ∧ hM h3 = hM h + q') ∧ (hT h3 (hN h) = 19 ∧ hL h3 (hN h) = q') ∧ (∀ i, i < q → hR h3 (hN h) i = hR h A i) ∧ (∀ y, y < hN h → hT h3 y = hT h y ∧ hL h3 y = hL h y) ∧ (∀ y j, y < hN h → hI h3 y j = hI h2 y j) ∧ (∀ y j, y < hN h → y ≠ S → hR h3 y j = hR h y j) ∧ hR h3 S 0 = hN h ∧ (∀ j, j ≠ 0 → hR h3 S j = hR h S j) := by
      obtain ⟨h4, e4⟩ : ∃ h4, h4 = mkH h2 19 q' := ⟨_, rfl⟩
      have n4 : hN h4 = hN h + 1 ∧ hM h4 = hM h + q' := by rw [e4, hN_mk, hM_mk, n2.1, n2.2]; exact ⟨rfl, rfl⟩
      have t4 : ∀ y, hT h4 y = if y = hN h then 19 else hT h y := fun y => by rw [e4, hT_mk, n2.1, t2]
      have l4 : ∀ y, hL h4 y = if y = hN h then q' else hL h y := fun y => by rw [e4, hL_mk, n2.1, l2]
      have r4 : ∀ y j, hR h4 y j = if y = hN h then 0 else hR h y j := fun y j => by rw [e4, hR_mk, n2.1, r2]
      have i4 : ∀ y j, hI h4 y j = if y = hN h then 0 else hI h2 y j := fun y j => by rw [e4, hI_mk, n2.1]
      have tS : hT h2 S = 8 := by rw [t2]; exact a3
      have nA4 : nA h2 19 (q' : Int) = some h4 := by
        rw [e4]
        exact (if_pos (by omega)).trans (by rw [Int.toNat_natCast])
      rcases hq' with ⟨rfl, rfl, rfl⟩ | ⟨k1, k2, k3, rfl⟩
      · refine ⟨sR h4 S 0 (hN h), ?_, ⟨n4.1, n4.2⟩, ⟨?_, ?_⟩, fun i hi => absurd hi (by omega), fun y hy => ⟨?_, ?_⟩, fun y j hy => ?_, fun y j hy hj => ?_, ?_, fun j hj => ?_⟩
        · unfold c51 c52
          rw [gI_s tS, i2 S 1 (by omega), a4, z]
          simp only [bsome]
          rw [kT_s tS]
          simp only [bsome]
          rw [gR_s tS, r2, a5]
          simp only [bsome]
          rw [lA_s (by rw [t2]; exact b1), l2, b2]
          simp only [bsome]
          rw [if_neg (by omega), hreq_6]
          simp only [bsome]
          rw [if_pos trivial, show wmax 10 (wadd ((0 : Nat) : Int) 1) = ((10 : Nat) : Int) from rfl, nA4]
          simp only [bsome]
          rw [pR_s (by rw [t4, if_neg (by omega)]; exact a3), n2.1]
          rfl
        · show hT h4 (hN h) = 19
          rw [t4, if_pos rfl]
        · show hL h4 (hN h) = _
          rw [l4, if_pos rfl]
        · show hT h4 y = _
          rw [t4, if_neg (by omega)]
        · show hL h4 y = _
          rw [l4, if_neg (by omega)]
        · rw [hI_sR, i4, if_neg (by omega)]
        · rw [hR_sR, if_neg (by omega), r4, if_neg (by omega)]
        · rw [hR_sR, if_pos ⟨rfl, rfl⟩]
        · rw [hR_sR, if_neg (by omega), r4, if_neg (by omega)]
      · have tA4 : hT h4 A = 19 := by rw [t4, if_neg (by omega)]; exact b1
        have lA4 : hL h4 A = q := by rw [l4, if_neg (by omega)]; exact b2
        have cp : cpR h4 A (hN h) 19 22 0 0 (q : Int) = some (sCR h4 A 0 (hN h) 0 q) := by
          refine (if_pos ⟨⟨tA4, by rw [t4, if_pos rfl], by omega, by omega⟩, ⟨by omega, by omega, by omega⟩, by rw [lA4]; omega, by rw [l4, if_pos rfl]; omega, fun j hj => .inr ?_⟩).trans (by rw [Int.toNat_natCast]; rfl)
          rw [Int.toNat_natCast] at hj
          have e0 : ((0 : Int).toNat + j) = j := by omega
          rw [e0, r4, if_neg (by omega)]
          have hj2 : j < xs.length := by omega
          obtain ⟨d1, d2, d3, d4⟩ := d j xs[j] (List.getElem?_eq_getElem hj2)
          rw [d1, t4, if_neg (by omega)]
          exact d4
        refine ⟨sR (sCR h4 A 0 (hN h) 0 q) S 0 (hN h), ?_, ⟨n4.1, n4.2⟩, ⟨?_, ?_⟩, fun i hi => ?_, fun y hy => ⟨?_, ?_⟩, fun y j hy => ?_, fun y j hy hj => ?_, ?_, fun j hj => ?_⟩
        · unfold c51 c52 c52_j20 c53 c54 c55
          rw [gI_s tS, i2 S 1 (by omega), a4, z]
          simp only [bsome]
          rw [kT_s tS]
          simp only [bsome]
          rw [gR_s tS, r2, a5]
          simp only [bsome]
          rw [lA_s (by rw [t2]; exact b1), l2, b2]
          simp only [bsome]
          have e53 : wadd (q : Int) (wmax (wsub (wadd (q : Int) 1) (q : Int)) (wshr (q : Int) 1)) = ((q + q / 2 : Nat) : Int) := by
            rw [wadd_n (by omega), wsub_e (by omega) (by omega), wshr_1 (by omega), wmax_e (rg_of (by omega) (by omega)) (rg_of (by omega) (by omega)), if_pos (by omega), wadd_e (by omega) (by omega)]
            omega
          rw [if_pos (by omega), e53, if_neg (by omega), if_neg (by omega)]
          simp only [bsome]
          rw [kT_s (by rw [t2]; exact b1)]
          simp only [bsome]
          rw [k8_s (by omega)]
          simp only [bsome]
          rw [hreq_7]
          simp only [bsome]
          rw [if_pos trivial, nA4]
          simp only [bsome]
          rw [lA_s tA4, lA4]
          simp only [bsome]
          rw [wmin_e (rg_of (by omega) (by omega)) (rg_of (by omega) (by omega)), if_neg (by omega), n2.1, cp]
          simp only [bsome]
          rw [pR_s (h := sCR h4 A 0 (hN h) 0 q) (by show hT h4 S = 8; rw [t4, if_neg (by omega)]; exact a3)]
          rfl
        · show hT h4 (hN h) = 19
          rw [t4, if_pos rfl]
        · show hL h4 (hN h) = _
          rw [l4, if_pos rfl]
        · rw [hR_sR, if_neg (by omega)]
          show (if hN h = hN h ∧ 0 ≤ i ∧ i < 0 + q then hR h4 A (i - 0 + 0) else _) = _
          rw [if_pos ⟨rfl, by omega, by omega⟩, r4, if_neg (by omega)]
          rfl
        · show hT h4 y = _
          rw [t4, if_neg (by omega)]
        · show hL h4 y = _
          rw [l4, if_neg (by omega)]
        · rw [hI_sR]
          show hI h4 y j = _
          rw [i4, if_neg (by omega)]
        · rw [hR_sR, if_neg (by omega)]
          show (if y = hN h ∧ 0 ≤ j ∧ j < 0 + q then hR h4 A (j - 0 + 0) else hR h4 y j) = _
          rw [if_neg (by omega), r4, if_neg (by omega)]
        · rw [hR_sR, if_pos ⟨rfl, rfl⟩]
        · rw [hR_sR, if_neg (by omega)]
          show (if S = hN h ∧ 0 ≤ j ∧ j < 0 + q then hR h4 A (j - 0 + 0) else hR h4 S j) = _
          rw [if_neg (by omega), r4, if_neg (by omega)]
    obtain ⟨h', g1, g2, g3, g4⟩ := c50_t (h := h3) (S := S) (x := x) (A := hN h) (q := q') (xs := xs) (N0 := N0) ⟨a1, by omega, by rw [(f5 S a2).1]; exact a3, f8⟩ h8 ⟨f3.1, f3.2, by omega, by omega, hq0⟩ ⟨by omega, by omega, by omega⟩ ⟨hx.1, by omega, by rw [(f5 x hx.2.1).1]; exact hx.2.2⟩ (fun i y hy => by
      obtain ⟨d1, d2, d3, d4⟩ := d i y hy
      have hi : i < xs.length := by
        by_cases c2 : i < xs.length
        · exact c2
        · rw [List.getElem?_eq_none (by omega)] at hy; cases hy
      exact ⟨by rw [f4 i (by omega)]; exact d1, d2, by omega, by rw [(f5 y d3).1]; exact d4⟩)
    have sY : ∀ y, y < hN h → y ≠ S → sm h h' y := fun y hy hn => sm_tr ⟨fun j => by rw [f6 y j hy]; exact i2 y j (fun z => hn z.1), fun j => f7 y j hy hn, (f5 y hy).1, (f5 y hy).2⟩ (g4 y hn (by omega))
    refine ⟨h', hN h, q', e1 h' ?_, g2, ⟨by omega, by omega, by omega, by omega⟩, fun y hy => sY y (by omega) (by omega), fun y hy y8 _ => sY y hy (fun e => y8 (by rw [e]; exact a3))⟩
    unfold c50
    rw [lA_s (by rw [t2]; exact b1), l2, b2]
    simp only [bsome]
    rw [if_pos (by omega), kT_s (by rw [t2]; exact a3)]
    simp only [bsome]
    rw [f1]
    exact g1
  · obtain ⟨k1, k2, k3⟩ : N0 ≤ A ∧ A < hN h ∧ 10 ≤ q := by omega
    obtain ⟨h', g1, g2, g3, g4⟩ := c50_t (h := h2) (S := S) (x := x) (A := A) (q := q) (xs := xs) (N0 := N0) ⟨a1, by omega, by rw [t2]; exact a3, by rw [r2]; exact a5⟩ h8 ⟨by rw [t2]; exact b1, by rw [l2]; exact b2, k1, by omega, k3⟩ ⟨by omega, by omega, by omega⟩ ⟨hx.1, by omega, by rw [t2]; exact hx.2.2⟩ (fun i y hy => by
      obtain ⟨d1, d2, d3, d4⟩ := d i y hy
      exact ⟨by rw [r2]; exact d1, d2, by omega, by rw [t2]; exact d4⟩)
    have sY : ∀ y, y ≠ S → y ≠ A → sm h h' y := fun y h1 h2' => sm_tr (s2 y h1) (g4 y h1 h2')
    refine ⟨h', A, q, e1 h' ?_, g2, ⟨by omega, by omega, by omega, by omega⟩, fun y hy => sY y (by omega) (by omega), fun y hy y8 y19 => sY y (fun e => y8 (by rw [e]; exact a3)) (fun e => y19 (by rw [e]; exact b1))⟩
    unfold c50
    rw [lA_s (by rw [t2]; exact b1), l2, b2]
    simp only [bsome]
    rw [if_neg (by omega)]
    exact g1
end LST
