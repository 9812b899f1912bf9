/-! pond: the other side's end -/
section G18
variable {hr : hS}
theorem bnd {α β : Type} {x : Option α} {a : α} {f : α → Option β} {r : Option β} (e : x = some a) (h : f a = r) : x.bind f = r := by
  rw [e]
  exact h
theorem G183_e {g1 g2 g3 g : hS} {v : Int} (e1 : c224 hr = some g1) (a1 : c225 0 g1 = some g2) (b1 : c226 1 0 g2 = some g3) (c1 : lp (fun s => c183_b90 s.1 s.2) hF0 (0, sI (sI (sI (sI (sI (sI g3 395 33 0) 395 25 0) 395 28 (-1)) 395 29 (-1)) 395 30 (-1)) 395 27 0) = some g) (d : c198 0 g = some v) : G183 (1, hr) = some (v, g) := by
  unfold G183
  refine bnd e1 ?_
  refine (if_neg (show ¬ (1 : Int) = 0 by omega)).trans ?_
  refine bnd a1 (bnd b1 ?_)
  refine bnd rfl (bnd rfl (bnd rfl (bnd rfl (bnd rfl (bnd rfl ?_)))))
  refine bnd c1 ?_
  exact bnd d rfl
theorem pond_g {m : Nat} (hm : m ≤ 1200) (e11 : hI hr 395 11 = 0) (e16 : hI hr 395 16 = (m : Int)) : ∃ hr', G183 (1, hr) = some (wm hr 1, hr') ∧ hr'.2 = hr.2 ∧ (∀ x j, ¬ ((x = 399 ∧ j < 6000) ∨ (x = 400 ∧ j < 769) ∨ (x = 395 ∧ (j = 1 ∨ j = 13 ∨ j = 14 ∨ j = 25 ∨ (27 ≤ j ∧ j ≤ 30) ∨ j = 33)) ∨ ((x = 423 ∨ x = 424) ∧ j < 10)) → hI hr' x j = hI hr x j) ∧ ((hI hr' 395 1 = 0 ∧ hI hr' 395 13 = 0 ∧ hI hr' 395 14 = -1) ∧ (hI hr' 395 25 = 0 ∧ hI hr' 395 27 = 0 ∧ hI hr' 395 28 = -1 ∧ hI hr' 395 29 = -1 ∧ hI hr' 395 30 = -1 ∧ hI hr' 395 33 = 0)) ∧ (∀ l, l < 10 → hI hr' 423 l = 0 ∧ hI hr' 424 l = 0) ∧ wm hr' 0 = wm hr 1 ∧ (∀ k f : Int, 0 ≤ k → k < 12 → 0 ≤ f → f < 64 → wg hr' 0 k f = wg hr 1 k f) ∧ ∀ i, i < m → ∀ j, j < 5 → ntx hr' 0 i j = nd hr i j := by
  obtain ⟨g1, eg1⟩ : ∃ g1, g1 = sI (sI (sI hr 395 13 (hI hr 395 11)) 395 14 (if hI hr 395 11 = 0 then -1 else hI hr 395 12)) 395 1 0 := ⟨_, rfl⟩
  have i1 : ∀ x j, hI g1 x j = if x = 395 ∧ j = 1 then 0 else if x = 395 ∧ j = 14 then -1 else if x = 395 ∧ j = 13 then 0 else hI hr x j := fun x j => by
    rw [eg1, hI_sI, hI_sI, hI_sI, if_pos e11, e11]
  obtain ⟨g2, a1, a2, a3⟩ := c225_e (t := 0) (h := g1) (m := m) (by omega) hm (by rw [i1, if_neg (by omega), if_neg (by omega), if_neg (by omega)]; exact e16)
  obtain ⟨g3, b1, b2, b3, b4⟩ := c226_e (h := g2) (w1 := 1) (w2 := 0) (by omega) (by omega) (by omega)
  obtain ⟨g9, eg9⟩ : ∃ g9, g9 = sI (sI (sI (sI (sI (sI g3 395 33 0) 395 25 0) 395 28 (-1)) 395 29 (-1)) 395 30 (-1)) 395 27 0 := ⟨_, rfl⟩
  have i9 : ∀ x j, hI g9 x j = if x = 395 ∧ j = 27 then 0 else if x = 395 ∧ j = 30 then -1 else if x = 395 ∧ j = 29 then -1 else if x = 395 ∧ j = 28 then -1 else if x = 395 ∧ j = 25 then 0 else if x = 395 ∧ j = 33 then 0 else hI g3 x j := fun x j => by
    rw [eg9, hI_sI, hI_sI, hI_sI, hI_sI, hI_sI, hI_sI]
  obtain ⟨g, c1, c2, c3⟩ := c183_a (h := g9) 10 0 hF0 g9 rfl (hF0_lt (by omega)) fp_rf (fun c hc => by omega)
  have a1 : c225 0 g1 = some g2 := a1
  have b1 : c226 1 0 g2 = some g3 := b1
  have c1 : lp (fun s => c183_b90 s.1 s.2) hF0 (0, g9) = some g := c1
  have E3 : g9.2 = g3.2 := by rw [eg9]; rfl
  have E2 : g.2 = hr.2 := by
    rw [c2.1, E3, b2.1, a2.1, eg1]
    rfl
  have o9 : ∀ x j, ¬ (x = 395 ∧ (j = 25 ∨ (27 ≤ j ∧ j ≤ 30) ∨ j = 33)) → hI g9 x j = hI g3 x j := fun x j hx => by
    rw [i9, if_neg (by omega), if_neg (by omega), if_neg (by omega), if_neg (by omega), if_neg (by omega), if_neg (by omega)]
  have o1 : ∀ x j, ¬ (x = 395 ∧ (j = 1 ∨ j = 13 ∨ j = 14)) → hI g1 x j = hI hr x j := fun x j hx => by
    rw [i1, if_neg (by omega), if_neg (by omega), if_neg (by omega)]
  have e4 : ∀ j, hI g 400 j = hI g3 400 j := fun j => by rw [c2.2 400 j (by omega), o9 400 j (by omega)]
  have e4' : ∀ j, hI g2 400 j = hI hr 400 j := fun j => by rw [a2.2 400 j (by omega), o1 400 j (by omega)]
  have p3 : ∀ j, ¬ (25 ≤ j ∧ j ≤ 33) → hI g 395 j = hI g1 395 j := fun j hj => by
    rw [c2.2 395 j (by omega), o9 395 j (by omega), b2.2 395 j (by omega), a2.2 395 j (by omega)]
  have q3 : ∀ j, hI g 395 j = hI g9 395 j := fun j => c2.2 395 j (by omega)
  have ew : wm g 0 = wm hr 1 := by
    have y1 : wm g 0 = wm g3 0 := e4 _
    have y2 : wm g2 1 = wm hr 1 := e4' _
    exact y1.trans (Eq.trans b3 y2)
  refine ⟨g, ?_, E2, fun x j hx => ?_, ⟨⟨?_, ?_, ?_⟩, ?_, ?_, ?_, ?_, ?_, ?_⟩, c3, ew, fun k f k0 k1 f0 f1 => ?_, fun i hi j hj => ?_⟩
  · rw [eg9] at c1
    exact G183_e (c224_e.trans (congrArg some eg1.symm)) a1 b1 c1 ((c198_e (by omega) (by omega)).trans (congrArg some ew))
  · rw [c2.2 x j (by omega), o9 x j (by omega), b2.2 x j (by omega), a2.2 x j (by omega), o1 x j (by omega)]
  · rw [p3 1 (by omega), i1, if_pos ⟨rfl, rfl⟩]
  · rw [p3 13 (by omega), i1, if_neg (by omega), if_neg (by omega), if_pos ⟨rfl, rfl⟩]
  · rw [p3 14 (by omega), i1, if_neg (by omega), if_pos ⟨rfl, rfl⟩]
  · rw [q3, i9, if_neg (by omega), if_neg (by omega), if_neg (by omega), if_neg (by omega), if_pos ⟨rfl, rfl⟩]
  · rw [q3, i9, if_pos ⟨rfl, rfl⟩]
  · rw [q3, i9, if_neg (by omega), if_neg (by omega), if_neg (by omega), if_pos ⟨rfl, rfl⟩]
  · rw [q3, i9, if_neg (by omega), if_neg (by omega), if_pos ⟨rfl, rfl⟩]
  · rw [q3, i9, if_neg (by omega), if_pos ⟨rfl, rfl⟩]
  · rw [q3, i9, if_neg (by omega), if_neg (by omega), if_neg (by omega), if_neg (by omega), if_neg (by omega), if_pos ⟨rfl, rfl⟩]
  · have y1 : wg g 0 k f = wg g3 0 k f := e4 _
    have y2 : wg g2 1 k f = wg hr 1 k f := e4' _
    exact y1.trans (Eq.trans (b4 k f k0 k1 f0 f1) y2)
  · have y1 : ntx g 0 i j = ntx g2 0 i j := by
      unfold ntx
      rw [c2.2 399 _ (by omega), o9 399 _ (by omega), b2.2 399 _ (by omega)]
    have y2 : nd g1 i j = nd hr i j := o1 399 _ (by omega)
    exact y1.trans ((a3 i hi j hj).trans y2)
end G18
