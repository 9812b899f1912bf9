/-! call 18: beat (3) -/
section BTa
variable {h h' h0 h1 h2 h3 t t' t1 t2 t3 hA tA : hS} {K : Nat → Int → Prop} {p P m q κ k : Nat} {r : Int → Nat} {G s v : Int} {R0 R1 : Nat → Nat}
theorem api18_no (b : hI h 8 9 = 1000) (bt : hI h 8 9 = hI t 395 59) : c136 h = some (-1, h) ∧ c271 t = some (-1, t) := by
  refine ⟨?_, ?_⟩
  · unfold c136
    rw [if_neg (by omega)]
  · unfold c271
    rw [if_pos (by omega)]
theorem api18 (I : INq K p m q r κ G R0 R1 h t) (h448 : 448 ≤ hN h) (G1 : G ≤ 50000) (bt : hI h 8 9 = hI t 395 59 ∧ 0 ≤ hI h 8 9 ∧ hI h 8 9 < 1000) (wk : hI h 8 10 = hI t 395 30 ∧ (hI t 395 30 = -1 ∨ (0 ≤ hI t 395 30 ∧ hI t 395 30 < 40))) : ∃ v h' t' p' m' r' G', c136 h = some (v, h') ∧ c271 t = some (v, t') ∧ INq K p' m' q r' κ G' R0 R1 h' t' ∧ (G' = G ∨ G' = G + 1) ∧ (hI h' 8 9 = hI h 8 9 + 1 ∧ hI t' 395 59 = hI h 8 9 + 1 ∧ hI t' 395 60 = 0 ∧ ∀ c, c < 40 → hI h' 20 c = hI t' 418 c) ∧ BEc h h' ∧ BEt t t' ∧ ((hN h' = hN h ∧ hM h' = hM h) ∨ (hI t 395 28 ≠ -1 ∧ hI t' 395 28 = -1 ∧ hN h' ≤ hN h + 1224 ∧ hM h' ≤ hM h + 25112)) := by
  obtain ⟨hA, eA⟩ : ∃ hA, hA = sI (sI (sI h 8 9 (hI h 8 9 + 1)) 22 13 0) 22 11 1 := ⟨_, rfl⟩
  obtain ⟨tA, eB⟩ : ∃ tA, tA = sI (sI (sI t 395 59 (hI h 8 9 + 1)) 395 66 0) 395 60 1 := ⟨_, rfl⟩
  have hp := I.1.1.2.2.2.2.1
  have kd8 : ∀ u : Int, 0 ≤ u → u < m → 448 ≤ kd h p u := fun u u0 u1 => (I.1.1.2.1.2.2.1 u u0 u1).1.1
  obtain ⟨h1, t1, h2, t2, h3, t3, a1, a2, a3, a4, a5, a6, I3, rows, B2, T2⟩ := BE_1 I h448 bt wk eA eB
  obtain ⟨⟨c1, c2, c3, c4, c5⟩, c6, c7⟩ := B2
  have gA : hJ hA = hJ h ∧ hT hA = hT h ∧ hL hA = hL h ∧ hN hA = hN h ∧ hM hA = hM h := by rw [eA]; exact ⟨rfl, rfl, rfl, rfl, rfl⟩
  have g3 : hJ h3 = hJ h2 ∧ hT h3 = hT h2 ∧ hL h3 = hL h2 ∧ hN h3 = hN h2 ∧ hM h3 = hM h2 := by rw [a5]; exact ⟨rfl, rfl, rfl, rfl, rfl⟩
  have J3 : hJ h3 = hJ h := g3.1.trans (c1.trans gA.1)
  have N3 : hN h3 = hN h := g3.2.2.2.1.trans (c4.trans gA.2.2.2.1)
  have M3 : hM h3 = hM h := g3.2.2.2.2.trans (c5.trans gA.2.2.2.2)
  have T3 : hT h3 = hT h := g3.2.1.trans (c2.trans gA.2.1)
  have L3 : hL h3 = hL h := g3.2.2.1.trans (c3.trans gA.2.2.1)
  have kA : ∀ u : Int, kd hA p u = kd h p u := fun u => by rw [eA]; rfl
  have i3 : ∀ x j, x < 448 → ¬ ((x = 8 ∧ j = 9) ∨ x = 20 ∨ x = 22 ∨ (24 ≤ x ∧ x ≤ 47) ∨ (215 ≤ x ∧ x < 395)) → hI h3 x j = hI h x j := fun x j hx hn => by
    rw [a5, hI_sI, if_neg (by omega), c7 x j (fun z => by
      rcases z with z | z | z | z | z | ⟨u, u0, u1, z⟩
      · omega
      · omega
      · omega
      · omega
      · omega
      · rw [kA] at z
        have := kd8 u u0 u1
        omega), eA, hI_sI, if_neg (by omega), hI_sI, if_neg (by omega), hI_sI, if_neg (by omega)]
  have r3 : ∀ x j, ¬ ((23 ≤ x ∧ x ≤ 47) ∨ (375 ≤ x ∧ x < 395)) → hR h3 x j = hR h x j := fun x j hx => by rw [a5, hR_sI, c6 x j (by omega), eA, hR_sI, hR_sI, hR_sI]
  have o3 : ∀ x j, ¬ ((x = 395 ∧ ((39 ≤ j ∧ j ≤ 42) ∨ j = 52 ∨ j = 54 ∨ j = 55 ∨ j = 59 ∨ j = 60 ∨ j = 66)) ∨ x = 400 ∨ x = 405 ∨ x = 406 ∨ (408 ≤ x ∧ x ≤ 437)) → hI t3 x j = hI t x j := fun x j hx => by rw [a6, hI_sI, if_neg (by omega), T2.2 x j (by omega), eB, hI_sI, if_neg (by omega), hI_sI, if_neg (by omega), hI_sI, if_neg (by omega)]
  have t31 : t3.2 = t.2 := by rw [a6]; exact T2.1.trans (by rw [eB]; rfl)
  obtain ⟨h', t', p', m', r', G', q1, q2, I', eG, Qc, Qt, rm⟩ := QPA I3 (by omega) G1
  have i8 : hI h3 8 9 = hI h 8 9 + 1 := by
    rw [a5, hI_sI, if_neg (by omega), c7 8 9 (fun z => by
      rcases z with z | z | z | z | z | ⟨u, u0, u1, z⟩
      · omega
      · omega
      · omega
      · omega
      · omega
      · rw [kA] at z
        have := kd8 u u0 u1
        omega), eA, hI_sI, if_neg (by omega), hI_sI, if_neg (by omega), hI_sI, if_pos ⟨rfl, rfl⟩]
  have b59 : hI t3 395 59 = hI h 8 9 + 1 := by rw [a6, hI_sI, if_neg (by omega), T2.2 395 59 (by omega), eB, hI_sI, if_neg (by omega), hI_sI, if_neg (by omega), hI_sI, if_pos ⟨rfl, rfl⟩]
  have z8 : hI h' 8 9 = hI h 8 9 + 1 := by rw [(Qc.2.2 8 (by omega)).2.2 9 (by omega)]; exact i8
  have z59 : hI t' 395 59 = hI h 8 9 + 1 := by rw [Qt.2 395 59 (by omega)]; exact b59
  have w8 : wadd (hI h 8 9) 1 = hI h 8 9 + 1 := wadd_e (by omega) (by omega)
  have w9 : wadd (hI t 395 59) 1 = hI h 8 9 + 1 := by rw [← bt.1]; exact w8
  refine ⟨hI h 8 9 + 1, h', t', p', m', r', G', ?_, ?_, I', eG, ⟨z8, z59, by rw [Qt.2 395 60 (by omega), a6, hI_sI, if_pos ⟨rfl, rfl⟩], fun c hc => ?_⟩, ⟨⟨by rw [← N3]; exact Qc.1.1, by rw [← M3]; exact Qc.1.2⟩, JQ_tr (JQ_eq J3 (by omega)) Qc.2.1, fun x hx => ?_⟩, ⟨Qt.1.trans t31, fun x j hx => by rw [Qt.2 x j (by omega), o3 x j (by omega)]⟩, ?_⟩
  · unfold c136
    rw [if_pos bt.2.2, w8]
    refine bnd rfl ?_
    refine bnd rfl ?_
    rw [← eA]
    refine bnd rfl ?_
    refine bnd a1 ?_
    refine bnd a3 ?_
    rw [← a5]
    refine bnd rfl ?_
    rw [I3.2.2.2.2.2.2.2.1]
    cases hc : c139 p (fbI t3 10) h3 with
    | none => rw [hc] at q1; cases q1
    | some x =>
      rw [hc] at q1
      obtain ⟨-, -, -⟩ : True ∧ True ∧ True := ⟨trivial, trivial, trivial⟩
      refine bnd rfl ?_
      refine bnd rfl ?_
      refine bnd (show c165 (sR x.2 8 7 x.1) = some h' from q1) ?_
      rw [z8]
  · unfold c271
    rw [if_neg (by omega), w9]
    refine bnd rfl ?_
    refine bnd rfl ?_
    rw [← eB]
    refine bnd rfl ?_
    refine bnd a2 ?_
    refine bnd a4 ?_
    rw [← a6]
    refine bnd rfl ?_
    refine bnd q2 ?_
    rw [z59]
  · rw [(Qc.2.2 20 (by omega)).2.2 c (by omega), Qt.2 418 c (by omega)]
    exact rows c hc
  · obtain ⟨⟨y1, y2⟩, y3, y4⟩ := Qc.2.2 x hx
    exact ⟨⟨by rw [y1, T3], by rw [y2, L3]⟩, fun j hj => by rw [y3 j (by omega), r3 x j (by omega)], fun j hj => by rw [y4 j (by omega), i3 x j hx (by omega)]⟩
  · rw [N3, M3] at rm
    rcases rm with y | ⟨y1, y2, y3, y4⟩
    · exact .inl y
    · refine .inr ⟨?_, y2, y3, y4⟩
      rw [← o3 395 28 (by omega)]
      exact y1
end BTa
