/-! pond: both read the tape -/
/-- what pond, patch and word rest on -/
def RQ (hc hr : hS) : Prop := tpR hc hr ∧ (∃ wk, CTX hc wk ∧ ∀ i : Nat, i < 22 → wk i = wkf i) ∧ (hI hr 395 9 = 0 ∨ lrn hr) ∧ nmR hc hr ∧ (hT hc 16 = 1 ∧ hL hc 16 = 40) ∧ (hT hc 17 = 1 ∧ hL hc 17 = 4000) ∧ 0 ≤ hI hc 15 7 ∧ 448 ≤ hN hc
/-- what comes behind the reading, in pond -/
def F41 (p : Nat) (v4 : Int × hS) : Option (Int × hS) := if v4.1 = 0 then some ((-1), v4.2) else (kT v4.2 p 18).bind (fun u7 => (c88 p 0 0 v4.2).bind (fun h6 => (some (sR h6 8 7 p)).bind (fun h8 => (lp (fun s => c41_b34 s.1 s.2) hF0 (0, h8)).bind (fun r12 => (lp (fun s => c41_b58 s.1 s.2) hF0 (0, r12)).bind (fun r18 => (some (sI r18 8 8 0)).bind (fun h19 => (some (sI h19 8 10 (-1))).bind (fun h20 => (c91 h20).bind (fun h21 => (gI h21 (hR h21 8 7) 18 1).bind (fun v22 => some (v22, h21))))))))))
def G183 (r7 : Int × hS) : Option (Int × hS) := (c224 r7.2).bind (fun h8 => if r7.1 = 0 then some ((-1), h8) else (c225 0 h8).bind (fun h10 => (c226 1 0 h10).bind (fun h11 => (some (sI h11 395 33 0)).bind (fun h12 => (some (sI h12 395 25 0)).bind (fun h13 => (some (sI h13 395 28 (-1))).bind (fun h14 => (some (sI h14 395 29 (-1))).bind (fun h15 => (some (sI h15 395 30 (-1))).bind (fun h16 => (some (sI h16 395 27 0)).bind (fun h17 => (lp (fun s => c183_b90 s.1 s.2) hF0 (0, h17)).bind (fun r21 => (c198 0 r21).bind (fun v22 => some (v22, r21))))))))))))
section PND
variable {hc hr : hS} {wk : Nat → Int}
theorem CTX_z {h' : hS} (X : CTX hc wk) (e : ∀ x, x < 18 → sm hc h' x) : CTX h' wk := by
  obtain ⟨⟨x1, x2, x3, x4, x5, x6⟩, x7, x8, x9⟩ := X
  have e4 := e 4 (by omega)
  have e5 := e 5 (by omega)
  have e14 := e 14 (by omega)
  exact ⟨⟨by rw [e4.2.2.1]; exact x1, by rw [e4.1]; exact x2, by rw [e4.2.1]; exact x3, by rw [e5.2.2.1]; exact x4, by rw [e5.2.2.2]; exact x5, fun i hi => by rw [e5.1]; exact x6 i hi⟩, by rw [e14.2.2.1]; exact x7, by rw [e14.2.2.2]; exact x8, fun i => by rw [e14.1]; exact x9 i⟩
/-- a spare pond is made -/
theorem c18_e (h448 : 448 ≤ hN hc) : ∃ hA, c18 (hN hc) (mkH hc 18 2) = some hA ∧ (hN hA = hN hc + 2 ∧ hM hA = hM hc + 14) ∧ FZ (hN hc) hc hA ∧ (hT hA (hN hc) = 18 ∧ hI hA (hN hc) 1 = 0 ∧ hR hA (hN hc) 0 = hN hc + 1 ∧ hT hA (hN hc + 1) = 17 ∧ hL hA (hN hc + 1) = 12) := by
  have t0 : hT (mkH (mkH hc 18 2) 17 12) (hN hc) = 18 := by rw [hT_mk, hN_mk, if_neg (by omega), hT_mk, if_pos rfl]
  refine ⟨sR (mkH (mkH hc 18 2) 17 12) (hN hc) 0 (hN hc + 1), ?_, ⟨rfl, rfl⟩, ⟨⟨by show hN hc ≤ hN hc + 1 + 1; omega, by show hM hc ≤ hM hc + 2 + 12; omega⟩, fun x hx => ⟨fun j => ?_, fun j => ?_, ?_, ?_⟩⟩, t0, ?_, ?_, ?_, ?_⟩
  · unfold c18
    rw [k8_s (by omega)]
    simp only [bsome]
    rw [show nA (mkH hc 18 2) 17 12 = some (mkH (mkH hc 18 2) 17 12) from if_pos (by omega)]
    simp only [bsome]
    rw [pR_s t0]
    rfl
  · rw [hI_sR, hI_mk, hN_mk, if_neg (by omega), hI_mk, if_neg (by omega)]
  · rw [hR_sR, if_neg (by omega), hR_mk, hN_mk, if_neg (by omega), hR_mk, if_neg (by omega)]
  · show hT (mkH (mkH hc 18 2) 17 12) x = _
    rw [hT_mk, hN_mk, if_neg (by omega), hT_mk, if_neg (by omega)]
  · show hL (mkH (mkH hc 18 2) 17 12) x = _
    rw [hL_mk, hN_mk, if_neg (by omega), hL_mk, if_neg (by omega)]
  · rw [hI_sR, hI_mk, hN_mk, if_neg (by omega), hI_mk, if_pos rfl]
  · rw [hR_sR, if_pos ⟨rfl, rfl⟩]
  · show hT (mkH (mkH hc 18 2) 17 12) (hN hc + 1) = _
    rw [hT_mk, hN_mk, if_pos rfl]
  · show hL (mkH (mkH hc 18 2) 17 12) (hN hc + 1) = _
    rw [hL_mk, hN_mk, if_pos rfl]
/-- the class below the new cells, behind the reading of a text -/
def FX (hc h' : hS) : Prop := (hN hc ≤ hN h' ∧ hM hc ≤ hM h') ∧ ∀ x, x < hN hc → hT h' x = hT hc x ∧ hL h' x = hL hc x ∧ (∀ j, ¬ (x = 15 ∧ (j = 11 ∨ j = 12)) → hR h' x j = hR hc x j) ∧ ∀ j, ¬ (x = 11 ∨ x = 12 ∨ x = 13 ∨ x = 16 ∨ x = 17 ∨ (x = 9 ∧ (j = 5 ∨ j = 1)) ∨ (x = 15 ∧ 2 ≤ j ∧ j ≤ 10)) → hI h' x j = hI hc x j
/-- the other side, behind the reading of a text -/
def FY (h h' : hS) : Prop := h'.2.1 = h.2.1 ∧ h'.2.2.2 = h.2.2.2 ∧ (∀ x j, ¬ ((x = 399 ∧ 42000 ≤ j) ∨ (x = 400 ∧ 769 ≤ j ∧ j < 1538) ∨ (x = 395 ∧ ((2 ≤ j ∧ j ≤ 5) ∨ j = 7 ∨ j = 9 ∨ j = 11 ∨ j = 12 ∨ (16 ≤ j ∧ j ≤ 22) ∨ j = 24))) → hI h' x j = hI h x j) ∧ (∀ x j, ¬ (x = 397 ∨ x = 398 ∨ (x = 395 ∧ j = 10)) → hJ h' x j = hJ h x j)
theorem pond_r (Q : RQ hc hr) : ∃ (x : (Int × hS) ⊕ (Int × hS)) (v3 y : Int × hS) (n : Nat) (b : Nat → Int), c41 hc = (xs x (fun x28 => (kB x28.1).bind (fun u29 => some (x28.1, x28.2))) (fun o28 => some o28)).bind (F41 (hN hc)) ∧ c183 hr = G183 y ∧ ((∃ hc' hr', x = .inl (0, hc') ∧ y = (0, hr') ∧ FX hc hc' ∧ FY hr hr' ∧ FLR (hN hc) (hM hc) hc' hr' ∧ hI hc' 9 1 = 0 ∧ lrn hr') ∨ (∃ hc' hr' l' K' mk', x = .inr (1, hc') ∧ y = (1, hr') ∧ FX hc hc' ∧ FY hr hr' ∧ MP n b (hN hc) (hM hc) l' K' (hN hc) mk' rN hc' hr' ∧ hI hc' 9 1 = 0)) := by
  obtain ⟨TP, ⟨wk, X, hw⟩, H, N, t16, t17, q7, h448⟩ := Q
  obtain ⟨n, hn⟩ : ∃ n : Nat, (n : Int) = hI hc 9 1 := ⟨(hI hc 9 1).toNat, by have := TP.2.1.1; omega⟩
  obtain ⟨p1, p2, p3⟩ := TP
  have TR : txr hr n (fun i => hI hc 10 i) := ⟨by rw [← p1]; exact hn.symm, by omega, fun i hi => ⟨(p3 i (by omega)).1.symm, (p3 i (by omega)).2⟩⟩
  obtain ⟨hA, a1, ⟨a2, a3⟩, a4, a5, a6, a7, a8, a9⟩ := c18_e h448
  have sA : ∀ x, x < 18 → sm hc hA x := fun x hx => a4.2 x (by omega)
  have TA : txc hA n (fun i => hI hc 10 i) := ⟨by rw [(sA 9 (by omega)).1]; exact hn.symm, by omega, fun i hi => ⟨(sA 10 (by omega)).1 i, (p3 i (by omega)).2⟩⟩
  generalize (fun i => hI hc 10 i) = b at TA TR
  obtain ⟨h9, b1, CS9⟩ := c42_s (hN hc) (by omega) TA (CTX_z X sA) hw
  obtain ⟨hr1, d1, d2, d3, d4, d5, d6, d7, d8, d9, d10, d11, d12, d13⟩ := c184_e TR H
  have NA : nmR hA hr := nmR_c N ((sA 15 (by omega)).1 2) (fun j => (sA 16 (by omega)).1 j)
  obtain ⟨q, sl, q1, B0⟩ := BX_0 (by omega) CS9 NA ⟨by rw [(sA 16 (by omega)).2.2.1]; exact t16.1, by rw [(sA 16 (by omega)).2.2.2]; exact t16.2⟩ (by rw [(sA 15 (by omega)).1]; exact q7) d2 d3 d4 d7 d9 d10 (d12 395 7 (by omega)) (fun j => d13 397 j (by omega))
  have B1 : BX sl n b 0 q 0 0 h9 (sI hr1 400 769 0) := BS_f B0 (fp_sI ⟨rfl, by omega, by omega⟩)
  obtain ⟨s1, ⟨s2, s3, s4, s5, s6⟩, ⟨s7, s8⟩, ⟨s9, s10⟩, s11, s12⟩ := CS9
  obtain ⟨u1, u2, u3, u4⟩ := s12 (hN hc) (by omega)
  obtain ⟨v1, v2, v3', v4⟩ := s12 (hN hc + 1) (by omega)
  obtain ⟨w1, w2, w3, w4⟩ := s12 17 (by omega)
  have W9 : BW h9 (sI hr1 400 769 0) (fun _ _ => False) (hN hc) 0 rN := by
    refine ⟨⟨⟨?_, by omega, fun k k0 k1 => by omega⟩, ⟨by omega, by omega, by rw [u1]; exact a5, by rw [u3 0 (by omega)]; exact a7, by rw [v1]; exact a8, by rw [v2]; exact a9, by rw [u4 1 (by omega)]; exact a6⟩, fun j j0 j1 => by omega, fun i j i0 i1 => by omega⟩, fun j j0 j1 => by omega, fun i j i0 ij j1 => by omega, fun x v hx => False.elim hx, fun j j0 j1 => by omega⟩
    show hI (sI hr1 400 769 0) 400 769 = _
    rw [hI_sI, if_pos ⟨rfl, rfl⟩]
    rfl
  have P0 : MP n b (hN hc) (hM hc) 0 (fun _ _ => False) (hN hc) 0 rN h9 (sI hr1 400 769 0) := ⟨q, 0, sl, B1, Nat.le_refl _, W9, fun x v hx => False.elim hx, ⟨Nat.le_refl _, h448, by omega⟩, ⟨by rw [w1, (sA 17 (by omega)).2.2.1]; exact t17.1, by rw [w2, (sA 17 (by omega)).2.2.2]; exact t17.2⟩, ⟨by omega, by omega⟩, ⟨fun j j0 j1 => by omega, fun j j0 j1 => by omega⟩, fun j j0 j1 => by omega⟩
  obtain ⟨x, x1, v3, x2, y, x3, E⟩ := RPl P0 s5 s7
  have e41 : c41 hc = (c42 (hN hc) hA).bind (F41 (hN hc)) := by
    unfold c41 F41
    simp only [bsome]
    rw [k8_s (by omega)]
    simp only [bsome]
    rw [a1]
    rfl
  have e183 : c183 hr = G183 y := by
    have e769 : wIs hr1 400 2307 769 0 = some (sI hr1 400 769 0) := by
      rw [wIs_s (by omega) (by omega)]
      rfl
    unfold c183 G183
    rw [d1]
    simp only [bsome]
    rw [e769]
    simp only [bsome]
    rw [x2]
    simp only [bsome]
    rw [x3]
    rfl
  rw [b1, x1] at e41
  have f9 : FX hc h9 := ⟨⟨by omega, by omega⟩, fun z hz => by
    obtain ⟨y1, y2, y3, y4⟩ := s12 z (by omega)
    have sz := a4.2 z hz
    exact ⟨y1.trans sz.2.2.1, y2.trans sz.2.2.2, fun j hj => (y3 j hj).trans (sz.2.1 j), fun j hj => (y4 j (by omega)).trans (sz.1 j)⟩⟩
  have g9 : FY hr (sI hr1 400 769 0) := ⟨d5, d6, fun z j hz => by
    rw [hI_sI, if_neg (by omega)]
    exact d12 z j (by omega), fun z j hz => d13 z j (by omega)⟩
  have ff : ∀ h', FT (hN hc) h9 h' → FX hc h' ∧ hI h' 9 1 = 0 := fun h' f => ⟨⟨⟨Nat.le_trans f9.1.1 f.1.1, Nat.le_trans f9.1.2 f.1.2⟩, fun z hz => by
    obtain ⟨y1, y2, y3, y4⟩ := f9.2 z hz
    obtain ⟨y5, y6, y7, y8⟩ := f.2 z hz
    exact ⟨y5.trans y1, y6.trans y2, fun j hj => (y7 j).trans (y3 j hj), fun j hj => (y8 j (by omega)).trans (y4 j hj)⟩⟩, by rw [(f.2 9 (by omega)).2.2.2 1 (by omega)]; exact s6⟩
  have gg : ∀ h', FW (sI hr1 400 769 0) h' → FY hr h' ∧ lrn h' := fun h' f => ⟨⟨f.1.trans g9.1, f.2.1.trans g9.2.1, fun z j hz => (f.2.2.1 z j (by omega)).trans (g9.2.2.1 z j hz), fun z j hz => (f.2.2.2 z j (by omega)).trans (g9.2.2.2 z j hz)⟩, by
    refine ⟨?_, fun i hi => ?_⟩
    · rw [f.2.2.1 395 9 (by omega), hI_sI, if_neg (by omega)]
      exact d3.1
    · rw [f.2.2.2 398 i (by omega)]
      exact d3.2 i hi⟩
  refine ⟨x, v3, y, n, b, e41, e183, ?_⟩
  rcases E with ⟨hc', hr', z1, z2, z3, z4, z5⟩ | ⟨hc', hr', l', K', mk', z1, z2, z3, z4, z5⟩
  · exact .inl ⟨hc', hr', z1, z2, (ff _ z3).1, (gg _ z4).1, z5, (ff _ z3).2, (gg _ z4).2⟩
  · exact .inr ⟨hc', hr', l', K', mk', z1, z2, (ff _ z3).1, (gg _ z4).1, z5, (ff _ z3).2⟩
end PND
