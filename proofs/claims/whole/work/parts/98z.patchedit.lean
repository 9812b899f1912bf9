section PBT
variable {n l l' m m' N0 M0 q q' sl sl' x i : Nat} {b : Nat → Int} {w w' : Int} {hc hr hc' hr' h0 t0 h3 t1 : hS} {xs : List Nat}
theorem PB_w (P : PBt n b N0 M0 l w m xs hc hr) (e : w ≤ w') : PBt n b N0 M0 l w' m xs hc hr := by
  obtain ⟨q0, sl0, A, Q, B0, hm0, L, hN0, t17, r15, rm, wt⟩ := P
  exact ⟨q0, sl0, A, Q, B0, hm0, L, hN0, t17, r15, rm, by omega⟩
theorem PB_at (P : PBt n b N0 M0 l w m xs hc hr) : ∃ (s v : Int) (a : Nat), (VS s ∨ s = 4) ∧ c39 hc = some s ∧ hI hr 395 3 = mt s ∧ (s ≠ 4 → l + 1 < (TK n b).length) ∧ (TK n b)[l]? = some (s, a, v) := by
  obtain ⟨q0, sl0, A, Q, B0, -⟩ := P
  obtain ⟨s, a, v, d1, d2, d3, d4, -⟩ := RD_at B0.1
  refine ⟨s, v, a, ?_, d3, d4, fun hs => ?_, d1⟩
  · rcases d2 with ⟨z, -⟩ | ⟨z, -⟩
    · exact .inr z
    · exact .inl z
  · rcases d2 with ⟨z, -⟩ | ⟨-, -, z⟩
    · exact absurd z hs
    · exact z
theorem PB_adv (P : PBt n b N0 M0 l w m xs hc hr) (h1 : l + 1 < (TK n b).length) (hw : (tkW n b l : Int) + w ≤ (tkW n b (l + 1) : Int) + w') : wadd (hI hc 15 3) 1 = ((l + 1 : Nat) : Int) ∧ ∃ hr', c188 hr = some hr' ∧ fj hr hr' ∧ PBt n b N0 M0 (l + 1) w' m xs (sI hc 15 3 ((l + 1 : Nat) : Int)) hr' := by
  obtain ⟨q0, sl0, A, Q, B0, hm0, -⟩ := id P
  obtain ⟨a0, hr1, a1, a2, B1⟩ := BS_adv B0 h1
  exact ⟨a0, hr1, a1, a2, PB_go (q := 0) P B1 (by omega) (by omega) (FC_sI (by omega)) hw⟩
theorem PB_nm (P : PBt n b N0 M0 l w m xs hc hr) : ∃ (f v : Int) (hc' hr' : hS), c45 hc = some (v, hc') ∧ c196 hr = some (f, hr') ∧ FC 0 hc hc' ∧ FR m hr hr' ∧ ((f = 1 ∧ (0 ≤ v ∧ v < 40) ∧ hI hr' 395 17 = v ∧ PBt n b N0 M0 (l + 1) (w - 1) m xs hc' hr' ∧ l + 1 < (TK n b).length) ∨ (f = 0 ∧ v = -1 ∧ FLR N0 M0 hc' hr')) := by
  obtain ⟨q0, sl0, A, Q, B0, hm0, -⟩ := id P
  obtain ⟨f, v, hc2, hr2, g1, g2, fc2, fr2, ⟨g3, g4, g5, B2, -⟩ | ⟨g3, g4, g5, -⟩⟩ := BS_nm B0
  · have hl := B2.1.2.2.1
    have tw := tkW_1 (n := n) (b := b) (l := l) (by omega)
    exact ⟨f, v, hc2, hr2, g1, g2, ⟨⟨fc2.1.1, fun x j z => fc2.1.2 x j (by omega)⟩, fc2.2⟩, fr2, .inl ⟨g3, g4, g5, PB_go P B2 (by omega) (by omega) fc2 (by omega), hl⟩⟩
  · exact ⟨f, v, hc2, hr2, g1, g2, ⟨⟨fc2.1.1, fun x j z => fc2.1.2 x j (by omega)⟩, fc2.2⟩, fr2, .inr ⟨g3, g4, FLR_FC fc2 g5 ⟨by have := PB_rm P; omega, by have := PB_rm P; omega⟩⟩⟩
theorem PB_ps {c : Int} (P : PBt n b N0 M0 l w m xs hc hr) (s : sgn c = true) : JK N0 M0 hc hr (fun hc' hr' => PBt n b N0 M0 (l + 1) (w - 1) m xs hc' hr' ∧ hc' = sI hc 15 3 ((l + 1 : Nat) : Int) ∧ fj hr hr') (c58 c hc) (c202 c hr) := by
  obtain ⟨q0, sl0, A, Q, B0, hm0, -⟩ := id P
  refine JK_im (JK_J (BS_ps B0 s) ⟨by have := PB_rm P; omega, by have := PB_rm P; omega⟩) (fun hc' hr' _ _ ⟨B1, e, j⟩ => ⟨?_, e, j⟩)
  have hl := B1.1.2.2.1
  have tw := tkW_1 (n := n) (b := b) (l := l) (by omega)
  exact PB_go (q := 0) P B1 (by omega) (by omega) (by rw [e]; exact FC_sI (by omega)) (by omega)
theorem PB_no {c : Int} (P : PBt n b N0 M0 l w m xs hc hr) (c1 : 1 ≤ c ∧ c ≤ 5) : ∃ hc' hr', c46 c (hI hc 15 3) hc = some (0, hc') ∧ c194 c hr = some (0, hr') ∧ FK N0 hc hc' ∧ FW hr hr' ∧ FLR N0 M0 hc' hr' := by
  obtain ⟨q0, sl0, A, Q, B0, hm0, -⟩ := id P
  obtain ⟨hc', hr', g1, g2, g3, g4, g5⟩ := BS_no (c := c) B0 c1
  exact ⟨hc', hr', g1, g2, FK_FC g3, FW_FR g4, FLR_FC g3 g5 ⟨by have := PB_rm P; omega, by have := PB_rm P; omega⟩⟩
/-- the step, its node, and the ; behind both -/
theorem ED_end {s k nm o sN a b' : Int} {cd : Nat} (P : PBt n b N0 M0 l w m xs h0 t0) (B : BX sl' n b l' q' m' 0 h3 t1) (hm : m' + 1 ≤ l') (hl : l + 2 ≤ l') (F : FK N0 h0 h3) (S : SAt h0 h3) (rm : hN h3 ≤ hN h0 + 1 ∧ hM h3 + 2 * l ≤ hM h0 + 2 * l') (hw : (tkW n b l : Int) + w + (if s = 200 then 7 else if s = 217 then 6 else 0) ≤ (tkW n b l' : Int) + w') : JK N0 M0 h3 t1 (fun hc' hr' => PBt n b N0 M0 (l' + 1) (w' - 1) (m' + 1) (xs ++ [hN h3]) hc' hr' ∧ SPc hc' (hN h3) s (hI h0 15 9) k nm o cd ∧ KP h3 hc' ∧ (∀ t, t < m' → ∀ j, j < 5 → nd hr' t j = nd t1 t j) ∧ (nd hr' m' 0 = sN ∧ nd hr' m' 1 = a ∧ nd hr' m' 2 = b' ∧ nd hr' m' 4 = -1) ∧ hI hr' 395 22 = (m' : Int) ∧ (N0 ≤ hN h3 ∧ hN h3 < hN hc')) (c85_j91 N0 (hN h3) (hN h3) s k nm o cd (mkH h3 22 6)) ((c218 sN a b' 0 t1).bind (fun v28 => (some (sI v28.2 395 22 v28.1)).bind (fun h29 => (c202 59 h29).bind (fun v30 => (kB v30.1).bind (fun u31 => some (v30.1, v30.2)))))) := by
  obtain ⟨t2, n1, B2, g2, ⟨d0, d1, d2, d3, d4⟩, e22, -⟩ := BS_nt (s := sN) (x := a) (y := b') (z := 0) (t := 22) (.inr rfl) B (by omega)
  have hN0 := (PB_l P).2.1
  have n3 := F.1.1
  have p9 : hI (mkH h3 22 6) 15 9 = hI h0 15 9 := by rw [hI_mk, if_neg (by omega)]; exact (F.2 15 (by omega)).2.2.2 9 (by omega)
  obtain ⟨h5, h6, y1, y2, y3, -, y4, P6, y5, y6, y7, y8, y9, y10⟩ := PB_add (k := k) (nm := nm) (o := o) (cd := cd) P B2 hm hl F S rm hw
  unfold c85_j91
  rw [k8_s (by omega), p9]
  simp only [bsome]
  rw [y1]
  simp only [bsome]
  rw [kT_s y3]
  simp only [bsome]
  rw [y4, n1]
  simp only [bsome]
  refine JK_re y10 (FW_FR g2) ?_
  refine JK_kl (JK_kr (JK_im (PB_ps P6 (c := 59) rfl) (fun hc' hr' _ _ ⟨P7, e7, j7⟩ => ?_)))
  have nj : ∀ t j, nd hr' t j = nd (sI t2 395 22 (m' : Int)) t j := fun t j => j7.2.2.1 399 _ (by omega)
  have s7 : SAt h6 hc' := by rw [e7]; exact SA_FC (FC_sI (p := 0) (by omega))
  have n7 : hN hc' = hN h6 := by rw [e7]; rfl
  refine ⟨P7, SPc_h y5 (s7 _ (by omega) y9.2), KP_tr y8 (KP_SA s7 (by omega)), fun t ht j hj => by rw [nj]; exact nd_FR g2 ht hj, ⟨by rw [nj]; exact d0, by rw [nj]; exact d1, by rw [nj]; exact d2, by rw [nj]; exact d4⟩, ?_, y9.1, by omega⟩
  rw [j7.2.2.1 395 22 (by omega)]
  exact e22
end PBT
