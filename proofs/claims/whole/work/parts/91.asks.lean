/-! if, blocks -/
section ASK
variable {n : Nat} {b : Nat → Int} {l p m d fc fr : Nat} {hc hr hc' hr' : hS}
theorem cdA_set {X Y : List Int} {w v : Int} {q : Nat} (a : cdA hc p (X ++ w :: Y)) (hq : q = p + X.length) : cdA (sI hc 17 q v) p (X ++ v :: Y) := by
  intro t u e
  by_cases c : t < X.length
  · rw [List.getElem?_append_left c] at e
    rw [hI_sI, if_neg (by omega)]
    exact a t u (by rw [List.getElem?_append_left c]; exact e)
  · rw [List.getElem?_append_right (by omega)] at e
    obtain ⟨z, hz⟩ : ∃ z, z = t - X.length := ⟨_, rfl⟩
    rw [← hz] at e
    cases z with
    | zero =>
      rw [hI_sI, if_pos ⟨rfl, by omega⟩]
      simpa using e
    | succ z =>
      rw [hI_sI, if_neg (by omega)]
      refine a t u ?_
      rw [List.getElem?_append_right (by omega), ← hz]
      exact e
theorem c71_e {v : Int} {q e : Nat} (h7 : hI hc 15 7 = (e : Int)) (hq : q < e) (he : e ≤ 4000) : c71 (q : Int) v hc = some (sI hc 17 q v) := by
  unfold c71
  rw [h7, if_neg (by omega), if_neg (by omega), wIs_s (by omega) (by omega), Int.toNat_natCast]
  rfl
theorem BS_room (B : BS n b l p m d hc hr) : p ≤ 2006 ∧ l ≤ 1000 ∧ m ≤ 1001 := by
  have := B.2.2.2.1
  have := B.1.2.2.1
  have := TK_len (n := n) (b := b)
  have := B.1.2.2.2.2.1.2.1
  omega
/-- a place of the code is set -/
theorem BS_17 {v : Int} {q : Nat} (B : BS n b l p m d hc hr) : BS n b l p m d (sI hc 17 q v) hr := BS_c B rfl (fun x j hx => by rw [hI_sI, if_neg (by omega)]) (by rw [hI_sI, if_neg (by omega)]; exact B.2.2.1.1) B.2.2.2.1.1
/-- the node of an if -/
theorem SM_j66 {c a f1 f2 : Int} {l' m1 : Nat} {C : List Int} (B : BS n b l' (p + C.length) m1 (d + 1) hc hr) (hd : d < 12) (h0 : m1 ≤ l') (h1 : C.length + 2 * l ≤ 2 * l') (h2 : m1 + 1 + l ≤ m + l') (h3 : m ≤ m1) (h4 : l < l') (h5 : c < hI hc 15 8) (h6 : cdA hc p C) (h9 : ∀ N : Nat → Nat → Int, (∀ t, t < m1 → ∀ j, j < 5 → N t j = nd hr t j) → N m1 0 = 27 → N m1 1 = a → N m1 2 = f1 → N m1 3 = f2 → SS N (BK N m (12 - d)) (12 - d = 12) p m1 C) : JJ p m hc hr (fun hc' hr' => ∃ l', SQ n b l p m d c l' hc' hr') (some (1, hc)) (c212_j66 a f1 f2 hr) := by
  obtain ⟨k0, B1⟩ := BS_cl B hd
  unfold c212_j66
  rw [k0]
  simp only [bsome]
  obtain ⟨hr5, n1, B6, f6, ⟨n2, n3, n4, n5, n6⟩, n7, -⟩ := BS_nt (s := 27) (x := a) (y := f1) (z := f2) (t := 22) (.inr rfl) B1 h0
  rw [n1]
  simp only [bsome]
  refine JJ_ok FC_rf (FR_mn (FR_tr (FR_sI (by omega)) f6) h3) (SQ_mk (i := m1) (hr1 := hr5) B6 rfl h1 h2 h3 h4 h5 h6 n7 n6 (h9 _ (fun t ht j hj => ?_) n2 n3 n4 n5))
  rw [nd_FR f6 ht hj]
  unfold nd
  rw [hI_sI, if_neg (by omega)]
theorem SM_if {c : Int} (IH : d < 12 → BP n b fc fr (d + 1)) (B : BS n b l (p + 1) m d hc hr) (hp : p ≤ 2 * l + 2) (hm : m ≤ l) (hd : d ≤ 12) (h1 : l + 1 < (TK n b).length) (hc8 : c < hI hc 15 8) (hA : cdA hc p [253]) : JJ p m hc hr (fun hc' hr' => ∃ l', SQ n b l p m d c l' hc' hr') (c66 (g63 fc) (d : Int) hc) (c212 (g210 fr) hr) := by
  unfold c66 c212
  by_cases q : d < 12
  · obtain ⟨a0, hr1, a1, a2, B1⟩ := BS_op B q h1
    rw [if_pos (show (d : Int) < 12 by omega), a1, a0, wadd_n (by omega)]
    simp only [bsome]
    rw [if_neg (show ¬ (1 : Int) = 0 by omega)]
    have fc1 : FC p hc (sI hc 15 3 ((l + 1 : Nat) : Int)) := FC_sI (by omega)
    obtain ⟨hc3, hr3, fc3, fr3, ⟨x1, x2, l3, m3, i, A, B3, ⟨c1, c2, c3, c4⟩, A3, t3, i3, E3⟩ | ⟨x1, x2, x3⟩⟩ := X0 (show d + 1 ≤ 12 by omega) _ _ _ _ _ B1 (by omega) (by omega)
    · have x1 : g67 120 67 [0, ((d + 1 : Nat) : Int)] (sI hc 15 3 ((l + 1 : Nat) : Int)) = some (1, hc3) := x1
      rw [x1, x2]
      simp only [bsome]
      rw [if_neg (show ¬ (1 : Int) = 0 by omega), if_neg (show ¬ (1 : Int) = 0 by omega)]
      obtain ⟨w1, B4⟩ := BS_w (v := 212) B3 (by omega)
      obtain ⟨w2, B5⟩ := BS_w (v := 0) B4 (by omega)
      have p7 := B4.2.2.1.1
      rw [w1]
      simp only [bsome]
      rw [w2]
      simp only [bsome]
      have fcA : FC p hc hc3 := FC_tr fc1 (FC_mn fc3 (by omega))
      have fcB := FC_tr fcA (FC_tr (FC_tr (FC_sI (p := p) (h := hc3) (x := 17) (i := p + 1 + A.length) (v := 212) (by omega)) (FC_sI (x := 15) (i := 7) (v := ((p + 1 + A.length + 1 : Nat) : Int)) (by omega))) (FC_tr (FC_sI (x := 17) (i := p + 1 + A.length + 1) (v := 0) (by omega)) (FC_sI (x := 15) (i := 7) (v := ((p + 1 + A.length + 1 + 1 : Nat) : Int)) (by omega))))
      have cA : cdA hc3 p ([253] ++ A) := cdA_app (cdA_cg hA (fun j hj => by
        have hj : j < p + 1 := hj
        rw [fc3.1.2 17 j (by omega), hI_sI, if_neg (by omega)])) A3
      have cB := cdA_sn (z := ((p + 1 + A.length + 1 + 1 : Nat) : Int)) (v := 0) (q := p + 1 + A.length + 1) (cdA_sn (z := ((p + 1 + A.length + 1 : Nat) : Int)) (v := 212) (q := p + 1 + A.length) cA (by simp; omega)) (by simp; omega)
      rw [p7]
      generalize sI (sI (sI (sI hc3 17 (p + 1 + A.length) 212) 15 7 ((p + 1 + A.length + 1 : Nat) : Int)) 17 (p + 1 + A.length + 1) 0) 15 7 ((p + 1 + A.length + 1 + 1 : Nat) : Int) = hc5 at B5 fcB cB ⊢
      obtain ⟨hc7, hr7, fc7, fr7, ⟨y1, y2, l7, m7, C1, B7, ⟨d1, d2, d3⟩, d4, A7, K7⟩ | ⟨y1, y2, y3⟩⟩ := IH q _ _ _ _ _ B5 (by omega)
      · rw [own_s] at y2
        rw [y1, y2]
        simp only [bsome]
        rw [if_neg (show ¬ (1 : Int) = 0 by omega), if_neg (show ¬ (1 : Int) = 0 by omega), t3]
        obtain ⟨s, v, q2, q3, q4, h7, -⟩ := BS_at B7
        have w13 := mtc q2
        rw [q3, q4]
        simp only [bsome]
        have cC : cdA hc7 p ([253] ++ A ++ [212] ++ 0 :: C1) := by
          have : [253] ++ A ++ [212] ++ 0 :: C1 = ([253] ++ A ++ [212] ++ [0]) ++ C1 := by simp
          rw [this]
          refine cdA_app (cdA_cg cB (fun j hj => fc7.1.2 17 j ?_)) ?_
          · simp at hj
            omega
          · have e9 : p + (([253] ++ A ++ [212] ++ [0]) : List Int).length = p + 1 + A.length + 1 + 1 := by simp; omega
            rw [e9]
            exact A7
        have fcC : FC p hc hc7 := FC_tr fcB (FC_mn fc7 (by omega))
        have frC : FR m hr hr7 := FR_tr a2 (FR_tr fr3 (FR_mn fr7 (by omega)))
        have rm := BS_room B7
        by_cases z : s = 213
        · obtain ⟨g0, hr8, g1, g2, B8⟩ := BS_adv B7 (h7 (by omega))
          rw [if_pos z, if_pos (show mt s = 113 by omega), g1, g0]
          simp only [bsome]
          obtain ⟨w3, B9⟩ := BS_w (v := 213) B8 (by omega)
          obtain ⟨w4, B10⟩ := BS_w (v := 0) B9 (by omega)
          have p12 := B9.2.2.1.1
          have p13 := B10.2.2.1.1
          rw [w3]
          simp only [bsome]
          rw [w4]
          simp only [bsome]
          have cD := cdA_sn (z := ((p + 1 + A.length + 1 + 1 + C1.length + 1 + 1 : Nat) : Int)) (v := 0) (q := p + 1 + A.length + 1 + 1 + C1.length + 1) (cdA_sn (z := ((p + 1 + A.length + 1 + 1 + C1.length + 1 : Nat) : Int)) (v := 213) (q := p + 1 + A.length + 1 + 1 + C1.length) (cdA_cg (h' := sI hc7 15 3 ((l7 + 1 : Nat) : Int)) cC (fun j hj => by rw [hI_sI, if_neg (by omega)])) (by simp; omega)) (by simp; omega)
          have fcD := FC_tr fcC (FC_tr (FC_sI (p := p) (h := hc7) (x := 15) (i := 3) (v := ((l7 + 1 : Nat) : Int)) (by omega)) (FC_tr (FC_tr (FC_sI (x := 17) (i := p + 1 + A.length + 1 + 1 + C1.length) (v := 213) (by omega)) (FC_sI (x := 15) (i := 7) (v := ((p + 1 + A.length + 1 + 1 + C1.length + 1 : Nat) : Int)) (by omega))) (FC_tr (FC_sI (x := 17) (i := p + 1 + A.length + 1 + 1 + C1.length + 1) (v := 0) (by omega)) (FC_sI (x := 15) (i := 7) (v := ((p + 1 + A.length + 1 + 1 + C1.length + 1 + 1 : Nat) : Int)) (by omega)))))
          rw [p12]
          generalize sI (sI (sI (sI (sI hc7 15 3 ((l7 + 1 : Nat) : Int)) 17 (p + 1 + A.length + 1 + 1 + C1.length) 213) 15 7 ((p + 1 + A.length + 1 + 1 + C1.length + 1 : Nat) : Int)) 17 (p + 1 + A.length + 1 + 1 + C1.length + 1) 0) 15 7 ((p + 1 + A.length + 1 + 1 + C1.length + 1 + 1 : Nat) : Int) = hc9 at B10 p13 cD fcD ⊢
          have w5 := c71_e (v := hI hc9 15 7) (q := p + 1 + A.length + 1) p13 (by omega) (by omega)
          rw [w5, p13]
          simp only [bsome]
          have cE := cdA_set (v := ((p + 1 + A.length + 1 + 1 + C1.length + 1 + 1 : Nat) : Int)) (q := p + 1 + A.length + 1) (X := [253] ++ A ++ [212]) (Y := C1 ++ [213] ++ [0]) (by have := cD; simp only [List.append_assoc, List.cons_append, List.nil_append] at this ⊢; exact this) (by simp; omega)
          have fcE : FC p hc _ := FC_tr fcD (FC_sI (x := 17) (i := p + 1 + A.length + 1) (v := ((p + 1 + A.length + 1 + 1 + C1.length + 1 + 1 : Nat) : Int)) (by omega))
          have B11 := BS_17 (v := ((p + 1 + A.length + 1 + 1 + C1.length + 1 + 1 : Nat) : Int)) (q := p + 1 + A.length + 1) B10
          generalize sI hc9 17 (p + 1 + A.length + 1) ((p + 1 + A.length + 1 + 1 + C1.length + 1 + 1 : Nat) : Int) = hc10 at B11 cE fcE ⊢
          obtain ⟨hc12, hr12, fc12, fr12, ⟨z1, z2, l12, m12, C2, B12, ⟨u1, u2, u3⟩, u4, A12, K12⟩ | ⟨z1, z2, z3⟩⟩ := IH q _ _ _ _ _ B11 (by omega)
          · rw [own_s] at z2
            rw [z1, z2]
            simp only [bsome]
            rw [if_neg (show ¬ (1 : Int) = 0 by omega), if_neg (show ¬ (1 : Int) = 0 by omega)]
            have rm2 := BS_room B12
            have p15 := B12.2.2.1.1
            have w6 := c71_e (v := hI hc12 15 7) (q := p + 1 + A.length + 1 + 1 + C1.length + 1) p15 (by omega) (by omega)
            rw [w6, p15]
            simp only [bsome]
            have B13 := BS_17 (v := ((p + 1 + A.length + 1 + 1 + C1.length + 1 + 1 + C2.length : Nat) : Int)) (q := p + 1 + A.length + 1 + 1 + C1.length + 1) B12
            have fcF : FC p hc (sI hc12 17 (p + 1 + A.length + 1 + 1 + C1.length + 1) ((p + 1 + A.length + 1 + 1 + C1.length + 1 + 1 + C2.length : Nat) : Int)) := FC_tr fcE (FC_tr (FC_mn fc12 (by omega)) (FC_sI (by omega)))
            have frF : FR m hr hr12 := FR_tr frC (FR_tr (FR_fj g2) (FR_mn fr12 (by omega)))
            have cF : cdA hc12 p (([253] ++ A ++ [212] ++ ((p + 1 + A.length + 1 + 1 + C1.length + 1 + 1 : Nat) : Int) :: (C1 ++ [213])) ++ (0 :: C2)) := by
              have e : ([253] ++ A ++ [212] ++ ((p + 1 + A.length + 1 + 1 + C1.length + 1 + 1 : Nat) : Int) :: (C1 ++ [213])) ++ (0 :: C2) = ([253] ++ A ++ [212] ++ ((p + 1 + A.length + 1 + 1 + C1.length + 1 + 1 : Nat) : Int) :: (C1 ++ [213] ++ [0])) ++ C2 := by simp
              rw [e]
              refine cdA_app (cdA_cg cE (fun j hj => fc12.1.2 17 j ?_)) ?_
              · simp at hj
                omega
              · have e9 : p + (([253] ++ A ++ [212] ++ ((p + 1 + A.length + 1 + 1 + C1.length + 1 + 1 : Nat) : Int) :: (C1 ++ [213] ++ [0])) : List Int).length = p + 1 + A.length + 1 + 1 + C1.length + 1 + 1 := by simp; omega
                rw [e9]
                exact A12
            have cG := cdA_set (v := ((p + 1 + A.length + 1 + 1 + C1.length + 1 + 1 + C2.length : Nat) : Int)) (q := p + 1 + A.length + 1 + 1 + C1.length + 1) cF (by simp; omega)
            refine JJ_re fcF frF (SM_j66 (l' := l12) (m1 := m12) (C := [253] ++ A ++ [212] ++ (((p + 5 + A.length + C1.length : Nat) : Int) :: (C1 ++ [213] ++ (((p + 5 + A.length + C1.length + C2.length : Nat) : Int) :: C2)))) ?_ q (by omega) ?_ (by omega) (by omega) (by omega) (Int.lt_of_lt_of_le hc8 fcF.2) ?_ (fun N eN N0 N1 N2 N3 => ?_)) (Nat.le_refl _) (Nat.le_refl _)
            · have e9 : p + (([253] ++ A ++ [212] ++ (((p + 5 + A.length + C1.length : Nat) : Int) :: (C1 ++ [213] ++ (((p + 5 + A.length + C1.length + C2.length : Nat) : Int) :: C2)))) : List Int).length = p + 1 + A.length + 1 + 1 + C1.length + 1 + 1 + C2.length := by simp; omega
              rw [e9]
              exact B13
            · simp
              omega
            · have e1 : p + 5 + A.length + C1.length = p + 1 + A.length + 1 + 1 + C1.length + 1 + 1 := by omega
              rw [e1]
              have := cG
              simp only [List.append_assoc, List.cons_append, List.nil_append] at this ⊢
              exact this
            · refine .inr (.inr (.inr (.inr (.inr (.inr ⟨N0, i, A, C1, N1, by omega, EX_cg E3 (fun t ht j hj => ?_), ?_, .inr ⟨C2, ?_, rfl⟩⟩)))))
              · rw [eN t (by omega) j (by omega), nd_FR fr12 (by omega) (by omega)]
                show hI hr8 399 _ = _
                rw [g2.2.2.1 399 _ (by omega)]
                exact nd_FR fr7 (by omega) (by omega)
              · rw [N2, show p + 3 + A.length = p + 1 + A.length + 1 + 1 by omega, show 12 - d = 13 - (d + 1) by omega]
                refine BK_lo (by omega) (BK_up (BK_c1 K7 (fun t ht j hj => ?_)) (by omega))
                rw [eN t (by omega) j (by omega), nd_FR fr12 (by omega) (by omega)]
                exact g2.2.2.1 399 _ (by omega)
              · rw [N3, show p + 5 + A.length + C1.length = p + 1 + A.length + 1 + 1 + C1.length + 1 + 1 by omega, show 12 - d = 13 - (d + 1) by omega]
                exact BK_lo (by omega) (BK_c1 K12 (fun t ht j hj => eN t ht j hj))
          · rw [own_s] at z2
            rw [z1, z2]
            simp only [bsome]
            exact JJ_no (FC_tr fcE (FC_mn fc12 (by omega))) (FR_tr frC (FR_tr (FR_fj g2) (FR_mn fr12 (by omega)))) z3
        · rw [if_neg z, if_neg (show ¬ mt s = 113 by omega)]
          have p7' := B7.2.2.1.1
          have w5 := c71_e (v := hI hc7 15 7) (q := p + 1 + A.length + 1) p7' (by omega) (by omega)
          rw [w5, p7']
          simp only [bsome]
          have B8 := BS_17 (v := ((p + 1 + A.length + 1 + 1 + C1.length : Nat) : Int)) (q := p + 1 + A.length + 1) B7
          have fcE : FC p hc (sI hc7 17 (p + 1 + A.length + 1) ((p + 1 + A.length + 1 + 1 + C1.length : Nat) : Int)) := FC_tr fcC (FC_sI (by omega))
          have cE := cdA_set (v := ((p + 1 + A.length + 1 + 1 + C1.length : Nat) : Int)) (q := p + 1 + A.length + 1) cC (by simp; omega)
          refine JJ_re fcE frC (SM_j66 (l' := l7) (m1 := m7) (C := [253] ++ A ++ [212] ++ (((p + 3 + A.length + C1.length : Nat) : Int) :: C1)) ?_ q (by omega) ?_ (by omega) (by omega) (by omega) (Int.lt_of_lt_of_le hc8 fcE.2) ?_ (fun N eN N0 N1 N2 N3 => ?_)) (Nat.le_refl _) (Nat.le_refl _)
          · have e9 : p + (([253] ++ A ++ [212] ++ (((p + 3 + A.length + C1.length : Nat) : Int) :: C1)) : List Int).length = p + 1 + A.length + 1 + 1 + C1.length := by simp; omega
            rw [e9]
            exact B8
          · simp
            omega
          · rw [show p + 3 + A.length + C1.length = p + 1 + A.length + 1 + 1 + C1.length by omega]
            exact cE
          · refine .inr (.inr (.inr (.inr (.inr (.inr ⟨N0, i, A, C1, N1, by omega, EX_cg E3 (fun t ht j hj => ?_), ?_, .inl ⟨N3, rfl⟩⟩)))))
            · rw [eN t (by omega) j (by omega)]
              exact nd_FR fr7 (by omega) (by omega)
            · rw [N2, show p + 3 + A.length = p + 1 + A.length + 1 + 1 by omega, show 12 - d = 13 - (d + 1) by omega]
              exact BK_lo (by omega) (BK_c1 K7 (fun t ht j hj => eN t ht j hj))
      · rw [own_s] at y2
        rw [y1, y2]
        simp only [bsome]
        exact JJ_no (FC_tr fcB (FC_mn fc7 (by omega))) (FR_tr a2 (FR_tr fr3 (FR_mn fr7 (by omega)))) y3
    · have x1 : g67 120 67 [0, ((d + 1 : Nat) : Int)] (sI hc 15 3 ((l + 1 : Nat) : Int)) = some (0, hc3) := x1
      rw [x1, x2]
      simp only [bsome]
      exact JJ_no (FC_tr fc1 (FC_mn fc3 (by omega))) (FR_tr a2 fr3) x3
  · obtain ⟨hc', hr', g1, g2, g3, g4, g5⟩ := BS_no (c := 3) B (by omega)
    have e : c213 hr = some (0, hr') := by
      unfold c213
      rw [B.2.2.1.2.2, if_pos (by omega), g2]
      rfl
    rw [if_neg (show ¬ (d : Int) < 12 by omega), e, g1]
    simp only [bsome]
    exact JJ_no (FC_mn g3 (by omega)) g4 g5
end ASK
