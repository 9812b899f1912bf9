/-! expressions: the class writes code, the other side lays nodes -/
/-- an expression read from token l to token l', with its code from p on, its nodes from m on -/
def XQe (se n : Nat) (b : Nat → Int) (l p m d S l' : Nat) (hc hr : hS) : Prop := ∃ (m' i : Nat) (C : List Int), BX se n b l' (p + C.length) m' d hc hr ∧ (C.length + 2 * l ≤ 2 * l' ∧ m' + l ≤ m + l' ∧ m < m' ∧ l < l') ∧ cdA hc p C ∧ hI hr 395 19 = (i : Int) ∧ i < m' ∧ EX (nd hr) (i + 1) S i C
def XPe (se n : Nat) (b : Nat → Int) (fc fr : Nat) (lv : Int) (kr S d : Nat) : Prop := ∀ (l p m : Nat) (hc hr : hS), BX se n b l p m d hc hr → p ≤ 2 * l + 2 → m ≤ l → JJ p m hc hr (fun hc' hr' => ∃ l', XQe se n b l p m d S l' hc' hr') (g67 fc 67 [lv, (d : Int)] hc) (g214 fr kr [] hr)
section XPR
variable {se n : Nat} {b : Nat → Int} {l p m d S S' l' fc fr kr : Nat} {hc hr : hS} {lv : Int}
theorem BX_w {v : Int} (B : BX se n b l p m d hc hr) (hp : p + 1 ≤ 2 * l + 4) : c65 v hc = some (sI (sI hc 17 p v) 15 7 ((p + 1 : Nat) : Int)) ∧ BX se n b l (p + 1) m d (sI (sI hc 17 p v) 15 7 ((p + 1 : Nat) : Int)) hr := by
  have hl := TK_len (n := n) (b := b)
  have hl2 := B.1.2.2.1
  have hn := B.1.2.2.2.2.1.2.1
  refine ⟨c65_e B.2.2.1.1 (by omega), BS_c B rfl (fun x j hx => by rw [hI_sI, if_neg (by omega), hI_sI, if_neg (by omega)]) (by rw [hI_sI, if_pos ⟨rfl, rfl⟩]) (by omega)⟩
theorem XQ_upe (h : XQe se n b l p m d S l' hc hr) (e : S ≤ S') : XQe se n b l p m d S' l' hc hr := by
  obtain ⟨m', i, C, h1, h2, h3, h4, h5, h6⟩ := h
  exact ⟨m', i, C, h1, h2, h3, h4, h5, EX_up h6 (Nat.le_refl _) e⟩
theorem XP_upe (h : XPe se n b fc fr lv kr S d) (e : S ≤ S') : XPe se n b fc fr lv kr S' d := fun l p m hc hr B hp hm => JJ_im (h l p m hc hr B hp hm) (fun _ _ _ _ ⟨l', q⟩ => ⟨l', XQ_upe q e⟩)
/-- a leaf: its code, its node -/
theorem XQ_leafe {s v : Int} {hr2 : hS} {C : List Int} {cl : Nat} (sS : 1 ≤ S) (hcl : C.length = cl) (B : BX se n b (l + 1) (p + cl) (m + 1) d hc hr2) (hC : cl ≤ 2) (a : cdA hc p C) (e19 : hI hr2 395 19 = (m : Int)) (e : (s = 1 ∧ C = [2, v]) ∨ (s = 2 ∧ C = [1, v] ∧ 0 ≤ v ∧ v < 40) ∨ (s = 3 ∧ C = [214]) ∨ (s = 4 ∧ C = [215])) (e0 : nd hr2 m 0 = s) (e1 : nd hr2 m 1 = v) : XQe se n b l p m d S (l + 1) hc hr2 := by
  subst hcl
  refine ⟨m + 1, m, C, B, ⟨by omega, by omega, by omega, by omega⟩, a, e19, by omega, sS, ?_⟩
  rw [e0, e1]
  rcases e with e | e | e | e
  · exact .inl e
  · exact .inr (.inl e)
  · exact .inr (.inr (.inl e))
  · exact .inr (.inr (.inr (.inl e)))
/-- v and last -/
theorem XU_ve {s sN : Int} (B : BX se n b l p m d hc hr) (hp : p ≤ 2 * l + 2) (hm : m ≤ l) (sS : 1 ≤ S) (h1 : l + 1 < (TK n b).length) (hs : (s = 214 ∧ sN = 3) ∨ (s = 215 ∧ sN = 4)) : JJ p m hc hr (fun hc' hr' => ∃ l', XQe se n b l p m d S l' hc' hr') (c68_j123 s hc) (c217_j97 sN hr) := by
  obtain ⟨w1, B1⟩ := BX_w (v := s) B (by omega)
  obtain ⟨hr1, n1, B2, f2, ⟨n2, n3, -⟩, n4, -⟩ := BS_nt (s := sN) (x := 0) (y := 0) (z := 0) (t := 19) (.inl rfl) B1 hm
  obtain ⟨a0, hr3, a1, a2, B3⟩ := BS_adv B2 h1
  unfold c68_j123 c217_j97
  refine JJ_l w1 (JJ_l rfl (JJ_r n1 (JJ_r rfl (JJ_r a1 ?_))))
  rw [a0]
  refine JJ_ok (FC_tr (FC_tr (FC_sI (by omega)) (FC_sI (by omega))) (FC_sI (by omega))) (FR_tr f2 (FR_fj a2)) ⟨l + 1, XQ_leafe (s := sN) (v := 0) (C := [s]) (cl := 1) sS rfl B3 (by omega) ?_ ?_ ?_ ?_ ?_⟩
  · exact cdA_cg (cdA_one (h := hc)) (fun j hj => by rw [hI_sI, if_neg (by omega)])
  · rw [a2.2.2.1 395 19 (by omega)]; exact n4
  · rcases hs with ⟨rfl, rfl⟩ | ⟨rfl, rfl⟩
    · exact .inr (.inr (.inl ⟨rfl, rfl⟩))
    · exact .inr (.inr (.inr ⟨rfl, rfl⟩))
  · show hI hr3 399 _ = _
    rw [a2.2.2.1 399 _ (by omega)]; exact n2
  · show hI hr3 399 _ = _
    rw [a2.2.2.1 399 _ (by omega)]; exact n3
/-- a bracket or a sign ahead -/
theorem XU_oe (B : BX se n b l p m d hc hr) (hd : d ≤ 12) (hp : p ≤ 2 * l + 2) (hm : m ≤ l) (h1 : l + 1 < (TK n b).length) (hE : d < 12 → XPe se n b fc fr 0 214 S (d + 1)) (hU : d < 12 → XPe se n b fc fr 3 217 S (d + 1)) (sS : S + 1 ≤ S') :
    JJ p m hc hr (fun hc' hr' => ∃ l', XQe se n b l p m d S' l' hc' hr') (c69 (g67 fc) 40 (d : Int) hc) ((c213 hr).bind (fun v13 => if v13.1 = 0 then some (0, v13.2) else (g214 fr 214 [] v13.2).bind (fun v15 => if v15.1 = 0 then some (0, v15.2) else (c202 41 v15.2).bind (fun v17 => if v17.1 = 0 then some (0, v17.2) else (some (sI v17.2 395 18 (wsub (hI v17.2 395 18) 1))).bind (fun h19 => some (1, h19))))))
    ∧ JJ p m hc hr (fun hc' hr' => ∃ l', XQe se n b l p m d S' l' hc' hr') (c69 (g67 fc) 45 (d : Int) hc) ((c213 hr).bind (fun v22 => if v22.1 = 0 then some (0, v22.2) else (g214 fr 217 [] v22.2).bind (fun v24 => if v24.1 = 0 then some (0, v24.2) else (some (sI v24.2 395 18 (wsub (hI v24.2 395 18) 1))).bind (fun h26 => (c218 5 (hI h26 395 19) 0 0 h26).bind (fun v27 => (some (sI v27.2 395 19 v27.1)).bind (fun h28 => some (1, h28))))))) := by
  unfold c69
  by_cases q : d < 12
  · obtain ⟨a0, hr1, a1, a2, B1⟩ := BS_op B q h1
    rw [if_pos (show (d : Int) < 12 by omega), if_pos (show (d : Int) < 12 by omega), a1, a0, wadd_n (by omega)]
    simp only [bsome]
    have fc1 : FC p hc (sI hc 15 3 ((l + 1 : Nat) : Int)) := FC_sI (by omega)
    refine ⟨?_, ?_⟩
    · rw [if_pos trivial, if_neg (show ¬ (1 : Int) = 0 by omega)]
      refine JJ_re fc1 a2 (JJ_b (hE q _ _ _ _ _ B1 (by omega) (by omega)) (Nat.le_refl _) (Nat.le_refl _) (fun hc2 hr2 f2 r2 Q2 => ?_)) (Nat.le_refl _) (Nat.le_refl _)
      obtain ⟨l2, m2, i, C, B2, ⟨c1, c2, c3, c4⟩, A2, t2, i2, E2⟩ := Q2
      refine JJ_b (BS_ps B2 (c := 41) rfl) (by omega) (by omega) (fun hc3 hr3 f3 r3 Q3 => ?_)
      obtain ⟨B3, rfl, j3⟩ := Q3
      obtain ⟨k0, B4⟩ := BS_cl B3 q
      simp only [bsome]
      rw [k0]
      refine JJ_ok FC_rf (FR_sI (by omega)) ⟨l2 + 1, m2, i, C, B4, ⟨by omega, by omega, by omega, by omega⟩, cdA_cg A2 (fun j hj => by rw [hI_sI, if_neg (by omega)]), ?_, i2, EX_up (EX_cg E2 (fun t ht j hj => ?_)) (Nat.le_refl _) (by omega)⟩
      · rw [hI_sI, if_neg (by omega), j3.2.2.1 395 19 (by omega)]; exact t2
      · unfold nd
        rw [hI_sI, if_neg (by omega), j3.2.2.1 399 _ (by omega)]
    · rw [if_neg (show ¬ (45 : Int) = 40 by omega), if_neg (show ¬ (1 : Int) = 0 by omega)]
      refine JJ_re fc1 a2 (JJ_b (hU q _ _ _ _ _ B1 (by omega) (by omega)) (Nat.le_refl _) (Nat.le_refl _) (fun hc2 hr2 f2 r2 Q2 => ?_)) (Nat.le_refl _) (Nat.le_refl _)
      obtain ⟨l2, m2, i, C, B2, ⟨c1, c2, c3, c4⟩, A2, t2, i2, E2⟩ := Q2
      obtain ⟨k0, B3⟩ := BS_cl B2 q
      obtain ⟨w1, B4⟩ := BX_w (v := 252) B3 (by omega)
      refine JJ_l w1 ?_
      simp only [bsome]
      rw [k0]
      have t3 : hI (sI hr2 395 18 (d : Int)) 395 19 = (i : Int) := by rw [hI_sI, if_neg (by omega)]; exact t2
      rw [t3]
      obtain ⟨hr5, n1, B5, f5, ⟨n2, n3, -⟩, n4, -⟩ := BS_nt (s := 5) (x := (i : Int)) (y := 0) (z := 0) (t := 19) (.inl rfl) B4 (by omega)
      refine JJ_r n1 (JJ_r rfl ?_)
      refine JJ_ok (FC_tr (FC_sI (by omega)) (FC_sI (by omega))) (FR_mn (FR_tr (FR_sI (by omega)) f5) (by omega)) ⟨l2, m2 + 1, m2, C ++ [252], ?_, ⟨?_, by omega, by omega, by omega⟩, cdA_sn A2 rfl, n4, by omega, ?_⟩
      · rw [List.length_append, ← Nat.add_assoc]
        exact B5
      · rw [List.length_append]
        show C.length + 1 + 2 * l ≤ 2 * l2
        omega
      · refine ⟨by omega, .inr (.inr (.inr (.inr (.inl ⟨n2, i, C, n3, i2, ?_, rfl⟩))))⟩
        refine EX_up (EX_cg E2 (fun t ht j hj => ?_)) (by omega) (by omega)
        rw [nd_FR f5 (by omega) (by omega)]
        unfold nd
        rw [hI_sI, if_neg (by omega)]
  · obtain ⟨hc', hr', g1, g2, g3, g4, g5⟩ := BS_no (c := 3) B (by omega)
    have e : c213 hr = some (0, hr') := by
      unfold c213
      rw [B.2.2.1.2.2, if_pos (by omega), g2]
      rfl
    rw [if_neg (show ¬ (d : Int) < 12 by omega), if_neg (show ¬ (d : Int) < 12 by omega), e, g1]
    simp only [bsome]
    rw [if_pos trivial, if_pos trivial]
    exact ⟨JJ_no g3 g4 g5, JJ_no g3 g4 g5⟩
/-- a unit -/
theorem XUe (hd : d ≤ 12) (hE : d < 12 → XPe se n b fc fr 0 214 S (d + 1)) (hU : d < 12 → XPe se n b fc fr 3 217 S (d + 1)) (sS : S + 1 ≤ S') : XPe se n b (fc + 3) (fr + 1) 3 217 S' d := by
  intro l p m hc hr B hp hm
  rw [g67_67, g214_217]
  unfold c67
  rw [if_neg (show ¬ (3 : Int) < 3 by omega)]
  refine JJ_kl ?_
  rw [g67_68]
  obtain ⟨s, v, q2, q3, q4, h1, q7, q9⟩ := BS_at B
  have w := mtc q2
  have e45 := c203_e (hr := hr) q2 q4 (c := 45) rfl
  have e40 := c203_e (hr := hr) q2 q4 (c := 40) rfl
  unfold c68 c217
  refine JJ_l q3 ?_
  rw [q4]
  by_cases z1 : s = 1
  · subst z1
    rw [if_pos rfl, if_neg (show ¬ mt 1 = 3 by omega), if_pos (show mt 1 = 2 from rfl)]
    obtain ⟨f, v, hc1, hr1, g1, g2, fc1, fr1, g⟩ := BS_nm B
    rcases g with ⟨rfl, v1, v2, B1, f1, f2⟩ | ⟨rfl, rfl, L1, e7⟩
    · obtain ⟨w1, B2⟩ := BX_w (v := 1) B1 (by omega)
      obtain ⟨w2, B3⟩ := BX_w (v := v) B2 (by omega)
      obtain ⟨hr5, n1, B5, f5, ⟨n2, n3, -⟩, n4, -⟩ := BS_nt (s := 2) (x := v) (y := 0) (z := 0) (t := 19) (.inl rfl) B3 (by omega)
      refine JJ_l g1 (JJ_r g2 (JJ_l w1 (JJ_l w2 (JJ_el (show ¬ v = -1 by omega) (JJ_er (show ¬ (1 : Int) = 0 by omega) ?_)))))
      show JJ p m hc hr _ _ ((c218 2 (hI hr1 395 17) 0 0 hr1).bind _)
      rw [v2]
      refine JJ_r n1 (JJ_r rfl ?_)
      refine JJ_ok (FC_tr fc1 (FC_tr (FC_tr (FC_sI (by omega)) (FC_sI (by omega))) (FC_tr (FC_sI (by omega)) (FC_sI (by omega))))) (FR_tr fr1 f5) ⟨l + 1, XQ_leafe (s := 2) (v := v) (C := [1, v]) (cl := 2) (by omega) rfl B5 (by omega) cdA_two n4 (.inr (.inl ⟨rfl, rfl, v1.1, v1.2⟩)) n2 n3⟩
    · have w1 := c65_e (v := 1) e7 (by have := B.2.2.2.1.1; have := B.1.2.2.1; have := TK_len (n := n) (b := b); have := B.1.2.2.2.2.1.2.1; omega)
      have w2 := c65_e (hc := sI (sI hc1 17 p 1) 15 7 ((p + 1 : Nat) : Int)) (v := -1) (p := p + 1) (by rw [hI_sI, if_pos ⟨rfl, rfl⟩]) (by have := B.2.2.2.1.1; have := B.1.2.2.1; have := TK_len (n := n) (b := b); have := B.1.2.2.2.2.1.2.1; omega)
      refine JJ_l g1 (JJ_r g2 (JJ_l w1 (JJ_l w2 (JJ_il (show (-1 : Int) = -1 from rfl) (JJ_ir (show (0 : Int) = 0 from rfl) ?_)))))
      exact JJ_no (FC_tr fc1 (FC_tr (FC_tr (FC_sI (by omega)) (FC_sI (by omega))) (FC_tr (FC_sI (by omega)) (FC_sI (by omega))))) fr1 (FL_w (FL_w L1))
  · rw [if_neg (show ¬ (1 : Int) = s by omega)]
    by_cases z2 : s = 2
    · subst z2
      rw [if_pos rfl, if_pos (show mt 2 = 3 from rfl)]
      obtain ⟨w1, B1⟩ := BX_w (v := 2) B (by omega)
      obtain ⟨w2, B2⟩ := BX_w (v := v) B1 (by omega)
      obtain ⟨hr5, n1, B5, f5, ⟨n2, n3, -⟩, n4, -⟩ := BS_nt (s := 1) (x := v) (y := 0) (z := 0) (t := 19) (.inl rfl) B2 hm
      obtain ⟨a0, hr3, a1, a2, B6⟩ := BS_adv B5 (h1 (by omega))
      have ea : aIs (sI (sI hc 17 p 2) 15 7 ((p + 1 : Nat) : Int)) 13 1001 (hI (sI (sI hc 17 p 2) 15 7 ((p + 1 : Nat) : Int)) 15 3) = some v := by
        have hl := TK_len (n := n) (b := b)
        have hl2 := B.1.2.2.1
        have hn := B.1.2.2.2.2.1.2.1
        rw [B1.1.2.1, aIs_s (by omega) (by omega), Int.toNat_natCast, hI_sI, if_neg (by omega), hI_sI, if_neg (by omega), q7]
      rw [q9 rfl]
      refine JJ_l w1 (JJ_l ea (JJ_l w2 (JJ_l rfl (JJ_r n1 (JJ_r rfl (JJ_r a1 ?_))))))
      rw [a0]
      refine JJ_ok (FC_tr (FC_tr (FC_tr (FC_sI (by omega)) (FC_sI (by omega))) (FC_tr (FC_sI (by omega)) (FC_sI (by omega)))) (FC_sI (by omega))) (FR_tr f5 (FR_fj a2)) ⟨l + 1, XQ_leafe (s := 1) (v := v) (C := [2, v]) (cl := 2) (by omega) rfl B6 (by omega) (cdA_cg (cdA_two (hc := hc)) (fun j hj => by rw [hI_sI, if_neg (by omega)])) ?_ (.inl ⟨rfl, rfl⟩) ?_ ?_⟩
      · rw [a2.2.2.1 395 19 (by omega)]; exact n4
      · show hI hr3 399 _ = _
        rw [a2.2.2.1 399 _ (by omega)]; exact n2
      · show hI hr3 399 _ = _
        rw [a2.2.2.1 399 _ (by omega)]; exact n3
    · rw [if_neg (show ¬ (2 : Int) = s by omega), if_neg (show ¬ mt s = 3 by omega), if_neg (show ¬ mt s = 2 by omega)]
      by_cases z3 : s = 40
      · subst z3
        rw [if_pos rfl, if_neg (show ¬ mt 40 = 114 by omega), if_neg (show ¬ mt 40 = 115 by omega)]
        refine JJ_r e45 (JJ_ir (show (if (40 : Int) = 45 then (1 : Int) else 0) = 0 from rfl) (JJ_r e40 (JJ_er (show ¬ (if (40 : Int) = 40 then (1 : Int) else 0) = 0 from by decide) ?_)))
        unfold c68_j140
        refine JJ_kl ?_
        rw [g67_69]
        exact (XU_oe B hd hp hm (h1 (by omega)) hE hU sS).1
      · rw [if_neg (show ¬ (40 : Int) = s by omega)]
        by_cases z4 : s = 45
        · subst z4
          rw [if_pos rfl, if_neg (show ¬ mt 45 = 114 by omega), if_neg (show ¬ mt 45 = 115 by omega)]
          refine JJ_r e45 (JJ_er (show ¬ (if (45 : Int) = 45 then (1 : Int) else 0) = 0 from by decide) ?_)
          unfold c68_j140
          refine JJ_kl ?_
          rw [g67_69]
          exact (XU_oe B hd hp hm (h1 (by omega)) hE hU sS).2
        · rw [if_neg (show ¬ (45 : Int) = s by omega)]
          by_cases z5 : s = 214
          · subst z5
            rw [if_pos rfl, if_pos (show mt 214 = 114 from rfl)]
            unfold c217_j81
            rw [if_pos (show hI hr 395 3 = 114 from q4)]
            exact XU_ve B hp hm (by omega) (h1 (by omega)) (.inl ⟨rfl, rfl⟩)
          · rw [if_neg (show ¬ (214 : Int) = s by omega), if_neg (show ¬ mt s = 114 by omega)]
            by_cases z6 : s = 215
            · subst z6
              rw [if_pos rfl, if_pos (show mt 215 = 115 from rfl)]
              unfold c217_j81
              rw [if_neg (show ¬ hI hr 395 3 = 114 from by rw [q4]; decide)]
              exact XU_ve B hp hm (by omega) (h1 (by omega)) (.inr ⟨rfl, rfl⟩)
            · rw [if_neg (show ¬ (215 : Int) = s by omega), if_neg (show ¬ mt s = 115 by omega)]
              refine JJ_r e45 (JJ_ir (if_neg z4) (JJ_r e40 (JJ_ir (if_neg z3) ?_)))
              refine JJ_kl (JJ_kr ?_)
              obtain ⟨hc', hr', g1, g2, g3, g4, g5⟩ := BS_no (c := 1) B (by omega)
              rw [g1, g2]
              exact JJ_no g3 g4 g5
/-- an expression is joined with the next one -/
theorem XCe {s sN lv' : Int} {kr' S1 : Nat} (A : XQe se n b l p m d S l' hc hr) (hp : p ≤ 2 * l + 2) (hm : m ≤ l) (h1 : l' + 1 < (TK n b).length) (hop : opR sN s) (IH : XPe se n b fc fr lv' kr' S1 d) (sS : S1 + 1 ≤ S) :
    wadd (hI hc 15 3) 1 = ((l' + 1 : Nat) : Int) ∧ ∃ hr1, c188 hr = some hr1 ∧ ((∃ (hc2 hr2 hc3 hr3 : hS) (t : Int) (l2 : Nat), g67 fc 67 [lv', (d : Int)] (sI hc 15 3 ((l' + 1 : Nat) : Int)) = some (1, hc2) ∧ g214 fr kr' [] hr1 = some (1, hr2) ∧ c65 s hc2 = some hc3 ∧ c218 sN (hI hr 395 19) (hI hr2 395 19) 0 hr2 = some (t, hr3) ∧ FC p hc hc3 ∧ FR m hr (sI hr3 395 19 t) ∧ XQe se n b l p m d S l2 hc3 (sI hr3 395 19 t) ∧ l' + 2 ≤ l2)
    ∨ (∃ (hc2 hr2 : hS), g67 fc 67 [lv', (d : Int)] (sI hc 15 3 ((l' + 1 : Nat) : Int)) = some (0, hc2) ∧ g214 fr kr' [] hr1 = some (0, hr2) ∧ FC p hc hc2 ∧ FR m hr hr2 ∧ FL hc2 hr2)) := by
  obtain ⟨mA, i, CA, BA, ⟨c1, c2, c3, c4⟩, AA, tA, iA, EA⟩ := A
  obtain ⟨a0, hr1, a1, a2, B1⟩ := BS_adv BA h1
  refine ⟨a0, hr1, a1, ?_⟩
  obtain ⟨hc2, hr2, f2, r2, ⟨e1, e2, l2, mB, j, CB, BB, ⟨d1, d2, d3, d4⟩, AB, tB, jB, EB⟩ | ⟨e1, e2, e3⟩⟩ := IH _ _ _ _ _ B1 (by omega) (by omega)
  · obtain ⟨w1, B4⟩ := BX_w (v := s) BB (by omega)
    obtain ⟨hr5, n1, B5, f5, ⟨n2, n3, n4, -⟩, n5, -⟩ := BS_nt (s := sN) (x := hI hr 395 19) (y := hI hr2 395 19) (z := 0) (t := 19) (.inl rfl) B4 (by omega)
    refine .inl ⟨hc2, hr2, _, hr5, _, l2, e1, e2, w1, n1, ?_, ?_, ?_, by omega⟩
    · exact FC_tr (FC_sI (by omega)) (FC_tr (FC_mn f2 (by omega)) (FC_tr (FC_sI (by omega)) (FC_sI (by omega))))
    · exact FR_tr (FR_fj a2) (FR_tr (FR_mn r2 (by omega)) (FR_mn f5 (by omega)))
    · refine ⟨mB + 1, mB, CA ++ (CB ++ [s]), ?_, ⟨?_, by omega, by omega, by omega⟩, ?_, n5, by omega, by omega, .inr (.inr (.inr (.inr (.inr ⟨i, j, CA, CB, s, ?_, ?_, by omega, jB, ?_, ?_, ?_, rfl⟩))))⟩
      · rw [show p + (CA ++ (CB ++ [s])).length = p + CA.length + CB.length + 1 by simp; omega]
        exact B5
      · simp only [List.length_append, List.length_cons, List.length_nil]
        omega
      · refine cdA_app (cdA_cg AA (fun j' hj => ?_)) (cdA_sn AB rfl)
        rw [hI_sI, if_neg (by omega), hI_sI, if_neg (by omega), f2.1.2 17 j' (by omega), hI_sI, if_neg (by omega)]
      · rw [n3]; exact tA
      · rw [n4]; exact tB
      · rw [n2]; exact hop
      · refine EX_up (EX_cg EA (fun t ht j' hj => ?_)) (by omega) (Nat.le_refl _)
        rw [nd_FR f5 (by omega) (by omega), nd_FR r2 (by omega) (by omega)]
        exact a2.2.2.1 399 _ (by omega)
      · refine EX_up (EX_cg EB (fun t ht j' hj => ?_)) (by omega) (by omega)
        rw [nd_FR f5 (by omega) (by omega)]
  · refine .inr ⟨hc2, hr2, e1, e2, FC_tr (FC_sI (by omega)) (FC_mn f2 (by omega)), FR_tr (FR_fj a2) (FR_mn r2 (by omega)), e3⟩
/-- products and sums: both loops -/
theorem XLe {kr' S1 : Nat} {lv' o1 o2 s1 s2 : Int} {g : hS → Option (hS ⊕ (hS ⊕ (Int × hS)))} (IH : XPe se n b fc fr lv' kr' S1 d) (sS : S1 + 1 ≤ S) (hlv : wadd lv 1 = lv') (r1 : opR s1 o1) (r2 : opR s2 o2) (jn : ∀ s h, c70 lv s h = some (if s = o1 ∨ s = o2 then 1 else 0))
    (gx : ∀ s hr, (VS s ∨ s = 4) → hI hr 395 3 = mt s → (¬ (s = o1 ∨ s = o2) → g hr = some (.inr (.inl hr))) ∧ ∀ sN, (s = o1 ∧ sN = s1 ∨ s = o2 ∧ sN = s2) → g hr = (c188 hr).bind (fun h7 => (g214 fr kr' [] h7).bind (fun v8 => if v8.1 = 0 then some (.inr (.inr (0, v8.2))) else (c218 sN (hI hr 395 19) (hI v8.2 395 19) 0 v8.2).bind (fun v10 => (some (sI v10.2 395 19 v10.1)).bind (fun h11 => some (.inl (h11)))))))
    (hp : p ≤ 2 * l + 2) (hm : m ≤ l) (A : XQe se n b l p m d S l' hc hr) :
    JJ p m hc hr (fun hc' hr' => ∃ l', XQe se n b l p m d S l' hc' hr') (c67_j35 (g67 fc) 1000 lv (d : Int) hc) ((lp (fun s => g s) hF0 hr).bind (fun r14 => xs r14 (fun x14 => some (1, x14)) (fun o14 => some o14))) := by
  have hl := TK_len (n := n) (b := b)
  have hnn : n ≤ 1000 := by obtain ⟨_, _, _, B, -⟩ := A; exact B.1.2.2.2.2.1.2.1
  unfold c67_j35
  have key := lp_two (f := fun s : Int × hS => c67_b39 (g67 fc) lv (d : Int) 1000 s.1 s.2) (g := fun s => g s)
    (fun k s t => ∃ (i q : Nat), s.1 = (i : Int) ∧ XQe se n b l p m d S q s.2 t ∧ FC p hc s.2 ∧ FR m hr t ∧ 2 * i ≤ q ∧ k + q = 1002)
    (fun x y => FC p hc x ∧ FR m hr y ∧ ∃ q, XQe se n b l p m d S q x y) (fun x y => FC p hc x ∧ FR m hr y ∧ FL x y) ?_ hF0 (1002 - l') (0, hc) hr ?_ (hF0_lt (by omega))
  · rcases key with ⟨x, y, e1, e2, e3, e4, e5⟩ | ⟨x, y, e1, e2, e3, e4, e5⟩
    · rw [e1, e2]
      exact JJ_ok e3 e4 e5
    · rw [e1, e2]
      exact JJ_no e3 e4 e5
  · rintro k ⟨i0, h⟩ t ⟨i, q, hi, A, f1, f2, hiq, hk⟩
    have hi : i0 = (i : Int) := hi
    subst hi
    have A : XQe se n b l p m d S q h t := A
    have f1 : FC p hc h := f1
    have hq : q < (TK n b).length := by obtain ⟨_, _, _, B, -⟩ := A; exact B.1.2.2.1
    obtain ⟨s, v, q2, q3, q4, h1, -⟩ : ∃ (s v : Int), (VS s ∨ s = 4) ∧ c39 h = some s ∧ hI t 395 3 = mt s ∧ (s ≠ 4 → q + 1 < (TK n b).length) ∧ True := by
      obtain ⟨_, _, _, B, -⟩ := A
      obtain ⟨s, v, q2, q3, q4, h1, -⟩ := BS_at B
      exact ⟨s, v, q2, q3, q4, h1, trivial⟩
    obtain ⟨x1, x2⟩ := gx s t q2 q4
    show (∃ x y, c67_b39 (g67 fc) lv (d : Int) 1000 (i : Int) h = _ ∧ _) ∨ (∃ hc hr, c67_b39 (g67 fc) lv (d : Int) 1000 (i : Int) h = _ ∧ _) ∨ (∃ k' s' t', c67_b39 (g67 fc) lv (d : Int) 1000 (i : Int) h = _ ∧ _)
    unfold c67_b39
    rw [if_neg (show ¬ (1000 : Int) ≤ (i : Int) by omega), q3]
    simp only [bsome]
    rw [jn]
    simp only [bsome]
    by_cases z : s = o1 ∨ s = o2
    · obtain ⟨sN, hN, hop⟩ : ∃ sN, (s = o1 ∧ sN = s1 ∨ s = o2 ∧ sN = s2) ∧ opR sN s := by
        rcases z with z | z
        · exact ⟨s1, .inl ⟨z, rfl⟩, by rw [z]; exact r1⟩
        · exact ⟨s2, .inr ⟨z, rfl⟩, by rw [z]; exact r2⟩
      rw [if_pos z, if_neg (show ¬ (1 : Int) = 0 by omega), x2 sN hN, hlv]
      obtain ⟨a0, hr1, a1, ⟨hc2, hr2, hc3, hr3, t3, l2, e1, e2, e3, e4, e5, e6, e7, e8⟩ | ⟨hc2, hr2, e1, e2, e3, e4, e5⟩⟩ := XCe (sN := sN) A hp hm (h1 (opR_ne hop)) hop IH sS
      · have hl2 : l2 < (TK n b).length := by obtain ⟨_, _, _, B, -⟩ := e7; exact B.1.2.2.1
        rw [a0, a1]
        simp only [bsome]
        rw [e1, e2]
        simp only [bsome]
        rw [if_neg (show ¬ (1 : Int) = 0 by omega), if_neg (show ¬ (1 : Int) = 0 by omega), e3, e4]
        simp only [bsome]
        refine .inr (.inr ⟨1002 - l2, _, _, rfl, rfl, by omega, i + 1, l2, ?_, e7, FC_tr f1 e5, FR_tr f2 e6, by omega, by omega⟩)
        exact wadd_n (by omega)
      · rw [a0, a1]
        simp only [bsome]
        rw [e1, e2]
        simp only [bsome]
        exact .inr (.inl ⟨_, _, rfl, rfl, FC_tr f1 e3, FR_tr f2 e4, e5⟩)
    · rw [if_neg z, if_pos rfl, x1 z]
      exact .inl ⟨_, _, rfl, rfl, f1, f2, q, A⟩
  · have hq : l' < (TK n b).length := by obtain ⟨_, _, _, B, -⟩ := A; exact B.1.2.2.1
    exact ⟨0, l', rfl, A, FC_rf, FR_rf, by omega, by omega⟩
theorem XL2e {S1 : Nat} (IH : XPe se n b fc fr 3 217 S1 d) (sS : S1 + 1 ≤ S) : XPe se n b (fc + 1) (fr + 1) 2 216 S d := by
  intro l p m hc hr B hp hm
  rw [g67_67, g214_216]
  unfold c67 c216
  rw [if_pos (show (2 : Int) < 3 by omega), show wadd 2 1 = 3 from rfl]
  refine JJ_b (XP_upe IH (Nat.le_of_lt sS) l p m hc hr B hp hm) (Nat.le_refl _) (Nat.le_refl _) (fun hc2 hr2 f2 r2 Q2 => ?_)
  obtain ⟨l2, Q2⟩ := Q2
  refine JJ_el (show ¬ (2 : Int) = 0 by omega) ?_
  refine XLe (g := fun s => c216_b9 (g214 fr) s) (o1 := 42) (o2 := 47) (s1 := 12) (s2 := 13) IH sS rfl (.inr (.inr (.inl ⟨rfl, rfl⟩))) (.inr (.inr (.inr (.inl ⟨rfl, rfl⟩)))) (fun s h => ?_) (fun s hr q2 q4 => ⟨fun z => ?_, fun sN hN => ?_⟩) hp hm Q2
  · unfold c70 c70_j77
    rw [if_neg (by omega), if_neg (by omega)]
    by_cases z1 : s = 42
    · rw [if_pos z1, if_pos (.inl z1)]
    · by_cases z2 : s = 47
      · rw [if_neg z1, if_pos z2, if_pos (.inr z2)]
      · rw [if_neg z1, if_neg z2, if_neg (by omega)]
  · show c216_b9 (g214 fr) hr = _
    unfold c216_b9
    rw [c203_0 q2 q4 (c := 42) rfl (by omega), c203_0 q2 q4 (c := 47) rfl (by omega)]
    rfl
  · show c216_b9 (g214 fr) hr = _
    unfold c216_b9 c216_j27 c216_j43
    rcases hN with ⟨z, rfl⟩ | ⟨z, rfl⟩
    · rw [c203_1 q2 q4 (c := 42) rfl z]
      rfl
    · rw [c203_0 q2 q4 (c := 42) rfl (by omega), c203_1 q2 q4 (c := 47) rfl z]
      rfl
theorem XL1e {S1 : Nat} (IH : XPe se n b fc fr 2 216 S1 d) (sS : S1 + 1 ≤ S) : XPe se n b (fc + 1) (fr + 1) 1 215 S d := by
  intro l p m hc hr B hp hm
  rw [g67_67, g214_215]
  unfold c67 c215
  rw [if_pos (show (1 : Int) < 3 by omega), show wadd 1 1 = 2 from rfl]
  refine JJ_b (XP_upe IH (Nat.le_of_lt sS) l p m hc hr B hp hm) (Nat.le_refl _) (Nat.le_refl _) (fun hc2 hr2 f2 r2 Q2 => ?_)
  obtain ⟨l2, Q2⟩ := Q2
  refine JJ_el (show ¬ (1 : Int) = 0 by omega) ?_
  refine XLe (g := fun s => c215_b9 (g214 fr) s) (o1 := 43) (o2 := 45) (s1 := 10) (s2 := 11) IH sS rfl (.inl ⟨rfl, rfl⟩) (.inr (.inl ⟨rfl, rfl⟩)) (fun s h => ?_) (fun s hr q2 q4 => ⟨fun z => ?_, fun sN hN => ?_⟩) hp hm Q2
  · unfold c70 c70_j59
    rw [if_neg (by omega), if_pos rfl]
    by_cases z1 : s = 43
    · rw [if_pos z1, if_pos (.inl z1)]
    · by_cases z2 : s = 45
      · rw [if_neg z1, if_pos z2, if_pos (.inr z2)]
      · rw [if_neg z1, if_neg z2, if_neg (by omega)]
  · show c215_b9 (g214 fr) hr = _
    unfold c215_b9
    rw [c203_0 q2 q4 (c := 43) rfl (by omega), c203_0 q2 q4 (c := 45) rfl (by omega)]
    rfl
  · show c215_b9 (g214 fr) hr = _
    unfold c215_b9 c215_j27 c215_j43
    rcases hN with ⟨z, rfl⟩ | ⟨z, rfl⟩
    · rw [c203_1 q2 q4 (c := 43) rfl z]
      rfl
    · rw [c203_0 q2 q4 (c := 43) rfl (by omega), c203_1 q2 q4 (c := 45) rfl z]
      rfl
/-- a whole expression -/
theorem XL0e {S1 : Nat} (IH : XPe se n b fc fr 1 215 S1 d) (sS : S1 + 1 ≤ S) : XPe se n b (fc + 1) (fr + 1) 0 214 S d := by
  intro l p m hc hr B hp hm
  rw [g67_67, g214_214]
  unfold c67 c214
  rw [if_pos (show (0 : Int) < 3 by omega), show wadd 0 1 = 1 from rfl]
  refine JJ_b (XP_upe IH (Nat.le_of_lt sS) l p m hc hr B hp hm) (Nat.le_refl _) (Nat.le_refl _) (fun hc2 hr2 f2 r2 Q2 => ?_)
  obtain ⟨l2, A⟩ := Q2
  refine JJ_il (show (0 : Int) = 0 from rfl) ?_
  show JJ p m hc2 hr2 _ (c67_j35 (g67 fc) 1 0 (d : Int) hc2) ((c203 60 hr2).bind fun v3 => if v3 = 0 then if hI hr2 395 3 = 201 then c214_j30 (g214 fr) hr2 else some (1, hr2) else c214_j30 (g214 fr) hr2)
  obtain ⟨s, q2, q3, q4, h1⟩ : ∃ (s : Int), (VS s ∨ s = 4) ∧ c39 hc2 = some s ∧ hI hr2 395 3 = mt s ∧ (s ≠ 4 → l2 + 1 < (TK n b).length) := by
    obtain ⟨_, _, _, B, -⟩ := A
    obtain ⟨s, v, q2, q3, q4, h1, -⟩ := BS_at B
    exact ⟨s, q2, q3, q4, h1⟩
  have m25 := mt_250 q2
  have e0 : hF0 = 1999998 + 1 + 1 := rfl
  have b0 : ∀ h, c67_b39 (g67 fc) 0 (d : Int) 1 1 h = some (.inr (.inl h)) := fun h => by
    unfold c67_b39
    rw [if_pos (by omega)]
  unfold c67_j35
  by_cases z : s = 60 ∨ s = 250
  · obtain ⟨sN, hop, eR⟩ : ∃ sN, opR sN s ∧ ((c203 60 hr2).bind fun v3 => if v3 = 0 then if hI hr2 395 3 = 201 then c214_j30 (g214 fr) hr2 else some (1, hr2) else c214_j30 (g214 fr) hr2) = c214_j47 (g214 fr) sN hr2 := by
      rcases z with z | z
      · refine ⟨14, .inr (.inr (.inr (.inr (.inl ⟨rfl, z⟩)))), ?_⟩
        rw [c203_1 q2 q4 (c := 60) rfl z]
        simp only [bsome]
        rw [if_neg (by omega)]
        unfold c214_j30
        rw [if_neg (fun w => by rw [q4] at w; have := m25.mp w; omega)]
      · refine ⟨15, .inr (.inr (.inr (.inr (.inr ⟨rfl, z⟩)))), ?_⟩
        rw [c203_0 q2 q4 (c := 60) rfl (by omega)]
        simp only [bsome]
        rw [if_pos trivial]
        unfold c214_j30
        have w : hI hr2 395 3 = 201 := by rw [q4]; exact m25.mpr z
        rw [if_pos w, if_pos w]
    rw [eR]
    have b1 : c67_b39 (g67 fc) 0 (d : Int) 1 0 hc2 = (some (sI hc2 15 3 (wadd (hI hc2 15 3) 1))).bind (fun h10 => (g67 fc 67 [1, (d : Int)] h10).bind (fun v11 => if v11.1 = 0 then some (.inr (.inr (0, v11.2))) else (c65 s v11.2).bind (fun h13 => some (.inl ((1 : Int), h13))))) := by
      unfold c67_b39
      rw [if_neg (by omega), q3]
      simp only [bsome]
      have e70 : c70 0 s hc2 = some 1 := by
        unfold c70 c70_j41
        rw [if_pos rfl]
        rcases z with z | z
        · rw [if_pos z]
        · rw [if_neg (by omega), if_pos z]
      rw [e70]
      rfl
    unfold c214_j47
    obtain ⟨a0, hr1, a1, ⟨hc4, hr4, hc3, hr3, t3, l4, e1, e2, e3, e4, e5, e6, e7, e8⟩ | ⟨hc4, hr4, e1, e2, e3, e4, e5⟩⟩ := XCe (sN := sN) A hp hm (h1 (opR_ne hop)) hop IH sS
    · rw [a0] at b1
      simp only [bsome] at b1
      rw [e1] at b1
      simp only [bsome] at b1
      rw [if_neg (show ¬ (1 : Int) = 0 by omega), e3] at b1
      have b1 : c67_b39 (g67 fc) 0 (d : Int) 1 0 hc2 = some (.inl (1, hc3)) := b1
      rw [e0, lp_n (s' := ((1 : Int), hc3)) b1, lp_d (r := .inl hc3) (b0 hc3)]
      refine JJ_r a1 (JJ_r e2 (JJ_er (show ¬ (1 : Int) = 0 by omega) (JJ_r e4 (JJ_r rfl ?_))))
      exact JJ_ok e5 e6 ⟨l4, e7⟩
    · rw [a0] at b1
      simp only [bsome] at b1
      rw [e1] at b1
      have b1 : c67_b39 (g67 fc) 0 (d : Int) 1 0 hc2 = some (.inr (.inr (0, hc4))) := b1
      rw [e0, lp_d (r := .inr (0, hc4)) b1]
      refine JJ_r a1 (JJ_r e2 (JJ_ir (show (0 : Int) = 0 from rfl) ?_))
      exact JJ_no e3 e4 e5
  · have b1 : c67_b39 (g67 fc) 0 (d : Int) 1 0 hc2 = some (.inr (.inl hc2)) := by
      unfold c67_b39
      rw [if_neg (by omega), q3]
      simp only [bsome]
      have e70 : c70 0 s hc2 = some 0 := by
        unfold c70
        rw [if_pos rfl, if_neg (by omega), if_neg (by omega)]
      rw [e70]
      rfl
    rw [e0, lp_d (r := .inl hc2) b1, c203_0 q2 q4 (c := 60) rfl (by omega)]
    simp only [bsome]
    rw [if_pos trivial, if_neg (fun w => by rw [q4] at w; have := m25.mp w; omega)]
    exact JJ_ok FC_rf FR_rf ⟨l2, A⟩
/-- every expression, however many signs are open -/
theorem XAe : ∀ (e d : Nat), d + e = 12 → ∀ fc fr, 6 * e + 8 ≤ fc → 4 * e + 5 ≤ fr → XPe se n b fc fr 0 214 (4 * e + 5) d ∧ XPe se n b fc fr 3 217 (4 * e + 2) d
  | 0, d, hd, fc, fr, hc, hr => by
    have hU : ∀ fc fr, 3 ≤ fc → 1 ≤ fr → XPe se n b fc fr 3 217 2 d := fun fc fr h1 h2 => by
      obtain ⟨fc, rfl⟩ : ∃ q, fc = q + 3 := ⟨fc - 3, by omega⟩
      obtain ⟨fr, rfl⟩ : ∃ q, fr = q + 1 := ⟨fr - 1, by omega⟩
      exact XUe (S := 1) (by omega) (fun z => by omega) (fun z => by omega) (by omega)
    obtain ⟨fc, rfl⟩ : ∃ q, fc = q + 1 + 1 + 1 := ⟨fc - 3, by omega⟩
    obtain ⟨fr, rfl⟩ : ∃ q, fr = q + 1 + 1 + 1 := ⟨fr - 3, by omega⟩
    exact ⟨XL0e (XL1e (XL2e (hU fc fr (by omega) (by omega)) (Nat.le_refl 3)) (Nat.le_refl 4)) (Nat.le_refl 5), hU _ _ (by omega) (by omega)⟩
  | e + 1, d, hd, fc, fr, hc, hr => by
    have hU : ∀ fc fr, 6 * e + 11 ≤ fc → 4 * e + 6 ≤ fr → XPe se n b fc fr 3 217 (4 * e + 6) d := fun fc fr h1 h2 => by
      obtain ⟨fc, rfl⟩ : ∃ q, fc = q + 3 := ⟨fc - 3, by omega⟩
      obtain ⟨fr, rfl⟩ : ∃ q, fr = q + 1 := ⟨fr - 1, by omega⟩
      exact XUe (S := 4 * e + 5) (by omega) (fun z => (XAe e (d + 1) (by omega) fc fr (by omega) (by omega)).1) (fun z => XP_upe (XAe e (d + 1) (by omega) fc fr (by omega) (by omega)).2 (by omega)) (by omega)
    obtain ⟨fc, rfl⟩ : ∃ q, fc = q + 1 + 1 + 1 := ⟨fc - 3, by omega⟩
    obtain ⟨fr, rfl⟩ : ∃ q, fr = q + 1 + 1 + 1 := ⟨fr - 3, by omega⟩
    exact ⟨XL0e (XL1e (XL2e (hU fc fr (by omega) (by omega)) (Nat.le_refl (4 * e + 7))) (Nat.le_refl (4 * e + 8))) (Nat.le_refl (4 * e + 9)), XP_upe (hU _ _ (by omega) (by omega)) (by omega)⟩
theorem X0e (hd : d ≤ 12) : XPe se n b 120 120 0 214 53 d := XP_upe (XAe (12 - d) d (by omega) 120 120 (by omega) (by omega)).1 (by omega)
end XPR
