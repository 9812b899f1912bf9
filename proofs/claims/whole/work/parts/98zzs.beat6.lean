/-! call 18: beat, a long act's beat in both -/
section BTY
variable {h h' h0 h1 t t' t0 t1 t2 t4 : hS} {K : Nat → Int → Prop} {p m q κ l x c i : Nat} {r : Int → Nat} {n v out how w : Int}
theorem mk8_i {u : hS} {y j : Nat} (hy : ¬ (y = 395 ∧ j = 40)) : hI (mk8 how u) y j = hI u y j := by
  unfold mk8
  split
  · rfl
  · rw [hI_sI, if_neg hy]
theorem mk8_f {u : hS} : fp (fun y j => y = 395 ∧ j = 40) u (mk8 how u) := by
  unfold mk8
  split
  · exact fp_rf
  · exact fp_sI ⟨rfl, rfl⟩
theorem LSTEP (U : RUNp K p m q r κ h t) (Ss : SL h) (La : LA h t) (LR : LRs h t K κ) (l10 : l < 10) (run : hI t 423 l = 1) : ∃ (out : Int) (h1 h2 t2 : hS), c137 (376 + 2 * l) h = some (out, h1) ∧ c138 (375 + 2 * l) out (hI h1 22 8) h1 = some h2 ∧ c272 (l : Int) t = some t2 ∧ RUNp K p m q r κ h2 t2 ∧ SL h2 ∧ LA h2 t2 ∧ LRs h2 t2 K κ ∧ BTc p m h h2 ∧ BTr t t2 ∧ (∀ l', l' < 10 → l' ≠ l → ∀ y, 423 ≤ y → y ≤ 434 → hI t2 y l' = hI t y l') ∧ hT h1 (375 + 2 * l) = 20 ∧ (∀ j, hI h2 20 j = hI h 20 j) ∧ ∀ j, hI t2 418 j = hI t 418 j := by
  obtain ⟨x, c, F, X⟩ := LR l l10 run
  have X432 : hI t 432 l = 0 := by
    obtain ⟨-, -, -, -, -, -, -, -, -, -, -, -, -, X9⟩ := id X
    exact X9
  obtain ⟨out, how, h1, t4, tA, g1, g2, g3, g4, g5, g6, g7, g8, g9, g10, g11, g12, g13, g14⟩ := LONG U Ss l10 F X
  obtain ⟨s1, s2, s3, s4⟩ := Ss l l10
  obtain ⟨x1, x2, x3, x4, x5, x6⟩ := La l l10
  obtain ⟨⟨y1, y1'⟩, y2, y3, y4, y5, y6⟩ := x6 (x5 run)
  have hp := U.1.2.2.2.2.1
  have T20 : hT h1 (375 + 2 * l) = 20 := by rw [g5.1.2.1]; exact s2
  have b5 : ∀ j, hI h1 (375 + 2 * l) j = hI h (375 + 2 * l) j := fun j => (g6 _ (by omega) (by omega) (by omega) j).1
  have o4 : ∀ y, 423 ≤ y → y ≤ 437 → y ≠ 430 → hI t4 y l = hI t y l := fun y h1 h2 h3 => g8 y l h1 h2 (by omega)
  have wrap : ∀ h2 t2, chg (fun y => y = 375 + 2 * l) h1 h2 → hR h2 (375 + 2 * l) 0 = hR h1 (375 + 2 * l) 0 → fp (fun y j => (y = 395 ∧ j = 40) ∨ (423 ≤ y ∧ y ≤ 432 ∧ j = l)) t4 t2 → LA1 h2 t2 l → (hI t2 423 l = 1 → ∃ x c, FRL h2 t2 K l x c ∧ SFX h2 t2 κ l x) → RUNp K p m q r κ h2 t2 ∧ SL h2 ∧ LA h2 t2 ∧ LRs h2 t2 K κ ∧ BTc p m h h2 ∧ BTr t t2 ∧ (∀ l', l' < 10 → l' ≠ l → ∀ y, 423 ≤ y → y ≤ 434 → hI t2 y l' = hI t y l') ∧ hT h1 (375 + 2 * l) = 20 ∧ (∀ j, hI h2 20 j = hI h 20 j) ∧ ∀ j, hI t2 418 j = hI t 418 j := fun h2 t2 ch r0 ft la lr => by
    have cB : BTc p m h1 h2 := ⟨⟨ch.1, ch.2.1, ch.2.2.1, ch.2.2.2.1, ch.2.2.2.2.1⟩, fun y j z => (ch.2.2.2.2.2 y (by omega) j).2, fun y j z => (ch.2.2.2.2.2 y (fun e => z (.inr (.inr (.inr (.inl (by omega)))))) j).1⟩
    have B2 : BTc p m h h2 := BTc_tr hp g5 cB
    have ot : ∀ l', l' < 10 → l' ≠ l → ∀ y, 423 ≤ y → y ≤ 434 → hI t2 y l' = hI t y l' := fun l' _ z y h1 h2 => by rw [ft.2 y l' (by omega)]; exact g8 y l' h1 (by omega) (by omega)
    have pt : ∀ l', l' < 10 → l' ≠ l → ∀ y j, 435 ≤ y → y ≤ 437 → hI t2 y j = hI t y j := fun l' _ z y j h1 h2 => by rw [ft.2 y j (by omega)]; exact g8 y j (by omega) h2 (by omega)
    have fr : ∀ y, 375 ≤ y → y < 395 → y ≠ 376 + 2 * l → y ≠ 375 + 2 * l → ∀ j, hI h2 y j = hI h y j ∧ hR h2 y j = hR h y j := fun y h1 h2 h3 h4 j => ⟨((ch.2.2.2.2.2 y h4 j).1).trans (g6 y h1 h2 h3 j).1, ((ch.2.2.2.2.2 y h4 j).2).trans (g6 y h1 h2 h3 j).2⟩
    refine ⟨RUN_c g4 (chg_mono ch (fun y hy => by omega)) (fun y j hy => ft.2 y j (by omega)) (fun j _ => (ch.2.2.2.2.2 23 (by omega) j).2) (rnn_c g4.2.2.2.2.1 (fun y j hy => (ch.2.2.2.2.2 y (by omega) j).1) (fun y j hy => ft.2 y j (by omega))) (ch.2.2.2.2.2 22 (by omega) 11).1, SL_b Ss B2 (fun l' hl' => ?_), fun l' hl' => ?_, LRs_b U.1 LR B2 (fun l' => l' ≠ l) (fun l' hl' z j => fr _ (by omega) (by omega) (by omega) (by omega) j) (fun l' hl' z y h1 h2 => ot l' hl' z y h1 h2) (fun l' hl' z y j h1 h2 _ _ => pt l' hl' z y j h1 h2) (fun j => by rw [ft.2 399 j (by omega)]; exact BTr_n g7 j) (fun l' _ z z2 => by
      have e : l' = l := Classical.not_not.mp z
      subst e
      exact lr z2), B2, BTr_tr g7 ⟨ft.1, fun y j z => ft.2 y j (by omega)⟩, ot, T20, fun j => ((ch.2.2.2.2.2 20 (by omega) j).1).trans (g13 j), fun j => (ft.2 418 j (by omega)).trans (g14 j)⟩
    · by_cases z : l' = l
      · rw [z, r0]; exact (g6 _ (by omega) (by omega) (by omega) 0).2
      · exact (fr _ (by omega) (by omega) (by omega) (by omega) 0).2
    · by_cases z : l' = l
      · rw [z]; exact la
      · exact LA1_b U.1 (La l' hl') B2 (fun j => (fr _ (by omega) (by omega) (by omega) (by omega) j).1) (fr _ (by omega) (by omega) (by omega) (by omega) 1).2 (fun y h1 h2 => ot l' hl' z y h1 (by omega)) (pt l' hl' z 437 _ (by omega) (by omega))
  obtain ⟨ka, kb⟩ := KD_b U.1 g5 y5
  have ks := kb 0 (by omega) (by omega)
  rw [Nat.add_zero] at ks
  have kg : hI h1 (hR h (376 + 2 * l) 1) 2 = hI t4 437 (12 * l) := by rw [ks.1, y6]; exact (g8 437 _ (by omega) (by omega) (by omega)).symm
  have lb : ∀ h2, chg (fun y => y = 375 + 2 * l) h1 h2 → KD h2 (hR h2 (376 + 2 * l) 1) ∧ hI h2 (hR h2 (376 + 2 * l) 1) 2 = hI t4 437 (12 * l) := fun h2 ch => by
    have e1 : hR h2 (376 + 2 * l) 1 = hR h (376 + 2 * l) 1 := ((ch.2.2.2.2.2 _ (by omega) 1).2).trans (g12 1)
    obtain ⟨k1, -⟩ := KD_chg ch (fun y hy => by omega) ka
    rw [e1]
    exact ⟨k1, by rw [(ch.2.2.2.2.2 _ (by have := ka.1; omega) 2).1]; exact kg⟩
  rcases g10 with ⟨e1, e2, Q, tx, Ln, f, qq, C, z1, z2, z3, z4, z5, z6, z7, z8⟩ | e
  · -- it rests
    subst e1 e2
    obtain ⟨h2, eh⟩ : ∃ h2, h2 = sI h1 (375 + 2 * l) 4 (wadd (hI h1 (375 + 2 * l) 4) 1) := ⟨_, rfl⟩
    obtain ⟨t2, et⟩ : ∃ t2, t2 = sI (sI t4 428 l (hI t4 410 0)) 429 l (hI t4 395 55) := ⟨_, rfl⟩
    have ch : chg (fun y => y = 375 + 2 * l) h1 h2 := by rw [eh]; exact chg_sI rfl
    have ih : ∀ y j, ¬ (y = 375 + 2 * l ∧ j = 4) → hI h2 y j = hI h1 y j := fun y j hy => by rw [eh, hI_sI, if_neg hy]
    have rh : ∀ y j, hR h2 y j = hR h1 y j := fun y j => by rw [eh, hR_sI]
    have it : ∀ y j, y ≠ 428 → y ≠ 429 → hI t2 y j = hI t4 y j := fun y j h1 h2 => by rw [et, hI_sI, if_neg (by omega), hI_sI, if_neg (by omega)]
    have i8 : hI t2 428 l = hI t4 410 0 := by rw [et, hI_sI, if_neg (by omega), hI_sI, if_pos ⟨rfl, rfl⟩]
    have i9 : hI t2 429 l = hI t4 395 55 := by rw [et, hI_sI, if_pos ⟨rfl, rfl⟩]
    have oo : ∀ y, 423 ≤ y → y ≤ 437 → y ≠ 430 → y ≠ 428 → y ≠ 429 → hI t2 y l = hI t y l := fun y h1 h2 h3 h4 h5 => (it y l h4 h5).trans (o4 y h1 h2 h3)
    have op : ∀ u, u < 12 → ∀ y, 414 ≤ y → y ≤ 416 → hI t4 y u = hI t2 (y + 21) (12 * l + u) := fun u hu y h1 h2 => (g11.2.2.2.2.2 u hu y h1 h2).trans ((g8 (y + 21) (12 * l + u) (by omega) (by omega) (by omega)).symm.trans (it (y + 21) (12 * l + u) (by omega) (by omega)).symm)
    obtain ⟨l1, l2⟩ := lb h2 ch
    refine ⟨5, h1, h2, t2, g1, by rw [eh]; exact c138_5 T20, g3 _ (by rw [et]; exact c272t_3 l10), wrap h2 t2 ch (rh _ _) (by rw [et]; exact fp_tr (fp_sI (.inr ⟨by omega, by omega, rfl⟩)) (fp_sI (.inr ⟨by omega, by omega, rfl⟩))) ?_ (fun _ => ⟨x, c, ?_, ?_⟩)⟩
    · unfold LA1
      rw [ih _ 1 (by omega), ih _ 2 (by omega), ih _ 3 (by omega), ih _ 5 (by omega), ih _ 6 (by omega), b5, b5, b5, b5, b5, oo 423 (by omega) (by omega) (by omega) (by omega) (by omega), oo 424 (by omega) (by omega) (by omega) (by omega) (by omega), oo 425 (by omega) (by omega) (by omega) (by omega) (by omega), oo 431 (by omega) (by omega) (by omega) (by omega) (by omega), oo 432 (by omega) (by omega) (by omega) (by omega) (by omega)]
      refine ⟨x1, x2, x3, x4, x5, fun _ => ⟨⟨y1, y1'⟩, ?_, y3, y4, l1, ?_⟩⟩
      · rw [eh, hI_sI, if_pos ⟨rfl, rfl⟩, it 430 l (by omega) (by omega), g9, b5, y2]
      · rw [l2, it 437 _ (by omega) (by omega)]
    · obtain ⟨⟨c1, c2, c3, c4, c5, c6⟩, ⟨d1, d2, d3⟩, q1, q2, q3, nn, j, k, ⟨n1, n2, n3⟩, n4, n5, n6, n7, n8⟩ := Q
      obtain rfl : j = 0 := by have := g11.2.2.2.1; omega
      refine ⟨⟨by rw [ch.2.1]; exact c1, by rw [rh]; exact c2, c3, by rw [ch.2.1]; exact c4, by rw [ch.2.2.1]; exact c5, c6⟩, ⟨d1, by rw [rh]; exact d2, by rw [ih _ _ (by omega)]; exact d3⟩, by rw [oo 426 (by omega) (by omega) (by omega) (by omega) (by omega), ← g11.1]; exact q1, by rw [ih _ _ (by omega), oo 427 (by omega) (by omega) (by omega) (by omega) (by omega), ← g11.2.1]; exact q2, by rw [ih _ _ (by omega), i8]; exact q3, nn, k, ⟨n1, by rw [ih _ _ (by omega)]; exact n2, by rw [oo 434 (by omega) (by omega) (by omega) (by omega) (by omega), ← g11.2.2.2.2.1]; exact n3⟩, by rw [oo 433 (by omega) (by omega) (by omega) (by omega) (by omega), ← g11.2.2.1, n5, Nat.zero_add], by omega, ?_, ?_⟩
      · rw [rh]
        exact ACH_c n7 (fun a' Q' => KD_chg ch (fun y hy => by omega) Q') (fun u u1 u2 => by rw [Nat.mul_zero, Nat.zero_add]; exact ⟨(op u (by omega) 414 (by omega) (by omega)).symm, (op u (by omega) 415 (by omega) (by omega)).symm, (op u (by omega) 416 (by omega) (by omega)).symm⟩)
      · have e0 := op 0 (by omega) 414 (by omega) (by omega)
        rw [Nat.add_zero] at e0
        exact e0 ▸ n8
    · have hx := Q.1.2.2.1
      have en : ntx t2 tx = ntx t4 tx := funext fun i => funext fun j => it 399 _ (by omega) (by omega)
      exact ⟨tx, Ln, f, qq, C, z1, by rw [en]; exact z2, z3, by rw [en]; exact z4, fun j v e => by rw [ih _ _ (by omega)]; exact z5 j v e, by rw [ch.2.2.1]; exact z6, by rw [ih _ _ (by omega)]; exact z7, by rw [i9]; exact z8, by rw [oo 432 (by omega) (by omega) (by omega) (by omega) (by omega)]; exact X432⟩
  · have h3 : how ≠ 3 := by omega
    have ho : ((how = 0 ∨ how = 1) ∧ out = 0) ∨ (how = 2 ∧ ((out = 1 ∧ hI t4 395 42 = 0) ∨ (out = 4 ∧ hI t4 395 42 = 1))) := by
      rcases e with ⟨a, b, -⟩ | ⟨a, -, b⟩
      · exact .inl ⟨a, b⟩
      · exact .inr ⟨a, b⟩
    obtain ⟨u, hu, w1⟩ := c272t_o l10 h3 (c268_e ho)
    have hout : out = 0 ∨ out = 1 ∨ out = 4 := by omega
    obtain ⟨h2, eh⟩ : ∃ h2, h2 = sI (sI (sI (sI h1 (375 + 2 * l) 4 (wadd (hI h1 (375 + 2 * l) 4) 1)) (375 + 2 * l) 2 0) (375 + 2 * l) 5 out) (375 + 2 * l) 6 (if out = 0 then hI h1 22 8 else 0) := ⟨_, rfl⟩
    obtain ⟨t2, et⟩ : ∃ t2, t2 = sI (sI u 431 l out) 432 l (if out = 0 then hI u 395 40 else 0) := ⟨_, rfl⟩
    have ch : chg (fun y => y = 375 + 2 * l) h1 h2 := by rw [eh]; exact chg_tr (chg_tr (chg_tr (chg_sI rfl) (chg_sI rfl)) (chg_sI rfl)) (chg_sI rfl)
    have rh : ∀ y j, hR h2 y j = hR h1 y j := fun y j => by rw [eh, hR_sI, hR_sI, hR_sI, hR_sI]
    have v2 : ∀ j, hI h2 (375 + 2 * l) j = if j = 6 then (if out = 0 then hI h1 22 8 else 0) else if j = 5 then out else if j = 2 then 0 else if j = 4 then wadd (hI h1 (375 + 2 * l) 4) 1 else hI h1 (375 + 2 * l) j := fun j => by
      rw [eh, hI_sI, hI_sI, hI_sI, hI_sI]
      by_cases a6 : j = 6
      · rw [if_pos ⟨rfl, a6⟩, if_pos a6]
      · rw [if_neg (fun z => a6 z.2), if_neg a6]
        by_cases a5 : j = 5
        · rw [if_pos ⟨rfl, a5⟩, if_pos a5]
        · rw [if_neg (fun z => a5 z.2), if_neg a5]
          by_cases a2 : j = 2
          · rw [if_pos ⟨rfl, a2⟩, if_pos a2]
          · rw [if_neg (fun z => a2 z.2), if_neg a2]
            by_cases a4 : j = 4
            · rw [if_pos ⟨rfl, a4⟩, if_pos a4]
            · rw [if_neg (fun z => a4 z.2), if_neg a4]
    have fu : fp (fun y j => (y = 395 ∧ j = 40) ∨ (423 ≤ y ∧ y ≤ 432 ∧ j = l)) t4 u := by
      rw [hu]
      refine fp_tr (fp_tr (fp_sI (.inr ⟨by omega, by omega, rfl⟩)) (fp_sI (.inr ⟨by omega, by omega, rfl⟩))) ⟨mk8_f.1, fun y j z => mk8_f.2 y j (fun e => z (.inl e))⟩
    have iu : ∀ y, y ≠ 428 → y ≠ 423 → y ≠ 395 → hI u y l = hI t4 y l := fun y h1 h2 h3 => by rw [hu, mk8_i (by omega), hI_sI, if_neg (by omega), hI_sI, if_neg (by omega)]
    have u3 : hI u 423 l = 0 := by rw [hu, mk8_i (by omega), hI_sI, if_pos ⟨rfl, rfl⟩]
    have it : ∀ y j, y ≠ 431 → y ≠ 432 → hI t2 y j = hI u y j := fun y j h1 h2 => by rw [et, hI_sI, if_neg (by omega), hI_sI, if_neg (by omega)]
    have t31 : hI t2 431 l = out := by rw [et, hI_sI, if_neg (by omega), hI_sI, if_pos ⟨rfl, rfl⟩]
    have t32 : hI t2 432 l = if out = 0 then hI u 395 40 else 0 := by rw [et, hI_sI, if_pos ⟨rfl, rfl⟩]
    have ft : fp (fun y j => (y = 395 ∧ j = 40) ∨ (423 ≤ y ∧ y ≤ 432 ∧ j = l)) t4 t2 := by rw [et]; exact fp_tr fu (fp_tr (fp_sI (.inr ⟨by omega, by omega, rfl⟩)) (fp_sI (.inr ⟨by omega, by omega, rfl⟩)))
    have t23 : hI t2 423 l = 0 := by rw [it _ _ (by omega) (by omega)]; exact u3
    have tt : ∀ y, y = 424 ∨ y = 425 → hI t2 y l = hI t y l := fun y hy => by rw [it _ _ (by omega) (by omega), iu y (by omega) (by omega) (by omega)]; exact o4 y (by omega) (by omega) (by omega)
    have val : (if out = 0 then hI h1 22 8 else 0) = if out = 0 then hI u 395 40 else 0 := by
      by_cases z : out = 0
      · rw [if_pos z, if_pos z]
        rcases e with ⟨a, -, b⟩ | ⟨-, -, b⟩
        · rw [b, hu]
          unfold mk8
          by_cases z1 : how = 1
          · rw [if_pos z1, if_pos z1, hI_sI, if_neg (by omega), hI_sI, if_neg (by omega)]
          · rw [if_neg z1, if_neg z1, hI_sI, if_pos ⟨rfl, rfl⟩]
        · exact absurd b (by omega)
      · rw [if_neg z, if_neg z]
    obtain ⟨l1, l2⟩ := lb h2 ch
    refine ⟨out, h1, h2, t2, g1, by rw [eh]; exact c138_o T20 hout, g3 _ (by rw [et]; exact w1), wrap h2 t2 ch (rh _ _) ft ?_ (fun z => absurd z (by omega))⟩
    unfold LA1
    rw [t23, tt 424 (.inl rfl), tt 425 (.inr rfl), t31, t32]
    refine ⟨?_, x2, ?_, .inl rfl, fun z => absurd z (by omega), fun _ => ⟨⟨?_, y1'⟩, ?_, ?_, ?_, l1, ?_⟩⟩
    · rw [v2, if_neg (by omega), if_neg (by omega), if_neg (by omega), if_neg (by omega), b5]; exact x1
    · rw [v2, if_neg (by omega), if_neg (by omega), if_pos rfl]
    · rw [v2, if_neg (by omega), if_neg (by omega), if_neg (by omega), if_neg (by omega), b5]; exact y1
    · rw [v2, if_neg (by omega), if_neg (by omega), if_neg (by omega), if_pos rfl, it _ _ (by omega) (by omega), iu 430 (by omega) (by omega) (by omega), g9, b5, y2]
    · rw [v2, if_neg (by omega), if_pos rfl, if_neg (by omega)]
    · rw [v2, if_pos rfl]; exact val
    · rw [l2, ft.2 437 _ (by omega)]
end BTY
