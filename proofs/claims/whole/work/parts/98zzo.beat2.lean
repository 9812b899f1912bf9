/-! call 18: beat, the loop over the creatures -/
def W1 (K : Nat → Int → Prop) (p m q : Nat) (r : Int → Nat) (κ : Nat) (h0 t0 h t : hS) : Prop := RUNp K p m q r κ h t ∧ BTc p m h0 h ∧ (∀ x, 375 ≤ x → x < 395 → ∀ j, hI h x j = hI h0 x j ∧ hR h x j = hR h0 x j) ∧ BTr t0 t ∧ ∀ y j, 423 ≤ y → y ≤ 437 → hI t y j = hI t0 y j
section BTU
variable {h h' h0 h1 t t' t0 t1 t2 : hS} {K : Nat → Int → Prop} {p m q κ i : Nat} {r : Int → Nat} {n v : Int}
theorem W1_s (W : W1 K p m q r κ h0 t0 h t) (U : RUNp K p m q r κ h' t') (a : RNc p m 24 h h') (b : RNr t t') : W1 K p m q r κ h0 t0 h' t' := by
  obtain ⟨U0, B, F, Br, O⟩ := W
  have hp := U0.1.2.2.2.2.1
  refine ⟨U, BTc_tr hp B (BTc_N (.inl rfl) a), fun x x1 x2 j => ?_, BTr_tr Br (BTr_N b), fun y j y1 y2 => by rw [b.2 y j (by omega)]; exact O y j y1 y2⟩
  have nf : ∀ e, e ≤ 20 → x ≠ FF 24 e := fun e e20 z => by unfold FF at z; split at z <;> omega
  have hk : ∀ u : Int, 0 ≤ u → u < m → 448 ≤ kd h p u := fun u u0 u1 => (U0.1.2.1.2.2.1 u u0 u1).1.1
  refine ⟨(a.2.2 x j nf (fun z => ?_)).trans (F x x1 x2 j).1, (a.2.1 x j nf (by omega)).trans (F x x1 x2 j).2⟩
  rcases z with z | z | z | z | ⟨u, u0, u1, z⟩
  · omega
  · omega
  · omega
  · omega
  · have := hk u u0 u1
    omega
theorem W1_w (W : W1 K p m q r κ h0 t0 h t) (v w : Int) : W1 K p m q r κ h0 t0 (sI h 20 i v) (sI t 418 i w) := by
  obtain ⟨U0, B, F, Br, O⟩ := W
  have hp := U0.1.2.2.2.2.1
  have ih : ∀ y j, y ≠ 20 → hI (sI h 20 i v) y j = hI h y j := fun y j hy => by rw [hI_sI, if_neg (fun z => hy z.1)]
  have it : ∀ y j, y ≠ 418 → hI (sI t 418 i w) y j = hI t y j := fun y j hy => by rw [hI_sI, if_neg (fun z => hy z.1)]
  exact ⟨RUN_c U0 (chg_sI (.inl ⟨by omega, by omega⟩)) (fun y j hy => it y j (by omega)) (fun _ _ => rfl) (rnn_c U0.2.2.2.2.1 (fun y j hy => ih y j (by omega)) (fun y j hy => it y j (by omega))) (ih 22 11 (by omega)), BTc_tr hp B BTc_20, fun x x1 x2 j => ⟨by rw [ih x j (by omega)]; exact (F x x1 x2 j).1, (F x x1 x2 j).2⟩, BTr_tr Br (fp_sI (by omega)), fun y j y1 y2 => by rw [it y j (by omega)]; exact O y j y1 y2⟩
theorem W1_t (W : W1 K p m q r κ h0 t0 h t) (w : Int) : W1 K p m q r κ h0 t0 h (sI t 418 i w) := by
  obtain ⟨U0, B, F, Br, O⟩ := W
  have it : ∀ y j, y ≠ 418 → hI (sI t 418 i w) y j = hI t y j := fun y j hy => by rw [hI_sI, if_neg (fun z => hy z.1)]
  exact ⟨RUN_c U0 chg_rf (fun y j hy => it y j (by omega)) (fun _ _ => rfl) (rnn_c U0.2.2.2.2.1 (fun _ _ _ => rfl) (fun y j hy => it y j (by omega))) rfl, B, F, BTr_tr Br (fp_sI (by omega)), fun y j y1 y2 => by rw [it y j (by omega)]; exact O y j y1 y2⟩
theorem b40_l (wk : hI h0 8 10 = hI t0 395 30 ∧ (hI t0 395 30 = -1 ∨ (0 ≤ hI t0 395 30 ∧ hI t0 395 30 < 40))) (bt : hI h0 8 9 = hI t0 395 59) : ∀ (D i N : Nat) (h t : hS), i + D = 40 → D < N → W1 K p m q r κ h0 t0 h t → (∀ c, c < i → hI h 20 c = hI t 418 c) → ∃ h' t', lp (fun s => c136_b40 s.1 s.2) N ((i : Int), h) = some h' ∧ lp (fun s => c271_b34 s.1 s.2) N ((i : Int), t) = some t' ∧ W1 K p m q r κ h0 t0 h' t' ∧ ∀ c, c < 40 → hI h' 20 c = hI t' 418 c := by
  intro D
  induction D with
  | zero =>
    intro i N h t hi hN W O
    obtain ⟨N, rfl⟩ : ∃ N1, N = N1 + 1 := ⟨N - 1, by omega⟩
    refine ⟨h, t, lp_d ?_, lp_d ?_, W, fun c hc => O c (by omega)⟩
    · show c136_b40 (i : Int) h = _
      unfold c136_b40
      rw [if_pos (by omega)]
    · show c271_b34 (i : Int) t = _
      unfold c271_b34
      rw [if_pos (by omega)]
  | succ D ih =>
    intro i N h t hi hN W O
    obtain ⟨N, rfl⟩ : ∃ N1, N = N1 + 1 := ⟨N - 1, by omega⟩
    have i40 : i < 40 := by omega
    have U := W.1
    have hp := U.1.2.2.2.2.1
    have S := U.1.1
    have ecr : aRs h 19 40 (i : Int) = some (215 + 4 * i) := by rw [aRs_s (by omega) (by omega), Int.toNat_natCast, (S.1 i i40).1]
    -- both go on
    have go : ∀ (o : Int) (g u : hS), c136_b40 (i : Int) h = some (.inl (((i + 1 : Nat) : Int), sI g 20 i o)) → c271_b34 (i : Int) t = some (.inl (((i + 1 : Nat) : Int), u)) → W1 K p m q r κ h0 t0 (sI g 20 i o) u → hI u 418 i = o → (∀ c, c < i → hI g 20 c = hI h 20 c) → (∀ c, c < i → hI u 418 c = hI t 418 c) → ∃ h' t', lp (fun s => c136_b40 s.1 s.2) (N + 1) ((i : Int), h) = some h' ∧ lp (fun s => c271_b34 s.1 s.2) (N + 1) ((i : Int), t) = some t' ∧ W1 K p m q r κ h0 t0 h' t' ∧ ∀ c, c < 40 → hI h' 20 c = hI t' 418 c := fun o g u e1 e2 W2 e3 e4 e5 => by
      obtain ⟨h', t', y1, y2, y3⟩ := ih (i + 1) N _ u (by omega) (by omega) W2 (fun c hc => by
        by_cases z : c = i
        · rw [z, hI_sI, if_pos ⟨rfl, rfl⟩, e3]
        · rw [hI_sI, if_neg (by omega), e4 c (by omega), e5 c (by omega)]
          exact O c (by omega))
      exact ⟨h', t', (lp_n (f := fun s => c136_b40 s.1 s.2) (s := ((i : Int), h)) (s' := (((i + 1 : Nat) : Int), sI g 20 i o)) e1).trans y1, (lp_n (f := fun s => c271_b34 s.1 s.2) (s := ((i : Int), t)) (s' := (((i + 1 : Nat) : Int), u)) e2).trans y2, y3⟩
    have w20 : ∀ (g : hS) (o : Int), c136_j84 (i : Int) o (i : Int) g = some (.inl (((i + 1 : Nat) : Int), sI g 20 i o)) := fun g o => by
      unfold c136_j84
      rw [wIs_s (by omega) (by omega), Int.toNat_natCast, wadd_n (by omega)]
      rfl
    have w18 : ∀ (u : hS) (o : Int), wIs u 418 40 (i : Int) o = some (sI u 418 i o) := fun u o => by rw [wIs_s (by omega) (by omega), Int.toNat_natCast]
    have j127 : ∀ u : hS, c271_j127 (i : Int) u = some (.inl (((i + 1 : Nat) : Int), u)) := fun u => by
      unfold c271_j127
      rw [wadd_n (by omega)]
    have e103 := c103_e S U.1.2.2.2.1 (i : Int)
    have W6 := W1_t (i := i) W 3
    have lv := c241_e W6.1.1.2.2.2.1 (i : Int)
    by_cases z : lvs h (i : Int) = true
    · rw [if_pos z] at e103 lv
      have l1 := (lvs_b z).2
      rw [Int.toNat_natCast] at l1
      obtain ⟨t9, e9⟩ : ∃ t9, t9 = sI (sI t 418 i 3) 418 i 2 := ⟨_, rfl⟩
      have W9 : W1 K p m q r κ h0 t0 h t9 := by rw [e9]; exact W1_t W6 2
      have o9 : hI t9 418 i = 2 := by rw [e9, hI_sI, if_pos ⟨rfl, rfl⟩]
      have p9 : ∀ y j, ¬ (y = 418 ∧ j = i) → hI t9 y j = hI t y j := fun y j hy => by rw [e9, hI_sI, if_neg hy, hI_sI, if_neg hy]
      have e30 : hI h 8 10 = hI t9 395 30 := by rw [W9.2.2.2.1.2 395 30 (by omega), W.2.1.2.2 8 10 (fun z => by
        rcases z with z | z | z | z | z | ⟨u, u0, u1, z⟩
        · omega
        · omega
        · omega
        · omega
        · omega
        · have := (U.1.2.1.2.2.1 u u0 u1).1.1; rw [BTc_kd hp W.2.1] at this; omega)]; exact wk.1
      have e59 : hI h 8 9 = hI t9 395 59 := by rw [W9.2.2.2.1.2 395 59 (by omega), W.2.1.2.2 8 9 (fun z => by
        rcases z with z | z | z | z | z | ⟨u, u0, u1, z⟩
        · omega
        · omega
        · omega
        · omega
        · omega
        · have := (U.1.2.1.2.2.1 u u0 u1).1.1; rw [BTc_kd hp W.2.1] at this; omega)]; exact bt
      have wk9 : hI t9 395 30 = -1 ∨ (0 ≤ hI t9 395 30 ∧ hI t9 395 30 < 40) := by rw [W9.2.2.2.1.2 395 30 (by omega)]; exact wk.2
      have cls : ∀ o : Int × hS, c113 (215 + 4 * i) (hI t9 395 30) (hI t9 395 59) h = some o → c136_b40 (i : Int) h = some (.inl (((i + 1 : Nat) : Int), sI o.2 20 i o.1)) := fun o e => by
        unfold c136_b40
        rw [if_neg (by omega)]
        refine bnd e103 ?_
        rw [if_neg (by omega)]
        refine bnd ecr ?_
        rw [e30, e59]
        refine bnd e ?_
        exact w20 o.2 o.1
      have ref : ∀ o, (if hI t9 395 30 = -1 then c271_j127 (i : Int) t9 else (c252 0 (i : Int) (hI (rs t9) 395 30) (hI (rs t9) 395 59) (rs t9)).bind (fun v12 => if v12.1 = 0 then c271_j127 (i : Int) v12.2 else (c266 0 v12.2).bind (fun h14 => (aIs h14 414 252 0).bind (fun v15 => (g254 700 254 [v15, 0, 0] h14).bind (fun v16 => (c268 v16.1 v16.2).bind (fun v17 => (wIs v17.2 418 40 (i : Int) v17.1).bind (fun h18 => c271_j127 (i : Int) h18))))))) = some o → c271_b34 (i : Int) t = some o := fun o e => by
        unfold c271_b34
        rw [if_neg (by omega)]
        refine bnd (w18 t 3) ?_
        refine bnd lv ?_
        rw [if_neg (by omega)]
        refine bnd (w18 _ 2) ?_
        rw [← e9]
        by_cases z : hI t9 395 30 = -1
        · rw [if_pos z] at e ⊢
          exact e
        · rw [if_neg z] at e ⊢
          refine bnd c251_s ?_
          exact e
      rw [rs_i (by omega), rs_i (by omega)] at ref
      have Wcs : ∀ u, RUNp K p m q r κ h u → RNr t9 u → W1 K p m q r κ h0 t0 (cs h) u := fun u Uu a => W1_s W9 (RUN_c Uu cs_c (fun _ _ _ => rfl) (fun j _ => by unfold cs; rw [hR_sI, hR_sI, hR_sI]) (rnn_c Uu.2.2.2.2.1 (fun y j hy => cs_i (by omega)) (fun _ _ _ => rfl)) (cs_i (by omega))) (cs_N (.inl rfl) hp) a
      have W20 : ∀ (g u : hS) (o : Int), W1 K p m q r κ h0 t0 g u → W1 K p m q r κ h0 t0 (sI g 20 i o) u := fun g u o Wg => by
        obtain ⟨U0, B, F, Br, O⟩ := Wg
        have ih : ∀ y j, y ≠ 20 → hI (sI g 20 i o) y j = hI g y j := fun y j hy => by rw [hI_sI, if_neg (fun z => hy z.1)]
        exact ⟨RUN_c U0 (chg_sI (.inl ⟨by omega, by omega⟩)) (fun _ _ _ => rfl) (fun _ _ => rfl) (rnn_c U0.2.2.2.2.1 (fun y j hy => ih y j (by omega)) (fun _ _ _ => rfl)) (ih 22 11 (by omega)), BTc_tr hp B BTc_20, fun x x1 x2 j => ⟨by rw [ih x j (by omega)]; exact (F x x1 x2 j).1, (F x x1 x2 j).2⟩, Br, O⟩
      have cs20 : ∀ c, c < i → hI (cs h) 20 c = hI h 20 c := fun c _ => cs_i (by omega)
      rcases SHORT W9.1 i40 l1 (hI t9 395 30) (hI t9 395 59) with ⟨t2, w1, w2, w3⟩ | ⟨out, how, t2, t3, t4, t5, h5, w1, w2, w3, w4, w5, w6, w7, w8, w9, w10, w11, w12, w13⟩
      · by_cases y : hI t9 395 30 = -1
        · rw [if_pos y, j127] at ref
          exact go 2 (cs h) t9 (cls _ w1) (ref _ rfl) (W20 _ _ _ (Wcs t9 W9.1 fp_rf)) o9 cs20 (fun c hc => p9 418 c (by omega))
        · rw [if_neg y] at ref
          have e2 : ∀ y j, ¬ (y = 395 ∨ (408 ≤ y ∧ y ≤ 416)) → hI t2 y j = hI t9 y j := fun y j hy => by rw [w3.2 y j (by omega), rs_i (by omega)]
          have U2 : RUNp K p m q r κ h t2 := RUN_c W9.1 chg_rf (fun y j hy => by rw [w3.2 y j (by omega), rs_i (by omega)]) (fun _ _ => rfl) (rnn_c W9.1.2.2.2.2.1 (fun _ _ _ => rfl) (fun y j hy => by rw [w3.2 y j (by omega), rs_i (by omega)])) rfl
          refine go 2 (cs h) t2 (cls _ w1) (ref _ (bnd w2 ?_)) (W20 _ _ _ (Wcs t2 U2 (RNr_tr rs_N (RNr_L w3)))) (by rw [e2 418 i (by omega)]; exact o9) cs20 (fun c hc => by rw [e2 418 c (by omega)]; exact p9 418 c (by omega))
          rw [if_pos rfl]
          exact j127 t2
      · by_cases y : hI t9 395 30 = -1
        · -- no name is minus one
          have Ur : RUNp K p m q r κ h (rs t9) := RUN_c W9.1 chg_rf (fun y j hy => rs_i (by omega)) (fun _ _ => rfl) (rnn_c W9.1.2.2.2.2.1 (fun _ _ _ => rfl) (fun y j hy => rs_i (by omega))) rfl
          obtain ⟨u2, v1, -⟩ := c252_o (v := hI t9 395 59) Ur.1 i40 l1 (n := hI t9 395 30) (by omega)
          rw [v1] at w2
          cases w2
        · rw [if_neg y] at ref
          have W5 := W1_s W9 w7 w8 w9
          have f5 : ∀ c, hI t5 418 c = hI t9 418 c := fun c => w9.2 418 c (by omega)
          refine go out h5 (sI t5 418 i out) (cls _ w1) (ref _ (bnd w2 ?_)) (W1_w W5 out out) (by rw [hI_sI, if_pos ⟨rfl, rfl⟩]) (fun c hc => ?_) (fun c hc => by rw [hI_sI, if_neg (by omega), f5]; exact p9 418 c (by omega))
          · rw [if_neg (show ¬ (1 : Int) = 0 by omega)]
            refine bnd w4 ?_
            refine bnd (show aIs t3 414 252 0 = some (hI t3 414 0) by rw [aIs_s (by omega) (by omega)]; rfl) ?_
            refine bnd w5 ?_
            refine bnd w6 ?_
            refine bnd (w18 t5 out) ?_
            exact j127 _
          · refine w8.2.2 20 c (fun e e20 z => by unfold FF at z; split at z <;> omega) (fun z => ?_)
            rcases z with z | z | z | z | ⟨u, u0, u1, z⟩
            · omega
            · omega
            · omega
            · omega
            · have := (U.1.2.1.2.2.1 u u0 u1).1.1
              omega
    · rw [if_neg z] at e103 lv
      refine go 3 h (sI t 418 i 3) ?_ ?_ (W1_w W 3 3) (by rw [hI_sI, if_pos ⟨rfl, rfl⟩]) (fun _ _ => rfl) (fun c hc => by rw [hI_sI, if_neg (by omega)])
      · unfold c136_b40
        rw [if_neg (by omega)]
        refine bnd e103 ?_
        rw [if_pos rfl]
        exact w20 h 3
      · unfold c271_b34
        rw [if_neg (by omega)]
        refine bnd (w18 t 3) ?_
        refine bnd lv ?_
        rw [if_pos rfl]
        exact j127 _
end BTU
