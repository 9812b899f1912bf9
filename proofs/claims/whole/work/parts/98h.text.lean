/-! the text of a pond is read by both -/
theorem lp_tw {σ τ α β : Type} {f : σ → Option (σ ⊕ α)} {g : τ → Option (τ ⊕ β)} (I : Nat → σ → τ → Prop) (E : α → β → Prop) (step : ∀ k s t, I k s t → (∃ x y, f s = some (.inr x) ∧ g t = some (.inr y) ∧ E x y) ∨ (∃ k' s' t', f s = some (.inl s') ∧ g t = some (.inl t') ∧ k' < k ∧ I k' s' t')) : ∀ (N N' k : Nat) (s : σ) (t : τ), I k s t → k < N → k < N' → ∃ x y, lp f N s = some x ∧ lp g N' t = some y ∧ E x y
  | 0, _, k, s, t, _, h, _ => absurd h (by omega)
  | N + 1, 0, k, s, t, _, _, h => absurd h (by omega)
  | N + 1, N' + 1, k, s, t, i, h, h' => by
    rcases step k s t i with ⟨x, y, e1, e2, e3⟩ | ⟨k', s', t', e1, e2, e3, e4⟩
    · exact ⟨x, y, lp_d e1, lp_d e2, e3⟩
    · rw [lp_n e1, lp_n e2]
      exact lp_tw I E step N N' k' s' t' e4 (by omega) (by omega)
section TXT
variable {n l mk N0 M0 p : Nat} {b : Nat → Int} {hc hr : hS} {K : Nat → Int → Prop}
/-- the change's number grows -/
def nx9 (h : hS) : hS := sI h 15 9 (wadd (hI h 15 9) 1)
/-- below N0 the class changes what its readers write, the change's number too -/
def FT (N0 : Nat) (h h' : hS) : Prop := (hN h ≤ hN h' ∧ hM h ≤ hM h') ∧ ∀ x, x < N0 → hT h' x = hT h x ∧ hL h' x = hL h x ∧ (∀ j, hR h' x j = hR h x j) ∧ ∀ j, ¬ (x = 16 ∨ x = 17 ∨ (x = 15 ∧ 2 ≤ j ∧ j ≤ 10)) → hI h' x j = hI h x j
theorem FT_rf {h : hS} : FT N0 h h := ⟨⟨Nat.le_refl _, Nat.le_refl _⟩, fun _ _ => ⟨rfl, rfl, fun _ => rfl, fun _ _ => rfl⟩⟩
theorem FT_tr {h h1 h2 : hS} (a : FT N0 h h1) (b : FT N0 h1 h2) : FT N0 h h2 := ⟨⟨Nat.le_trans a.1.1 b.1.1, Nat.le_trans a.1.2 b.1.2⟩, fun x hx => by
  obtain ⟨a1, a2, a3, a4⟩ := a.2 x hx
  obtain ⟨b1, b2, b3, b4⟩ := b.2 x hx
  exact ⟨b1.trans a1, b2.trans a2, fun j => (b3 j).trans (a3 j), fun j q => (b4 j q).trans (a4 j q)⟩⟩
theorem FT_FK {h h' : hS} (f : FK N0 h h') : FT N0 h h' := ⟨f.1, fun x hx => ⟨(f.2 x hx).1, (f.2 x hx).2.1, (f.2 x hx).2.2.1, fun j q => (f.2 x hx).2.2.2 j (by omega)⟩⟩
theorem FT_nx {h : hS} : FT N0 h (nx9 h) := ⟨⟨Nat.le_refl _, Nat.le_refl _⟩, fun x hx => ⟨rfl, rfl, fun _ => rfl, fun j q => by
  unfold nx9
  rw [hI_sI, if_neg (by omega)]⟩⟩
theorem FL_nx (L : FL hc hr) : FL (nx9 hc) hr := by
  obtain ⟨f, a, h1, h2, h3, h4, h5, h6, h7⟩ := L
  unfold nx9
  refine ⟨f, a, h1, ?_, ?_, h4, h5, nmR_c h6 ?_ (fun j => ?_), ?_⟩
  · rw [hI_sI, if_neg (by omega)]; exact h2
  · rw [hI_sI, if_neg (by omega)]; exact h3
  · rw [hI_sI, if_neg (by omega)]
  · rw [hI_sI, if_neg (by omega)]
  · rw [hI_sI, if_neg (by omega)]; exact h7
theorem FLR_nx (L : FLR N0 M0 hc hr) : FLR N0 M0 (nx9 hc) hr := ⟨FL_nx L.1, L.2.1, L.2.2⟩
theorem MP_nx {r : Int → Nat} (Q : MP n b N0 M0 l K p mk r hc hr) : MP n b N0 M0 l K p mk r (nx9 hc) hr := by
  obtain ⟨q, m, sl, B, hm, W, T, hN0, t17, rm, Cf, Tz⟩ := Q
  have hs : ∀ x, x ≠ 15 → sm hc (nx9 hc) x := fun x hx => ⟨fun j => by unfold nx9; rw [hI_sI, if_neg (by omega)], fun _ => rfl, rfl, rfl⟩
  refine ⟨q, m, sl, BS_c B rfl (fun x j hx => by unfold nx9; rw [hI_sI, if_neg (by omega)]) (by unfold nx9; rw [hI_sI, if_neg (by omega)]; exact B.2.2.1.1) B.2.2.2.1.1, hm, BW_c W (fun x hx _ => hs x (by omega)) (Nat.le_refl _) (fun _ _ => rfl) rfl (fun _ _ h => h) (fun x v hx => W.2.2.2.1 x v hx), KT_c T (fun x v hx => hs x (by have := (T x v hx).1; omega)) (Nat.le_refl _) (fun _ _ _ _ => rfl) (Nat.le_refl _), hN0, t17, rm, Cf, TZ_c Tz (fun u _ _ => rfl) (fun u z0 z1 o _ _ => hs _ (by have := W.2.1 u z0 z1; omega))⟩
/-- the text, from its first token on -/
def TE2 (n : Nat) (b : Nat → Int) (N0 M0 p : Nat) (hc hr : hS) (x : (Int × hS) ⊕ (Int × hS)) (y : Int × hS) : Prop := (∃ hc' hr', x = .inl (0, hc') ∧ y = (0, hr') ∧ FT N0 hc hc' ∧ FW hr hr' ∧ FLR N0 M0 hc' hr') ∨ (∃ hc' hr' l' K' mk', x = .inr (1, hc') ∧ y = (1, hr') ∧ FT N0 hc hc' ∧ FW hr hr' ∧ MP n b N0 M0 l' K' p mk' rN hc' hr')
theorem RPl (P0 : MP n b N0 M0 0 K p mk rN hc hr) (h9 : hI hc 15 9 = 0) (hp : hR hc 15 11 = p) : ∃ x, lp (fun s => c42_b39 s.1 s.2) hF0 (1, hc) = some x ∧ ∃ v3, c193 hr = some v3 ∧ ∃ y, lp (fun s => c183_b18 s.1 s.2) hF0 (v3.1, v3.2) = some y ∧ TE2 n b N0 M0 p hc hr x y := by
  obtain ⟨s, q2, q3, q4, h1, -⟩ := MP_at P0
  have w := mtc q2
  have h448 : 448 ≤ N0 ∧ N0 ≤ p := by obtain ⟨_, _, _, _, _, _, _, z, _⟩ := P0; exact ⟨z.2.1, z.1⟩
  have pnul : ∀ h : hS, FT N0 hc h → hnul (hR h 15 11) = some false := fun h f => by
    rw [(f.2 15 (by omega)).2.2.1, hp, hnul_8 (by omega)]
  have stopC : ∀ h : hS, lp (fun s => c42_b39 s.1 s.2) 1999999 (0, h) = some (.inl (0, h)) := fun h => by
    rw [show (1999999 : Nat) = 1999998 + 1 from rfl, lp_d (r := .inl (0, h))]
    show c42_b39 0 h = _
    unfold c42_b39
    rw [if_pos rfl]
  have stopR : ∀ h : hS, lp (fun s => c183_b18 s.1 s.2) hF0 (0, h) = some (0, h) := fun h => by
    rw [show hF0 = 1999999 + 1 from rfl, lp_d (r := (0, h))]
    show c183_b18 0 h = _
    unfold c183_b18
    rw [if_pos rfl]
  by_cases c : s = 200
  · have e1 : c42_b39 1 hc = (c44 hc).bind (fun v27 => c42_j166 v27.1 v27.2) := by
      unfold c42_b39 c42_j70
      rw [if_neg (by omega), h9, if_neg (by omega), q3, pnul hc FT_rf]
      simp only [bsome]
      rw [if_neg (by decide), if_pos c]
    obtain ⟨hc1, hr1, f1, g1, ⟨x1, x2, l1, K1, l2, Q1⟩ | ⟨x1, x2, x3⟩⟩ := RK P0 hp (h1 (by omega)) (by rw [q4]; omega)
    · rw [x1] at e1
      have e1 : c42_b39 1 hc = some (.inl (1, nx9 hc1)) := e1
      have h91 : hI (nx9 hc1) 15 9 = 1 := by
        unfold nx9
        rw [hI_sI, if_pos ⟨rfl, rfl⟩, (f1.2 15 (by omega)).2.2.2 9 (by omega), h9]
        rfl
      have key := lp_tw (f := fun s : Int × hS => c42_b39 s.1 s.2) (g := fun s : Int × hS => c183_b18 s.1 s.2)
        (fun k s t => (s.1 = 0 ∧ t.1 = 0 ∧ FT N0 hc s.2 ∧ FW hr t.2 ∧ FLR N0 M0 s.2 t.2) ∨ (s.1 = 1 ∧ t.1 = 1 ∧ FT N0 hc s.2 ∧ FW hr t.2 ∧ 1 ≤ k ∧ ∃ (i l' : Nat) (K' : Nat → Int → Prop) (mk' : Nat), MP n b N0 M0 l' K' p mk' rN s.2 t.2 ∧ hI s.2 15 9 = (i : Int) ∧ 1 ≤ i ∧ 2 * i ≤ l' ∧ k + l' = 1003))
        (TE2 n b N0 M0 p hc hr) ?_ 1999999 hF0 (1003 - l1) (1, nx9 hc1) (1, hr1) ?_ (by omega) (hF0_lt (by omega))
      · obtain ⟨x, y, a1, a2, a3⟩ := key
        refine ⟨x, ?_, _, x2, y, a2, a3⟩
        rw [show hF0 = 1999999 + 1 from rfl, lp_n (s' := ((1 : Int), nx9 hc1)) e1]
        exact a1
      · rintro k ⟨s0, h⟩ ⟨t0, t⟩ (⟨u1, u2, u3, u4, u5⟩ | ⟨u1, u2, u3, u4, u5, i, l', K', mk', u6, u7, u8, u9, u10⟩)
        · have u1 : s0 = 0 := u1
          have u2 : t0 = 0 := u2
          subst u1 u2
          refine .inl ⟨.inl (0, h), (0, t), ?_, ?_, .inl ⟨h, t, rfl, rfl, u3, u4, u5⟩⟩
          · show c42_b39 0 h = _
            unfold c42_b39
            rw [if_pos rfl]
          · show c183_b18 0 t = _
            unfold c183_b18
            rw [if_pos rfl]
        · have u1 : s0 = 1 := u1
          have u2 : t0 = 1 := u2
          subst u1 u2
          have u3 : FT N0 hc h := u3
          have u4 : FW hr t := u4
          have u6 : MP n b N0 M0 l' K' p mk' rN h t := u6
          have u7 : hI h 15 9 = (i : Int) := u7
          obtain ⟨s2, v2, v3, v4, v5, v6⟩ := MP_at u6
          have w2 := mtc v2
          have eR : c183_b18 1 t = if s2 = 4 then some (.inr (1, t)) else (c193 t).bind (fun v6 => some (.inl (v6.1, v6.2))) := by
            unfold c183_b18
            rw [if_neg (by omega), v4]
            by_cases z : s2 = 4
            · rw [if_pos (by omega), if_pos z]
            · rw [if_neg (by omega), if_neg z]
          have eC : c42_b39 1 h = if s2 = 200 then (c44 h).bind (fun v27 => c42_j166 v27.1 v27.2) else if s2 = 4 then some (.inr (.inr (1, h))) else c42_j156 h := by
            unfold c42_b39 c42_j70 c42_j107 c42_j142
            rw [if_neg (by omega), u7, if_neg (by omega), v3, pnul h u3]
            simp only [bsome]
            rw [if_neg (by decide), if_pos trivial, if_pos trivial, if_neg (show ¬ (i : Int) ≤ 0 by omega)]
          show (∃ x y, c42_b39 1 h = _ ∧ c183_b18 1 t = _ ∧ _) ∨ (∃ k' s' t', c42_b39 1 h = _ ∧ c183_b18 1 t = _ ∧ _)
          rw [eC, eR]
          by_cases z4 : s2 = 4
          · rw [if_neg (by omega), if_pos z4, if_pos z4]
            exact .inl ⟨_, _, rfl, rfl, .inr ⟨h, t, l', K', mk', rfl, rfl, u3, u4, u6⟩⟩
          · rw [if_neg z4, if_neg z4]
            by_cases z2 : s2 = 200
            · rw [if_pos z2]
              obtain ⟨hc2, hr2, f2, g2, ⟨y1, y2, l2', K2, y3, y4⟩ | ⟨y1, y2, y3⟩⟩ := RK u6 (by rw [(u3.2 15 (by omega)).2.2.1]; exact hp) (v5 (by omega)) (by rw [v4]; omega)
              · obtain ⟨-, -, -, -, -, b6⟩ := MP_at y4
                rw [y1, y2]
                refine .inr ⟨1003 - l2', (1, nx9 hc2), (1, hr2), rfl, rfl, by omega, .inr ⟨rfl, rfl, FT_tr u3 (FT_tr (FT_FK f2) FT_nx), FW_tr u4 g2, by omega, i + 1, l2', K2, mk' + 1, MP_nx y4, ?_, by omega, by omega, by omega⟩⟩
                show hI (nx9 hc2) 15 9 = _
                unfold nx9
                rw [hI_sI, if_pos ⟨rfl, rfl⟩, (f2.2 15 (by omega)).2.2.2 9 (by omega), u7, wadd_n (by omega)]
              · rw [y1, y2]
                exact .inr ⟨0, (0, nx9 hc2), (0, hr2), rfl, rfl, by omega, .inl ⟨rfl, rfl, FT_tr u3 (FT_tr (FT_FK f2) FT_nx), FW_tr u4 g2, FLR_nx y3⟩⟩
            · rw [if_neg z2]
              obtain ⟨hc2, hr2, y1, y2, f2, g2, y3⟩ : ∃ hc2 hr2, c46 1 (hI h 15 3) h = some (0, hc2) ∧ c194 1 t = some (0, hr2) ∧ FK N0 h hc2 ∧ FW t hr2 ∧ FLR N0 M0 hc2 hr2 := by
                obtain ⟨q, m, sl, B, hm, W, T, hN0, t17, rm, -⟩ := u6
                have b1 := BX_l B
                have b2 := W.1.1.2.1
                obtain ⟨hc2, hr2, y1, y2, f2, g2, y3⟩ := BS_no (c := 1) B (by omega)
                exact ⟨hc2, hr2, y1, y2, FK_FC f2, FW_FR g2, FLR_FC f2 y3 ⟨by omega, by omega⟩⟩
              have e193 : c193 t = some (0, hr2) := by
                unfold c193
                rw [v4, if_neg (by omega), y2]
                rfl
              unfold c42_j156
              rw [y1, e193]
              exact .inr ⟨0, (0, nx9 hc2), (0, hr2), rfl, rfl, by omega, .inl ⟨rfl, rfl, FT_tr u3 (FT_tr (FT_FK f2) FT_nx), FW_tr u4 g2, FLR_nx y3⟩⟩
      · obtain ⟨-, -, -, -, -, b6⟩ := MP_at Q1
        exact .inr ⟨rfl, rfl, FT_tr (FT_FK f1) FT_nx, g1, by omega, 1, l1, K1, mk + 1, MP_nx Q1, h91, by omega, by omega, by omega⟩
    · rw [x1] at e1
      have e1 : c42_b39 1 hc = some (.inl (0, nx9 hc1)) := e1
      refine ⟨.inl (0, nx9 hc1), ?_, _, x2, (0, hr1), stopR hr1, .inl ⟨_, _, rfl, rfl, FT_tr (FT_FK f1) FT_nx, g1, FLR_nx x3⟩⟩
      rw [show hF0 = 1999999 + 1 from rfl, lp_n (s' := ((0 : Int), nx9 hc1)) e1]
      exact stopC _
  · obtain ⟨hc2, hr2, y1, y2, f2, g2, y3⟩ : ∃ hc2 hr2, c46 1 (hI hc 15 3) hc = some (0, hc2) ∧ c194 1 hr = some (0, hr2) ∧ FK N0 hc hc2 ∧ FW hr hr2 ∧ FLR N0 M0 hc2 hr2 := by
      obtain ⟨q, m, sl, B, hm, W, T, hN0, t17, rm, -⟩ := P0
      have b1 := BX_l B
      have b2 := W.1.1.2.1
      obtain ⟨hc2, hr2, y1, y2, f2, g2, y3⟩ := BS_no (c := 1) B (by omega)
      exact ⟨hc2, hr2, y1, y2, FK_FC f2, FW_FR g2, FLR_FC f2 y3 ⟨by omega, by omega⟩⟩
    have e193 : c193 hr = some (0, hr2) := by
      unfold c193
      rw [q4, if_neg (by omega), y2]
      rfl
    have e1 : c42_b39 1 hc = some (.inl (0, nx9 hc2)) := by
      unfold c42_b39 c42_j70 c42_j107 c42_j142 c42_j156
      rw [if_neg (by omega), h9, if_neg (by omega), q3, pnul hc FT_rf]
      simp only [bsome]
      rw [if_neg (by decide), if_neg c, if_pos trivial, if_pos trivial, if_pos (by omega), y1]
      rfl
    refine ⟨.inl (0, nx9 hc2), ?_, _, e193, (0, hr2), stopR hr2, .inl ⟨_, _, rfl, rfl, FT_tr (FT_FK f2) FT_nx, g2, FLR_nx y3⟩⟩
    rw [show hF0 = 1999999 + 1 from rfl, lp_n (s' := ((0 : Int), nx9 hc2)) e1]
    exact stopC _
end TXT
