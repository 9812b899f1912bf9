/-! the text of a patch is read by both -/
section TXP
variable {n l m N0 M0 : Nat} {b : Nat → Int} {w : Int} {hc hr : hS} {us : List Nat}
theorem PB_nx (P : PBt n b N0 M0 l w m us hc hr) : PBt n b N0 M0 l w m us (nx9 hc) hr := by
  obtain ⟨q0, sl0, A, Q, B0, hm0, L, hN0, t17, r15, rm, wt⟩ := id P
  have hs : ∀ x, x ≠ 15 → sm hc (nx9 hc) x := fun x hx => ⟨fun j => by unfold nx9; rw [hI_sI, if_neg (by omega)], fun _ => rfl, rfl, rfl⟩
  have hA : A ≠ 15 := by rcases L.2.2.1 with ⟨z, -⟩ | ⟨z, -⟩ <;> omega
  refine ⟨q0, sl0, A, Q, BS_c B0 rfl (fun x j hx => by unfold nx9; rw [hI_sI, if_neg (by omega)]) (by unfold nx9; rw [hI_sI, if_neg (by omega)]; exact B0.2.2.1.1) B0.2.2.2.1.1, hm0, LSt_c L (Nat.le_refl _) (hs N0 (by omega)) (hs A hA) (fun _ _ => rfl), hN0, t17, r15, rm, ?_⟩
  have e : ∀ s, kc (nx9 hc) s us = kc hc s us := fun s => kc_cg us (fun x hx => (hs x (by have := (PB_l P).2.2.2.1 x hx; omega)).1 0)
  rw [e, e]
  exact wt
theorem KP_nx : KP hc (nx9 hc) := ⟨Nat.le_refl _, fun y y1 _ _ _ => ⟨fun j => by unfold nx9; rw [hI_sI, if_neg (by omega)], fun _ => rfl, rfl, rfl⟩⟩
/-- what a read patch is: the nodes L of the changes, their steps us -/
def TXq (n : Nat) (b : Nat → Int) (N0 M0 l m : Nat) (us L : List Nat) (hd : Int) (hc hr : hS) : Prop := PBt n b N0 M0 l 0 m us hc hr ∧ L ≠ [] ∧ LK (nd hr) L hd ∧ (∀ j ∈ L, j < m) ∧ CHS (nd hr) hc N0 0 L us
def TEp (n : Nat) (b : Nat → Int) (N0 M0 : Nat) (hd : Int) (hc hr : hS) (x : (Int × hS) ⊕ (Int × hS)) (y : Int × hS) : Prop := (∃ hc' hr', x = .inl (0, hc') ∧ y = (0, hr') ∧ FT N0 hc hc' ∧ FW hr hr' ∧ FLR N0 M0 hc' hr') ∨ (∃ hc' hr' l' m' us L, x = .inr (1, hc') ∧ y = (1, hr') ∧ FT N0 hc hc' ∧ FW hr hr' ∧ TXq n b N0 M0 l' m' us L hd hc' hr')
theorem c227_go {t : hS} {u : Int} : c227_b39 1 u t = if hI t 395 3 = 0 then some (.inr (1, t)) else (c228 t).bind (fun v6 => if v6.1 = 0 then some (.inl (v6.1, u, v6.2)) else (c219 u (hI v6.2 395 22) v6.2).bind (fun h8 => some (.inl (v6.1, hI h8 395 22, h8)))) := by
  unfold c227_b39
  rw [if_neg (show ¬ (1 : Int) = 0 by omega)]
theorem c42_go {h : hS} {s : Int} (e9 : ¬ 1000 ≤ hI h 15 9) (q3 : c39 h = some s) (r11 : hR h 15 11 = 0) : c42_b39 1 h = if s = 200 ∨ s = 216 ∨ s = 217 ∨ s = 218 ∨ s = 221 then (chF s h).bind (fun v => some (.inl (v.1, nx9 v.2))) else if hI h 15 9 ≤ 0 then c42_j156 h else if s = 4 then some (.inr (.inr (1, h))) else c42_j156 h := by
  unfold c42_b39 c42_j70 c42_j107 c42_j133 c42_j142 c42_j166 chF
  rw [if_neg (show ¬ (1 : Int) = 0 by omega), if_neg e9, q3, r11, hnul_0]
  simp only [bsome]
  rw [if_pos trivial, if_neg (show ¬ (1 : Int) = 0 by omega)]
  by_cases c : s = 200
  · rw [if_pos c, if_pos (.inl c), if_pos c]
    rfl
  · rw [if_neg c, if_neg c]
    by_cases c2 : s = 216
    · rw [if_pos c2, if_pos (.inr (.inl c2)), if_pos c2]
      rfl
    · rw [if_neg c2, if_neg c2]
      by_cases c3 : s = 217 ∨ s = 218 ∨ s = 221
      · rw [if_pos (show s = 200 ∨ s = 216 ∨ s = 217 ∨ s = 218 ∨ s = 221 by omega)]
        by_cases c4 : s = 217
        · rw [if_pos c4]
          rfl
        · rw [if_neg c4]
          by_cases c5 : s = 218
          · rw [if_pos c5]
            rfl
          · rw [if_neg c5, if_pos (show s = 221 by omega)]
            rfl
      · rw [if_neg (show ¬ s = 217 by omega), if_neg (show ¬ s = 218 by omega), if_neg (show ¬ s = 221 by omega), if_neg (show ¬ (s = 200 ∨ s = 216 ∨ s = 217 ∨ s = 218 ∨ s = 221) by omega), if_neg (show ¬ (1 : Int) = 0 by omega)]
/-- no change begins with this token -/
theorem CH_no {s : Int} (P : PBt n b N0 M0 l w m us hc hr) (q2 : VS s ∨ s = 4) (q4 : hI hr 395 3 = mt s) (hs : ¬ (s = 200 ∨ s = 216 ∨ s = 217 ∨ s = 218 ∨ s = 221)) : ∃ hc' hr', c42_j156 hc = some (.inl (0, nx9 hc')) ∧ c228 hr = some (0, hr') ∧ FK N0 hc hc' ∧ FW hr hr' ∧ FLR N0 M0 hc' hr' := by
  obtain ⟨hc', hr', g1, g2, g3, g4, g5⟩ := PB_no (c := 1) P (by omega)
  have wm := mtc q2
  refine ⟨hc', hr', ?_, ?_, g3, g4, g5⟩
  · unfold c42_j156 c42_j166
    rw [g1]
    rfl
  · unfold c228
    rw [if_neg (by omega), c191_e]
    simp only [bsome]
    rw [q4, if_neg (show ¬ (116 ≤ mt s ∧ mt s ≤ 118) by omega), if_pos rfl, if_neg (by omega), g2]
    rfl
theorem RPp (P0 : PBt n b N0 M0 0 0 0 [] hc hr) (h9 : hI hc 15 9 = 0) : ∃ x, lp (fun s => c42_b39 s.1 s.2) hF0 (1, hc) = some x ∧ ∃ v3, c228 hr = some v3 ∧ ∃ y, lp (fun s => c227_b39 s.1 s.2.1 s.2.2) hF0 (v3.1, hI v3.2 395 22, v3.2) = some y ∧ TEp n b N0 M0 (hI v3.2 395 22) hc hr x y := by
  obtain ⟨s, -, pa, q2, q3, q4, h1, -⟩ := PB_at P0
  obtain ⟨-, h448, -⟩ := PB_l P0
  have stopC : ∀ h : hS, lp (fun s => c42_b39 s.1 s.2) 1999999 (0, h) = some (.inl (0, h)) := fun h => by
    rw [show (1999999 : Nat) = 1999998 + 1 from rfl, lp_d (r := .inl (0, h))]
    show c42_b39 0 h = _
    unfold c42_b39
    rw [if_pos rfl]
  have stopR : ∀ (u : Int) (h : hS), lp (fun s => c227_b39 s.1 s.2.1 s.2.2) hF0 (0, u, h) = some (0, h) := fun u h => by
    rw [show hF0 = 1999999 + 1 from rfl, lp_d (r := (0, h))]
    show c227_b39 0 u h = _
    unfold c227_b39
    rw [if_pos rfl]
  have e1 := c42_go (h := hc) (s := s) (by omega) q3 (PB_t17 P0).2.2
  by_cases c : s = 200 ∨ s = 216 ∨ s = 217 ∨ s = 218 ∨ s = 221
  · rw [if_pos c] at e1
    obtain ⟨hc1, hr1, f1, g1, ⟨x1, x2, l1, m1, ys, i1, z1, Q1, z2, z3, z4, z5, z6, z7, z8⟩ | ⟨x1, x2, x3⟩⟩ := CHe P0 c q3
    · rw [x1] at e1
      have e1 : c42_b39 1 hc = some (.inl (1, nx9 hc1)) := e1
      have h91 : hI (nx9 hc1) 15 9 = 1 := by
        unfold nx9
        rw [hI_sI, if_pos ⟨rfl, rfl⟩, (f1.2 15 (by omega)).2.2.2 9 (by omega), h9]
        rfl
      rw [h9] at z7
      obtain ⟨-, -, hm1, -⟩ := PB_l Q1
      have key := lp_tw (f := fun s : Int × hS => c42_b39 s.1 s.2) (g := fun s : Int × Int × hS => c227_b39 s.1 s.2.1 s.2.2)
        (fun k s t => (s.1 = 0 ∧ t.1 = 0 ∧ FT N0 hc s.2 ∧ FW hr t.2.2 ∧ FLR N0 M0 s.2 t.2.2) ∨ (s.1 = 1 ∧ t.1 = 1 ∧ FT N0 hc s.2 ∧ FW hr t.2.2 ∧ 1 ≤ k ∧ ∃ (l' m' : Nat) (us L0 : List Nat) (u : Nat), PBt n b N0 M0 l' 0 m' us s.2 t.2.2 ∧ hI s.2 15 9 = ((L0.length + 1 : Nat) : Int) ∧ t.2.1 = (u : Int) ∧ LK (nd t.2.2) (L0 ++ [u]) (i1 : Int) ∧ (∀ j ∈ L0, j < u) ∧ u < m' ∧ CHS (nd t.2.2) s.2 N0 0 (L0 ++ [u]) us ∧ 2 * (L0.length + 1) ≤ l' ∧ k + l' = 1003))
        (TEp n b N0 M0 (i1 : Int) hc hr) ?_ 1999999 hF0 (1003 - l1) (1, nx9 hc1) (1, (i1 : Int), hr1) ?_ (by omega) (hF0_lt (by omega))
      · obtain ⟨x, y, a1, a2, a3⟩ := key
        refine ⟨x, ?_, _, x2, y, ?_, ?_⟩
        · rw [show hF0 = 1999999 + 1 from rfl, lp_n (s' := ((1 : Int), nx9 hc1)) e1]
          exact a1
        · show lp _ hF0 (1, hI hr1 395 22, hr1) = _
          rw [z5]
          exact a2
        · show TEp n b N0 M0 (hI hr1 395 22) hc hr x y
          rw [z5]
          exact a3
      · rintro k ⟨s0, h⟩ ⟨t0, tl, t⟩ (⟨u1, u2, u3, u4, u5⟩ | ⟨u1, u2, u3, u4, u5, l', m', us, L0, u, u6, u7, u8, u9, u10, u11, u12, u13, u14⟩)
        · have u1 : s0 = 0 := u1
          have u2 : t0 = 0 := u2
          subst u1 u2
          refine .inl ⟨.inl (0, h), (0, t), ?_, ?_, .inl ⟨h, t, rfl, rfl, u3, u4, u5⟩⟩
          · show c42_b39 0 h = _
            unfold c42_b39
            rw [if_pos rfl]
          · show c227_b39 0 tl t = _
            unfold c227_b39
            rw [if_pos rfl]
        · have u1 : s0 = 1 := u1
          have u2 : t0 = 1 := u2
          have u8 : tl = (u : Int) := u8
          subst u1 u2 u8
          have u3 : FT N0 hc h := u3
          have u4 : FW hr t := u4
          have u6 : PBt n b N0 M0 l' 0 m' us h t := u6
          have u7 : hI h 15 9 = ((L0.length + 1 : Nat) : Int) := u7
          obtain ⟨s2, -, pa2, v2, v3, v4, v5, v6⟩ := PB_at u6
          obtain ⟨v7, -, v8, v9, -⟩ := PB_l u6
          have w2 := mtc v2
          have eC := c42_go (h := h) (s := s2) (by omega) v3 (PB_t17 u6).2.2
          have hLm : ∀ j ∈ L0 ++ [u], j ≤ u := fun j hj => by
            rcases List.mem_append.mp hj with hj | hj
            · exact Nat.le_of_lt (u10 j hj)
            · rw [List.mem_singleton.mp hj]; exact Nat.le_refl _
          show (∃ x y, c42_b39 1 h = _ ∧ c227_b39 1 (u : Int) t = _ ∧ _) ∨ (∃ k' s' t', c42_b39 1 h = _ ∧ c227_b39 1 (u : Int) t = _ ∧ _)
          rw [eC, c227_go, v4]
          by_cases z4' : s2 = 4
          · rw [if_neg (by omega), if_neg (by omega), if_pos z4', if_pos (by omega)]
            exact .inl ⟨_, _, rfl, rfl, .inr ⟨h, t, l', m', us, L0 ++ [u], rfl, rfl, u3, u4, u6, by simp, u9, fun j hj => Nat.lt_of_le_of_lt (hLm j hj) u11, u12⟩⟩
          · rw [if_neg (show ¬ mt s2 = 0 by omega)]
            by_cases z2' : s2 = 200 ∨ s2 = 216 ∨ s2 = 217 ∨ s2 = 218 ∨ s2 = 221
            · rw [if_pos z2']
              obtain ⟨hc2, hr2, f2, g2, ⟨y1, y2, l2, m2, ys2, i2, r1, Q2, r2, r3, r4, r5, r6, r7, r8⟩ | ⟨y1, y2, y3⟩⟩ := CHe u6 z2' v3
              · rw [y1, y2]
                simp only [bsome]
                rw [if_neg (show ¬ (1 : Int) = 0 by omega), r5, c219_e (by omega)]
                simp only [bsome]
                obtain ⟨a7, -, a8, a9, -⟩ := PB_l Q2
                obtain ⟨T, hT⟩ : ∃ T, T = sI hr2 399 (5 * (8400 + u) + 4) (i2 : Int) := ⟨_, rfl⟩
                have eT : ∀ a c, c < 5 → ¬ (a = u ∧ c = 4) → nd T a c = nd hr2 a c := fun a c hc5 hq => by
                  rw [hT]
                  show hI (sI hr2 399 (5 * (8400 + u) + 4) (i2 : Int)) 399 _ = _
                  rw [hI_sI, if_neg (by omega)]
                  rfl
                have eU : nd T u 4 = (i2 : Int) := by
                  rw [hT]
                  show hI (sI hr2 399 (5 * (8400 + u) + 4) (i2 : Int)) 399 _ = _
                  rw [hI_sI, if_pos ⟨rfl, rfl⟩]
                have gT : FW hr2 T := by rw [hT]; exact FW_39 (by omega)
                have e22 : hI T 395 22 = (i2 : Int) := by rw [hT, hI_sI, if_neg (by omega)]; exact r5
                have P3 : PBt n b N0 M0 l2 0 m2 (us ++ ys2) (nx9 hc2) T := by
                  rw [hT]
                  exact PB_nx (PB_r Q2)
                rw [← hT, e22]
                have kp : KP h (nx9 hc2) := KP_tr r2 KP_nx
                refine .inr ⟨1003 - l2, (1, nx9 hc2), (1, (i2 : Int), T), rfl, rfl, by omega, .inr ⟨rfl, rfl, FT_tr u3 (FT_tr (FT_FK f2) FT_nx), FW_tr u4 (FW_tr g2 gT), by omega, l2, m2, us ++ ys2, L0 ++ [u], i2, P3, ?_, rfl, ?_, fun j hj => by have := hLm j hj; omega, r4.2, ?_, by rw [List.length_append]; show 2 * (L0.length + 1 + 1) ≤ l2; omega, by omega⟩⟩
                · show hI (nx9 hc2) 15 9 = _
                  unfold nx9
                  rw [hI_sI, if_pos ⟨rfl, rfl⟩, (f2.2 15 (by omega)).2.2.2 9 (by omega), u7, wadd_n (by omega), List.length_append]
                  rfl
                · refine LK_sn u9 (fun j hj => by have := u10 j hj; omega) (fun j hj => ?_) eU (by rw [eT i2 4 (by omega) (by omega)]; exact r6)
                  have a1 := u10 j hj
                  rw [eT j 4 (by omega) (by omega), r3 j (by omega) 4 (by omega)]
                · have old : CHS (nd T) (nx9 hc2) N0 0 (L0 ++ [u]) us := CHS_im (fun c j zs hj hzs q => CH_c q (fun t' ht c' hc' => by
                      have := hLm j hj
                      rw [eT t' c' (by omega) (by omega), r3 t' (by omega) c' (by omega)]) (fun t' _ ht c' hc' => by
                      have := hLm j hj
                      rw [eT t' c' (by omega) (by omega), r3 t' (by omega) c' (by omega)]) (fun c' hc' => by
                      have := hLm j hj
                      rw [eT j c' (by omega) (by omega), r3 j (by omega) c' (by omega)]) kp (by omega) (fun x hx => by have := v9 x (hzs x hx); omega)) u12
                  refine CHS_sn old ?_
                  rw [u7] at r7
                  rw [show 0 + (L0 ++ [u]).length = L0.length + 1 by rw [List.length_append]; show 0 + (L0.length + 1) = _; omega]
                  exact CH_up (CH_c r7 (fun t' ht c' hc' => eT t' c' (by omega) (by omega)) (fun t' a1 ht c' hc' => eT t' c' (by omega) (by omega)) (fun c' hc' => eT i2 c' (by omega) (by omega)) KP_nx (by omega) (fun x hx => r8 x hx)) (Nat.le_refl _) (Nat.zero_le _)
              · rw [y1, y2]
                exact .inr ⟨0, (0, nx9 hc2), (0, (u : Int), hr2), rfl, rfl, by omega, .inl ⟨rfl, rfl, FT_tr u3 (FT_tr (FT_FK f2) FT_nx), FW_tr u4 g2, FLR_nx y3⟩⟩
            · rw [if_neg z2', if_neg (by omega), if_neg z4']
              obtain ⟨hc2, hr2, y1, y2, f2, g2, y3⟩ := CH_no u6 v2 v4 z2'
              rw [y1, y2]
              exact .inr ⟨0, (0, nx9 hc2), (0, (u : Int), hr2), rfl, rfl, by omega, .inl ⟨rfl, rfl, FT_tr u3 (FT_tr (FT_FK f2) FT_nx), FW_tr u4 g2, FLR_nx y3⟩⟩
      · obtain ⟨b1, -, -, b4, -⟩ := PB_l Q1
        refine .inr ⟨rfl, rfl, FT_tr (FT_FK f1) FT_nx, g1, by omega, l1, m1, ys, [], i1, PB_nx Q1, by rw [h91]; rfl, rfl, ⟨rfl, z6⟩, fun j hj => by simp at hj, z4.2, ⟨ys, [], by simp, ?_, rfl⟩, by show 2 * (0 + 1) ≤ l1; omega, by omega⟩
        exact CH_c z7 (fun _ _ _ _ => rfl) (fun _ _ _ _ _ => rfl) (fun _ _ => rfl) KP_nx (by omega) (fun x hx => z8 x hx)
    · rw [x1] at e1
      have e1 : c42_b39 1 hc = some (.inl (0, nx9 hc1)) := e1
      refine ⟨.inl (0, nx9 hc1), ?_, _, x2, (0, hr1), stopR _ hr1, .inl ⟨_, _, rfl, rfl, FT_tr (FT_FK f1) FT_nx, g1, FLR_nx x3⟩⟩
      rw [show hF0 = 1999999 + 1 from rfl, lp_n (s' := ((0 : Int), nx9 hc1)) e1]
      exact stopC _
  · rw [if_neg c, if_pos (by omega)] at e1
    obtain ⟨hc2, hr2, y1, y2, f2, g2, y3⟩ := CH_no P0 q2 q4 c
    rw [y1] at e1
    refine ⟨.inl (0, nx9 hc2), ?_, _, y2, (0, hr2), stopR _ hr2, .inl ⟨_, _, rfl, rfl, FT_tr (FT_FK f2) FT_nx, g2, FLR_nx y3⟩⟩
    rw [show hF0 = 1999999 + 1 from rfl, lp_n (s' := ((0 : Int), nx9 hc2)) e1]
    exact stopC _
end TXP
