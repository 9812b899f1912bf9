section MBF
variable {n l mk N0 M0 p sl : Nat} {b : Nat → Int} {hc hr : hS} {K : Nat → Int → Prop} {r : Int → Nat} {j : Int}
theorem nwF_a {v : Int} (h : nwF hr 1 j 205 v = 0) : aIx hr 1 j v = -1 ∧ wg hr 1 j 39 ≠ 8 := by
  unfold nwF at h
  rw [if_pos rfl] at h
  by_cases c : aIx hr 1 j v = -1
  · rw [if_pos c] at h
    refine ⟨c, fun z => ?_⟩
    rw [if_pos z] at h
    omega
  · rw [if_neg c] at h
    omega
/-- an act -/
theorem MB_act {v kn : Int} {q m l0 : Nat} (B : BX sl n b l q m 0 hc hr) (hm : m ≤ l) (W : BW hc hr K p mk r) (T : KT hc hr K N0 m) (hN0 : N0 ≤ p ∧ 448 ≤ N0 ∧ N0 ≤ hN hc) (t17 : hT hc 17 = 1 ∧ hL hc 17 = 4000) (rm : 2 * hN hc ≤ 2 * N0 + l0 + 28 * mk + 20 ∧ hM hc ≤ M0 + 8 * l0 + 300 * mk + 100) (hl0 : l0 + 2 ≤ l) (Cf : CG hr mk) (Tz : TZ hc p mk) (Wn : WF hr 1 mk (fun u : Int => u.toNat)) (j0 : 0 ≤ j) (j1 : j < mk) (v0 : 0 ≤ v ∧ v < 40) (hw : nwF hr 1 j 205 v = 0) (pl : Int) :
    JK N0 M0 hc hr (fun hc' hr' => ∃ l' K', l ≤ l' ∧ MP n b N0 M0 l' K' p mk r hc' hr' ∧ ∀ u, kd hc' p u = kd hc p u) (c59_j88 0 kn (kd hc p j) 205 pl v hc) (c204_j180 j 105 v hr) := by
  have Q := W.1.2.2.1 j j0 j1
  have hmk := W.1.1.2.1
  have h448 := Q.1.1
  have hp2 := W.1.2.1.2.1
  have hkj := Q.1.2.1
  have hbj := W.2.1 j j0 j1
  have hl1000 := BX_l B
  unfold c59_j88 c59_j129 c204_j180
  rw [if_pos rfl, if_pos rfl]
  simp only [bsome]
  rw [if_pos trivial, if_pos trivial]
  have B0 : BX sl n b l q m 0 (sI hc 15 10 (-1)) hr := BS_c B rfl (fun x i hx => by rw [hI_sI, if_neg (by omega)]) (by rw [hI_sI, if_neg (by omega)]; exact B.2.2.1.1) B.2.2.2.1.1
  have k0 : FK N0 hc (sI hc 15 10 (-1)) := ⟨⟨Nat.le_refl _, Nat.le_refl _⟩, fun x hx => ⟨rfl, rfl, fun _ => rfl, fun i q => by rw [hI_sI, if_neg (by omega)]⟩⟩
  have s0 : ∀ x, 18 ≤ x → sm hc (sI hc 15 10 (-1)) x := fun x hx => ⟨fun i => by rw [hI_sI, if_neg (by omega)], fun _ => rfl, rfl, rfl⟩
  have n0 : hN (sI hc 15 10 (-1)) = hN hc := rfl
  have m0 : hM (sI hc 15 10 (-1)) = hM hc := rfl
  have t0 : hT (sI hc 15 10 (-1)) 17 = 1 := t17.1
  have l0' : hL (sI hc 15 10 (-1)) 17 = 4000 := t17.2
  generalize sI hc 15 10 (-1) = hA at B0 k0 s0 n0 m0 t0 l0' ⊢
  have fkw : ∀ {h h' : hS}, FK (hN hA) h h' → FK N0 h h' := fun f => ⟨f.1, fun x hx => f.2 x (by omega)⟩
  rcases BODY B0 hm t0 l0' (by omega) with ⟨l', m', C, h1, h2, h3, t1, e1, e2, e3, e4, B3, ⟨c1, c2, c3⟩, k3, ⟨u1, u2⟩, s3, g1, x1, x2, x3, K1⟩ | ⟨h1, t1, e1, e2, k1, g1, L1, nn1, nn2⟩
  · rw [e1, e2]
    simp only [bsome]
    rw [if_neg (show ¬ (1 : Int) = 0 by omega), if_neg (show ¬ (1 : Int) = 0 by omega), e3]
    simp only [bsome]
    rw [e4]
    simp only [bsome]
    rw [n0] at u1 s3 x1 x2 x3 ⊢
    rw [m0] at u2
    obtain ⟨K', hK'⟩ : ∃ K' : Nat → Int → Prop, K' = fun y w => K y w ∨ (y = hN hc ∧ w = hI t1 395 21) := ⟨_, rfl⟩
    obtain ⟨h5, y1, ⟨y2, y3⟩, y4, y5⟩ := c48_e (hc := h3) (s := 205) (c := hI (mkH h3 22 6) 15 9) (k := kn) (nm := v) (o := hI (mkH h3 22 6) 15 10) (cd := hN hc) (by omega)
    have s5 : ∀ x, 18 ≤ x → x < hN hc → sm hc h5 x := fun x a1 a2 => sm_tr (s0 x a1) (sm_tr (s3 x a1 a2) (y4.2 x (by omega)))
    have hx5 := y4.2 (hN hc) (by omega)
    have hkd5 : ∀ u, kd h5 p u = kd hc p u := fun u => by
      unfold kd
      split
      · rfl
      · exact (s5 (p + 1) (by omega) hp2).2.1 _
    have W5 : BW h5 t1 K' p mk r := by
      refine BW_c W (fun x hx hx2 => s5 x (by omega) hx2) (by omega) (FC_wg g1 1) (FC_wm g1 1) (fun a w h => by rw [hK']; exact .inl h) (fun x w hx => ?_)
      rw [hK'] at hx
      rcases hx with hx | ⟨rfl, -⟩
      · obtain ⟨z1, z2, z3⟩ := W.2.2.2.1 x w hx
        exact ⟨by omega, z2, z3⟩
      · refine ⟨by omega, .inr (by omega), fun i i0 i1 => .inr ?_⟩
        have := (W.1.2.2.1 i i0 i1).1.2.1
        omega
    have ha := nwF_a hw
    have ha1 : aIx t1 1 j v = -1 ∧ wg t1 1 j 39 ≠ 8 := by
      rw [aIx_cg (fun k f => FC_wg g1 1 k f) j v, FC_wg g1 1]
      exact ha
    obtain ⟨z1, z2, z3, z4, z5, z6, z7⟩ := y5
    obtain ⟨h6, t2, o1, o2, o3, o4, o5, o6⟩ := opA (v := hI t1 395 21) W5 j0 j1 z1 z5 (by rw [z7, hK']; exact .inr ⟨rfl, rfl⟩) (by rw [z7, hx5.2.2.1]; exact x1) v0 (.inr ha1.2)
    rw [hkd5] at o1 o4
    have t24 : hT h5 (kd hc p j) = 24 := by
      have := (W5.1.2.2.1 j j0 j1).1.2.2.1
      rw [hkd5] at this
      exact this
    unfold c59_j174
    simp only [bsome]
    rw [k8_s (by omega), y1]
    simp only [bsome]
    rw [hnul_8 (by omega)]
    simp only [bsome]
    rw [if_neg (by decide), kT_s t24]
    simp only [bsome]
    have e75 : c75 (kd hc p j) (hN h3) h5 = some (0, h6) := by
      unfold c75
      rw [gI_s z1, z2]
      simp only [bsome]
      rw [if_neg (by omega), if_neg (by omega), if_neg (by omega), if_pos trivial, kT_s t24]
      simp only [bsome]
      rw [o1]
      rfl
    rw [e75, if_neg (show ¬ j = -1 by omega), o2]
    simp only [bsome]
    have B5 := BS_f B3 o5
    obtain ⟨t3, n1, B6, g3, -, -, -⟩ := BS_nt (s := 32) (x := v) (y := hI t2 395 21) (z := 0) (t := 22) (.inr rfl) B5 (by omega)
    unfold c204_j223
    rw [n1]
    simp only [bsome]
    have fz : FZ N0 h3 h6 := ⟨⟨by rw [o4.1]; omega, by rw [o4.2.1]; omega⟩, fun x hx => sm_tr (y4.2 x (by omega)) (o4.2.2.2.2 x (by omega))⟩
    have cc := fz.2 17 (by omega)
    have c3' := k3.2 17 (by omega)
    have hkd6 : ∀ u, kd h6 p u = kd hc p u := fun u => by
      rw [← hkd5 u]
      unfold kd
      split
      · rfl
      · exact (o4.2.2.2.2 (p + 1) (by omega)).2.1 _
    have sx : ∀ x, 18 ≤ x → x < hN hc → (x < kd hc p j ∨ kd hc p j + 13 ≤ x) → sm hc h6 x := fun x a1 a2 a3 => sm_tr (s5 x a1 a2) (o4.2.2.2.2 x (by omega))
    have nn : ∀ t i, t < m' → i < 5 → nd (sI t3 395 22 (m' : Int)) t i = nd t1 t i := fun t i ht hi => by
      rw [nd_FR g3 ht hi]
      exact o5.2 399 _ (by omega)
    refine JK_ok (FK_tr k0 (FK_tr (fkw k3) (FK_FZ fz))) (FW_tr (FW_FR g1) (FW_tr (FW_fw o5) (FW_FR g3))) ⟨l', K', by omega, ⟨C.length + 1, m' + 1, 1, BX_up (BS_z B6 fz (by omega)) (Nat.zero_le _), by omega, ?_, ?_, ⟨hN0.1, hN0.2.1, by rw [o4.1]; omega⟩, ⟨?_, ?_⟩, ⟨by rw [o4.1]; omega, by rw [o4.2.1]; omega⟩, ?_, TZ_c Tz (fun u _ _ => hkd6 u) (fun u z0 z1 o o8 o12 => ?_)⟩, hkd6⟩
    · refine BW_c o3 (fun x _ _ => sm_rf) (Nat.le_refl _) (fun k f => FC_wg g3 1 k f) (FC_wm g3 1) (fun _ _ h => h) (fun x v hx => o3.2.2.2.1 x v hx)
    · intro x w hx
      rw [hK'] at hx
      rcases hx with hx | ⟨rfl, rfl⟩
      · obtain ⟨a1, a2, a3, D, a4, a5, a6⟩ := T x w hx
        have ex := sx x (by omega) a2 ((W.2.2.2.1 x w hx).2.2 j j0 j1)
        refine ⟨a1, by rw [o4.1]; omega, by rw [ex.2.2.1]; exact a3, D, BK_up (BK_c1 a4 (fun t ht i hi => ?_)) (show m ≤ m' + 1 by omega), ⟨by rw [ex.2.2.2]; exact a5.1, a5.2⟩, fun i z hz => by rw [ex.1]; exact a6 i z hz⟩
        rw [nn t i (by omega) hi]
        exact nd_FR g1 ht hi
      · have ex : sm h3 h6 (hN hc) := sm_tr hx5 (o4.2.2.2.2 (hN hc) (by omega))
        refine ⟨by omega, by rw [o4.1]; omega, by rw [ex.2.2.1]; exact x1, C, BK_lo (Nat.zero_le m) (BK_up (BK_c1 K1 (fun t ht i hi => nn t i ht hi)) (Nat.le_succ m')), ⟨by rw [ex.2.2.2]; exact x2, by
          have q1 := B3.1.2.2.1
          have q2 := TK_len (n := n) (b := b)
          have q3 := B3.1.2.2.2.2.1.2.1
          omega⟩, fun i z hz => by rw [ex.1]; exact x3 i z hz⟩
    · rw [cc.2.2.1, c3'.1]; exact t0
    · rw [cc.2.2.2, c3'.2.1]; exact l0'
    · refine CG_cg (CG_a (CG_cg Cf (fun k f => FC_wg g1 1 k f)) (WF_cg Wn (fun k f => FC_wg g1 1 k f) (FC_wm g1 1)) o6) (fun k f => FC_wg g3 1 k f)
    · have hku := (W.1.2.2.1 u z0 z1).1.2.1
      have hbu := W.2.1 u z0 z1
      refine sm_tr (s5 _ (by omega) (by omega)) (o4.2.2.2.2 _ ?_)
      by_cases c : u = j
      · rw [c]; omega
      · by_cases c2 : u < j
        · have := W.2.2.1 u j z0 c2 j1
          omega
        · have := W.2.2.1 j u j0 (by omega) z1
          omega
  · rw [e1, e2]
    simp only [bsome]
    exact JK_no (FK_tr k0 (fkw k1)) (FW_FR g1) ⟨L1, by omega, by omega⟩
/-- a member -/
theorem RM {kn : Int} (Q : MP n b N0 M0 l K p mk r hc hr) (Wn : WF hr 1 mk (fun u : Int => u.toNat)) (jm : j + 1 = mk) (j0 : 0 ≤ j) (j1 : j < mk) : JK N0 M0 hc hr (fun hc' hr' => ∃ l' K', l < l' ∧ MP n b N0 M0 l' K' p mk r hc' hr' ∧ ∀ u, kd hc' p u = kd hc p u) (c59 kn (kd hc p j) hc) (c204 j hr) := by
  obtain ⟨q, m, sl, B, hm, W, T, hN0, t17, rm, Cf, Tz⟩ := Q
  have hp2 := W.1.2.1.2.1
  have hKj := W.1.2.2.1 j j0 j1
  have hl1000 := BX_l B
  have hmk12 := W.1.1.2.1
  have room : hN hc ≤ N0 + 1165 ∧ hM hc ≤ M0 + 13000 := ⟨by omega, by omega⟩
  obtain ⟨s, v0, q2, q3, q4, h1, -⟩ := BS_at B
  have w := mtc q2
  unfold c59 c204
  rw [q3, q4, c191_e]
  simp only [bsome]
  by_cases can : 202 ≤ s ∧ s ≤ 205
  · have eL : (if s = 202 then c59_j43 kn (kd hc p j) s hc else if s = 203 then c59_j43 kn (kd hc p j) s hc else if s = 204 then c59_j43 kn (kd hc p j) s hc else if s = 205 then c59_j43 kn (kd hc p j) s hc else (c46 1 (hI hc 15 3) hc).bind (fun v34 => (kB v34.1).bind (fun u35 => some (v34.1, v34.2)))) = c59_j43 kn (kd hc p j) s hc := by
      by_cases c2 : s = 202
      · rw [if_pos c2]
      · rw [if_neg c2]
        by_cases c3 : s = 203
        · rw [if_pos c3]
        · rw [if_neg c3]
          by_cases c4 : s = 204
          · rw [if_pos c4]
          · rw [if_neg c4, if_pos (by omega)]
    rw [eL, show (if 102 ≤ mt s ∧ mt s ≤ 105 then (1 : Int) else 0) = 1 from if_pos (by omega), if_neg (show ¬ (1 : Int) = 0 by omega), show mt s = s - 100 by omega]
    obtain ⟨a0, hr1, a1, a2, B1⟩ := BS_adv B (h1 (by omega))
    obtain ⟨s1, pa, pv, d1, d2, d3, d4, d5, d6, -⟩ := RD_at B1.1
    have fc1 : FC q hc (sI hc 15 3 ((l + 1 : Nat) : Int)) := FC_sI (by omega)
    have h153 : hI (sI hc 15 3 ((l + 1 : Nat) : Int)) 15 3 = ((l + 1 : Nat) : Int) := by rw [hI_sI, if_pos ⟨rfl, rfl⟩]
    unfold c59_j43
    rw [a0, a1]
    simp only [bsome]
    rw [h153]
    generalize sI hc 15 3 ((l + 1 : Nat) : Int) = hc1 at B1 d3 d5 fc1 h153 ⊢
    obtain ⟨f, v, hc2, hr2, g1, g2, fc2, fr2, g⟩ := BS_nm B1
    rw [g1, g2]
    simp only [bsome]
    have fcA := FC_tr fc1 fc2
    have frA : FR m hr hr2 := FR_tr (FR_fj a2) fr2
    rcases g with ⟨rfl, v1, v2, B2, f1, f2⟩ | ⟨rfl, rfl, L1, e7⟩
    · rw [if_neg (show ¬ v = -1 by omega), if_neg (show ¬ (1 : Int) = 0 by omega), v2]
      have W2 := BW_F W fcA frA (by omega)
      have T2 := KT_F T fcA frA (by omega) (Nat.le_refl m)
      have hkd2 : ∀ u, kd hc2 p u = kd hc p u := fun u => by
        unfold kd
        split
        · rfl
        · exact (FC_x fcA (p + 1) (by omega)).2.1 _
      obtain ⟨fn, fm⟩ := FC_nm fcA
      have t24 : hT hc2 (kd hc p j) = 24 := by
        have := (W2.1.2.2.1 j j0 j1).1.2.2.1
        rw [hkd2] at this
        exact this
      have e60 := c60_w (n := v) W2.1 j0 j1 s
      rw [hkd2] at e60
      have eT := c204_t (nm := v) W2.1.1 j0 j1 can (hI hr1 395 4)
      rw [hnul_8 (by have := hKj.1.1; omega)]
      simp only [bsome]
      rw [if_neg (by decide), kT_s t24]
      simp only [bsome]
      rw [e60]
      simp only [bsome]
      rw [eT]
      have Tz2 : TZ hc2 p mk := TZ_c Tz (fun u _ _ => hkd2 u) (fun u z0 z1 o _ _ => FC_x fcA _ (by have := W.2.1 u z0 z1; omega))
      have Cf2 : CG hr2 mk := CG_cg Cf (fun k f => FC_wg frA 1 k f)
      have Wn2 : WF hr2 1 mk (fun u : Int => u.toNat) := WF_cg Wn (fun k f => FC_wg frA 1 k f) (FC_wm frA 1)
      refine JK_re (FK_FC fcA) (FW_FR frA) ?_
      by_cases z : nwF hr2 1 j s v = 0
      · rw [if_pos z, z]
        have rm2 : 2 * hN hc2 ≤ 2 * N0 + l + 28 * mk + 20 ∧ hM hc2 ≤ M0 + 8 * l + 300 * mk + 100 := by rw [fn, fm]; exact rm
        have t17' : hT hc2 17 = 1 ∧ hL hc2 17 = 4000 := by
          have e := fcA.1.1
          refine ⟨?_, ?_⟩
          · show hc2.2.2.2.1 17 = 1
            rw [e]; exact t17.1
          · show hc2.2.2.2.2.1 17 = 4000
            rw [e]; exact t17.2
        by_cases c5 : s = 205
        · have z5 : nwF hr2 1 j 205 v = 0 := by rw [← c5]; exact z
          have main := MB_act (kn := kn) (l0 := l) B2 (by omega) W2 T2 ⟨hN0.1, hN0.2.1, by rw [fn]; exact hN0.2.2⟩ t17' rm2 (by omega) Cf2 Tz2 Wn2 j0 j1 v1 z5 (((l + 1 : Nat) : Int))
          rw [hkd2] at main
          rw [c5]
          refine JK_im main (fun hc' hr' _ _ ⟨l', K', x1, x2, x3⟩ => ⟨l', K', by omega, x2, fun u => by rw [x3 u, hkd2]⟩)
        · have main := MB_val (kn := kn) (l0 := l) (s := s) B2 (by omega) W2 T2 ⟨hN0.1, hN0.2.1, by rw [fn]; exact hN0.2.2⟩ t17' rm2 (by omega) Cf2 Tz2 Wn2 jm j0 j1 (by omega) v1 z (((l + 1 : Nat) : Int))
          rw [hkd2] at main
          refine JK_im main (fun hc' hr' _ _ ⟨l', K', x1, x2, x3⟩ => ⟨l', K', by omega, x2, fun u => by rw [x3 u, hkd2]⟩)
      · rw [if_neg z]
        unfold c59_j88
        rw [if_neg z, c46_e (a := pa) B2.1.1 B2.1.2.2.2.2.1.2.1 d1, c195_e B2.2.1.1, d6]
        refine JK_kl (JK_kr (JK_no (FK_FC (FC_tr (FC_sI (p := 0) (by omega)) (FC_sI (by omega)))) (FW_FR (FR_tr (FR_sI (m := 0) (by omega)) (FR_sI (by omega)))) ⟨⟨nwF hr2 1 j s v, pa, ?_, ?_, ?_, ?_, ?_, ?_, ?_⟩, by show hN hc2 ≤ _; omega, by show hM hc2 ≤ _; omega⟩))
        · rcases nwF_3 (hr := hr2) (w := 1) (j := j) (s := s) (nm := v) with y | y | y <;> omega
        · rw [hI_sI, if_neg (by omega), hI_sI, if_pos ⟨rfl, rfl⟩]
        · rw [hI_sI, if_pos ⟨rfl, rfl⟩]
        · rw [hI_sI, if_neg (by omega), hI_sI, if_pos ⟨rfl, rfl⟩]
        · rw [hI_sI, if_pos ⟨rfl, rfl⟩]
        · refine nmR_r (nmR_c B2.2.1.2.1 ?_ (fun j => ?_)) ?_ (fun j => rfl)
          · rw [hI_sI, if_neg (by omega), hI_sI, if_neg (by omega)]
          · rw [hI_sI, if_neg (by omega), hI_sI, if_neg (by omega)]
          · rw [hI_sI, if_neg (by omega), hI_sI, if_neg (by omega)]
        · rw [hI_sI, if_neg (by omega), hI_sI, if_neg (by omega), B2.2.2.1.1]; omega
    · rw [if_pos rfl]
      exact JK_no (FK_FC fcA) (FW_FR frA) (FLR_FC fcA L1 room)
  · rw [if_neg (show ¬ s = 202 by omega), if_neg (show ¬ s = 203 by omega), if_neg (show ¬ s = 204 by omega), if_neg (show ¬ s = 205 by omega), show (if 102 ≤ mt s ∧ mt s ≤ 105 then (1 : Int) else 0) = 0 from if_neg (by omega), if_pos rfl]
    obtain ⟨hc', hr', g1, g2, g3, g4, g5⟩ := BS_no (c := 1) B (by omega)
    rw [g1, g2]
    exact JK_kl (JK_kr (JK_no (FK_FC g3) (FW_FR g4) (FLR_FC g3 g5 room)))
end MBF
