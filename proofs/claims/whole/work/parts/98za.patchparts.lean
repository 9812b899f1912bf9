/-! patches: members and edits, alike -/
section PME
variable {n l m N0 M0 q sl : Nat} {b : Nat → Int} {w kn : Int} {hc hr hc2 hr2 : hS} {xs : List Nat}
theorem FC_9 {p : Nat} (f : FC p hc hc2) : hI hc2 15 9 = hI hc 15 9 := f.1.2 15 9 (by omega)
theorem FC_17 {p : Nat} (f : FC p hc hc2) (t17 : hT hc 17 = 1 ∧ hL hc 17 = 4000) : hT hc2 17 = 1 ∧ hL hc2 17 = 4000 := by
  have e := f.1.1
  refine ⟨?_, ?_⟩
  · show hc2.2.2.2.1 17 = 1
    rw [e]; exact t17.1
  · show hc2.2.2.2.2.1 17 = 4000
    rw [e]; exact t17.2
theorem FC_R {p : Nat} (f : FC p hc hc2) (x j : Nat) : hR hc2 x j = hR hc x j := by
  show hc2.2.1 x j = hc.2.1 x j
  rw [f.1.1]
/-- a value: field, link, static -/
theorem MP_val {s v pl : Int} (P : PBt n b N0 M0 l w m xs hc hr) (B : BX sl n b (l + 2) q m 0 hc2 hr2) (fc : FC 0 hc hc2) (fr : FR m hr hr2) (hs : s = 202 ∨ s = 203 ∨ s = 204) (v0 : 0 ≤ v ∧ v < 40) : JK N0 M0 hc2 hr2 (MQe n b N0 M0 l w m xs kn 0 hc hr) (c59_j88 0 kn 0 s pl v hc2) (c204_j180 (-1) (s - 100) v hr2) := by
  obtain ⟨-, hN0, hm, -⟩ := PB_l P
  unfold c59_j88
  rw [if_pos rfl, c204_v (show s - 100 ≠ 105 by omega)]
  simp only [bsome]
  rw [if_neg (show ¬ s = 205 by omega)]
  rcases VAL hs B with ⟨k, hc1, hr1, val, e1, e2, e3, e4, B1, hk, f1, g1⟩ | ⟨hc1, hr1, e1, e2, f1, g1, L1⟩
  · rw [e1, e2]
    simp only [bsome]
    rw [if_neg (show ¬ (1 : Int) = 0 by omega)]
    have ej : c204_j271 (-1) (s - 100) v hr1 = c204_j332 (if s = 204 then 31 else 30) v hr1 := by
      unfold c204_j271 c204_j294 c204_j317
      rw [if_pos rfl, if_pos rfl]
      by_cases c : s = 204
      · rw [if_pos (by omega), if_pos c]
      · rw [if_neg (by omega), if_neg c]
    rw [ej]
    obtain ⟨t2, n1, B2, g2, ⟨d0, d1, d2, d3, d4⟩, e22, -⟩ := BS_nt (s := if s = 204 then 31 else 30) (x := v) (y := hI hr1 395 24) (z := 0) (t := 22) (.inr rfl) B1 (by omega)
    unfold c204_j332
    rw [n1]
    simp only [bsome]
    obtain ⟨hc4, hr4, fc4, fr4, ⟨p1, p2, B4, p3, p4⟩ | ⟨p1, p2, p3⟩⟩ := BS_ps B2 (c := 59) rfl
    · rw [p1, p2]
      have kb : kB (1 : Int) = some () := rfl
      simp only [bsome, kb]
      rw [if_neg (show ¬ (1 : Int) = 0 by omega)]
      unfold c59_j129 c59_j174
      rw [if_neg (show ¬ s = 205 by omega)]
      have F0 : FK N0 hc hc4 := FK_tr (FK_FC fc) (FK_tr (FK_FC f1) (FK_FC fc4))
      have n4 : hN hc4 = hN hc ∧ hM hc4 = hM hc := by
        have a1 := FC_nm fc
        have a2 := FC_nm f1
        have a3 := FC_nm fc4
        omega
      have S0 : SAt hc hc4 := SA_tr (SA_tr (SA_FC fc) (SA_FC f1) (by rw [(FC_nm fc).1]; exact Nat.le_refl _)) (SA_FC fc4) (by rw [(FC_nm f1).1, (FC_nm fc).1]; exact Nat.le_refl _)
      have hlt := B4.1.2.2.1
      have tw := tkW_le (n := n) (b := b) (l := l) (l' := k + 1) (by omega) (by omega)
      have p9 : hI (mkH hc4 22 6) 15 9 = hI hc 15 9 := by rw [hI_mk, if_neg (by omega)]; exact (F0.2 15 (by omega)).2.2.2 9 (by omega)
      have p10 : hI (mkH hc4 22 6) 15 10 = val := by
        rw [hI_mk, if_neg (by omega), p3, hI_sI, if_neg (by omega)]
        exact e3
      obtain ⟨h5, h6, y1, y2, y3, -, y4, P6, y5, y6, y7, y8, y9, y10⟩ := PB_add (s := s) (k := kn) (nm := v) (o := val) (cd := 0) (w' := w) P B4 (by omega) (by omega) F0 S0 ⟨by omega, by omega⟩ (by rw [if_neg (by omega), if_neg (by omega)]; omega)
      simp only [bsome]
      rw [k8_s (by omega), p9, p10]
      simp only [bsome]
      rw [y1]
      simp only [bsome]
      rw [hnul_0]
      simp only [bsome]
      rw [if_pos trivial, y2, kT_s y3]
      simp only [bsome]
      rw [y4]
      have nj : ∀ t, t < m + 1 → ∀ j, j < 5 → nd hr4 t j = nd (sI t2 395 22 (m : Int)) t j := fun t ht j hj => nd_FR fr4 ht hj
      refine JK_ok (FK_tr (FK_FC f1) (FK_tr (FK_FC fc4) y10)) (FW_tr (FW_FR g1) (FW_tr (FW_FR g2) (FW_FR fr4))) ⟨k + 1, m + 1, hN hc4, m, ⟨by omega, by omega⟩, P6, y7, fun t ht j hj => ?_, ⟨Nat.le_refl _, by omega⟩, ?_, ?_, ⟨s, val, 0, ?_, ?_, ?_⟩, y9, fun _ => ?_⟩
      · rw [nj t (by omega) j hj, nd_FR g2 ht hj, nd_FR g1 ht hj, nd_FR fr ht hj]
      · rw [p4.2.2.1 395 22 (by omega)]
        exact e22
      · rw [nj m (by omega) 4 (by omega)]; exact d4
      · rw [nj m (by omega) 1 (by omega), d1]; exact y5
      · rw [nj m (by omega) 1 (by omega), d1]; exact v0
      · rw [nj m (by omega) 0 (by omega), nj m (by omega) 2 (by omega), d0, d2, e4]
        by_cases c : s = 204
        · rw [if_pos c]
          exact .inr (.inl ⟨rfl, c, rfl⟩)
        · rw [if_neg c]
          exact .inl ⟨rfl, by omega, rfl⟩
      · rw [nj m (by omega) 0 (by omega), d0]
        split <;> omega
    · rw [p1, p2]
      have kb : kB (0 : Int) = some () := rfl
      simp only [bsome, kb]
      exact JK_no (FK_tr (FK_FC f1) (FK_FC fc4)) (FW_tr (FW_FR g1) (FW_tr (FW_FR g2) (FW_FR fr4))) ⟨p3, by have := FC_nm fc; have := FC_nm f1; have := FC_nm fc4; have := PB_rm P; omega, by have := FC_nm fc; have := FC_nm f1; have := FC_nm fc4; have := PB_rm P; omega⟩
  · rw [e1, e2]
    simp only [bsome]
    exact JK_no (FK_FC f1) (FW_FR g1) ⟨L1, by have := FC_nm fc; have := FC_nm f1; have := PB_rm P; omega, by have := FC_nm fc; have := FC_nm f1; have := PB_rm P; omega⟩
/-- an act -/
theorem MP_act {v pl : Int} (P : PBt n b N0 M0 l w m xs hc hr) (B : BX sl n b (l + 2) q m 0 hc2 hr2) (fc : FC 0 hc hc2) (fr : FR m hr hr2) (v0 : 0 ≤ v ∧ v < 40) : JK N0 M0 hc2 hr2 (MQe n b N0 M0 l w m xs kn 0 hc hr) (c59_j88 0 kn 0 205 pl v hc2) (c204_j180 (-1) 105 v hr2) := by
  obtain ⟨-, hN0, hm, -⟩ := PB_l P
  have t17 : hT hc 17 = 1 ∧ hL hc 17 = 4000 := by obtain ⟨_, _, _, _, _, _, _, _, z, _⟩ := P; exact z
  have t17' := FC_17 fc t17
  obtain ⟨fn, fm⟩ := FC_nm fc
  unfold c59_j88 c59_j129 c204_j180
  rw [if_pos rfl, if_pos rfl]
  simp only [bsome]
  rw [if_pos trivial, if_pos trivial]
  have B0 : BX sl n b (l + 2) q m 0 (sI hc2 15 10 (-1)) hr2 := BS_c B rfl (fun x i hx => by rw [hI_sI, if_neg (by omega)]) (by rw [hI_sI, if_neg (by omega)]; exact B.2.2.1.1) B.2.2.2.1.1
  have fcA : FC 0 hc (sI hc2 15 10 (-1)) := FC_tr fc (FC_sI (by omega))
  have fcB : FC 0 hc2 (sI hc2 15 10 (-1)) := FC_sI (by omega)
  have n0 : hN (sI hc2 15 10 (-1)) = hN hc := fn
  have m0 : hM (sI hc2 15 10 (-1)) = hM hc := fm
  have t0 : hT (sI hc2 15 10 (-1)) 17 = 1 := t17'.1
  have l0' : hL (sI hc2 15 10 (-1)) 17 = 4000 := t17'.2
  generalize sI hc2 15 10 (-1) = hA at B0 fcA fcB n0 m0 t0 l0' ⊢
  have fkw : ∀ {h h' : hS}, FK (hN hA) h h' → FK N0 h h' := fun f => ⟨f.1, fun x hx => f.2 x (by omega)⟩
  rcases BODY B0 (by omega) t0 l0' (by omega) with ⟨l', m', C, h1, h2, h3, t1, e1, e2, e3, e4, B3, ⟨c1, c2, c3⟩, k3, ⟨u1, u2⟩, s3, g1, x1, x2, x3, K1⟩ | ⟨h1, t1, e1, e2, k1, g1, L1, nn1, nn2⟩
  · rw [e1, e2]
    simp only [bsome]
    rw [if_neg (show ¬ (1 : Int) = 0 by omega), if_neg (show ¬ (1 : Int) = 0 by omega), e3]
    simp only [bsome]
    rw [e4, if_pos trivial]
    obtain ⟨t2, n1, B6, g2, ⟨d0, d1, d2, d3, d4⟩, e22, -⟩ := BS_nt (s := 32) (x := v) (y := hI t1 395 21) (z := 0) (t := 22) (.inr rfl) B3 (by omega)
    unfold c204_j223 c59_j174
    rw [n1]
    simp only [bsome]
    have F0 : FK N0 hc h3 := FK_tr (FK_FC fcA) (fkw k3)
    have S0 : SAt hc h3 := SA_tr (SA_FC fcA) (fun y y1 y2 => s3 y y1 y2) (by omega)
    have q1 := B3.1.2.2.1
    have q2 := TK_len (n := n) (b := b)
    have q3 := B3.1.2.2.2.2.1.2.1
    have tw := tkW_le (n := n) (b := b) (l := l) (l' := l') (by omega) (by omega)
    have p9 : hI (mkH h3 22 6) 15 9 = hI hc 15 9 := by rw [hI_mk, if_neg (by omega)]; exact (F0.2 15 (by omega)).2.2.2 9 (by omega)
    obtain ⟨h5, h6, y1, y2, y3, -, y4, P6, y5, y6, y7, y8, y9, y10⟩ := PB_add (s := 205) (k := kn) (nm := v) (o := hI (mkH h3 22 6) 15 10) (cd := hN hA) (w' := w) P B6 (by omega) (by omega) F0 S0 ⟨by omega, by omega⟩ (by rw [if_neg (by omega), if_neg (by omega)]; omega)
    rw [k8_s (by omega), p9]
    simp only [bsome]
    rw [y1]
    simp only [bsome]
    rw [hnul_0]
    simp only [bsome]
    rw [if_pos trivial, y2, kT_s y3]
    simp only [bsome]
    rw [y4]
    have nj : ∀ t, t < m' → ∀ j, j < 5 → nd (sI t2 395 22 (m' : Int)) t j = nd t1 t j := fun t ht j hj => nd_FR g2 ht hj
    have ex : sm h3 h6 (hN hA) := KP_sm y8 (by omega) (by omega) x1 (by omega) (by omega)
    refine JK_ok (FK_tr (FK_FC fcB) (FK_tr (fkw k3) y10)) (FW_tr (FW_FR g1) (FW_FR g2)) ⟨l', m' + 1, hN h3, m', ⟨by omega, by omega⟩, P6, y7, fun t ht j hj => ?_, ⟨c3, by omega⟩, e22, d4, ⟨205, hI (mkH h3 22 6) 15 10, hN hA, ?_, ?_, .inr (.inr (.inl ⟨d0, rfl, ?_⟩))⟩, y9, fun _ => ?_⟩
    · rw [nj t (by omega) j hj, nd_FR g1 ht hj, nd_FR fr ht hj]
    · rw [d1]; exact y5
    · rw [d1]; exact v0
    · rw [d2]
      exact ⟨by omega, (by show hN hA < hN h6; omega), by rw [ex.2.2.1]; exact x1, C, BK_c1 K1 (fun t ht i hi => nj t ht i hi), ⟨by rw [ex.2.2.2]; exact x2, by omega⟩, fun i z hz => by rw [ex.1]; exact x3 i z hz⟩
    · rw [d0]; omega
  · rw [e1, e2]
    simp only [bsome]
    exact JK_no (FK_tr (FK_FC fcB) (fkw k1)) (FW_FR g1) ⟨L1, by have := PB_rm P; omega, by have := PB_rm P; omega⟩
/-- a member told in a patch -/
theorem RMp (P : PBt n b N0 M0 l w m xs hc hr) : JK N0 M0 hc hr (MQe n b N0 M0 l w m xs kn 0 hc hr) (c59 kn 0 hc) (c204 (-1) hr) := by
  obtain ⟨s, v0, pa, q2, q3, q4, h1, -⟩ := PB_at P
  have wm := mtc q2
  unfold c59 c204
  rw [q3, q4, c191_e]
  simp only [bsome]
  by_cases can : 202 ≤ s ∧ s ≤ 205
  · have eL : (if s = 202 then c59_j43 kn 0 s hc else if s = 203 then c59_j43 kn 0 s hc else if s = 204 then c59_j43 kn 0 s hc else if s = 205 then c59_j43 kn 0 s hc else (c46 1 (hI hc 15 3) hc).bind (fun v34 => (kB v34.1).bind (fun u35 => some (v34.1, v34.2)))) = c59_j43 kn 0 s hc := by
      by_cases c2 : s = 202
      · rw [if_pos c2]
      · rw [if_neg c2]
        by_cases c3 : s = 203
        · rw [if_pos c3]
        · rw [if_neg c3]
          by_cases c4 : s = 204
          · rw [if_pos c4]
          · rw [if_neg c4, if_pos (by omega)]
    rw [eL, show (if 102 ≤ mt s ∧ mt s ≤ 105 then (1 : Int) else 0) = 1 from if_pos (by omega), if_neg (show ¬ (1 : Int) = 0 by omega), show mt s = s - 100 by omega]
    obtain ⟨qq, sl, A, Q, B, hm, -⟩ := id P
    obtain ⟨a0, hr1, a1, a2, B1⟩ := BS_adv B (h1 (by omega))
    have fc1 : FC 0 hc (sI hc 15 3 ((l + 1 : Nat) : Int)) := FC_sI (by omega)
    unfold c59_j43
    rw [a0, a1]
    simp only [bsome]
    generalize sI hc 15 3 ((l + 1 : Nat) : Int) = hc1 at B1 fc1 ⊢
    obtain ⟨f, v, hc2, hr2, g1, g2, fc2, fr2, g⟩ := BS_nm B1
    rw [g1, g2]
    simp only [bsome]
    have fc2' : FC 0 hc1 hc2 := ⟨⟨fc2.1.1, fun x j z => fc2.1.2 x j (by omega)⟩, fc2.2⟩
    have fcA := FC_tr fc1 fc2'
    have frA : FR m hr hr2 := FR_tr (FR_fj a2) fr2
    rcases g with ⟨rfl, v1, v2, B2, f1, f2⟩ | ⟨rfl, rfl, L1, e7⟩
    · rw [if_neg (show ¬ v = -1 by omega), if_neg (show ¬ (1 : Int) = 0 by omega), v2, hnul_0]
      simp only [bsome]
      rw [if_pos trivial, if_pos trivial]
      refine JK_re (FK_FC fcA) (FW_FR frA) ?_
      by_cases c5 : s = 205
      · subst c5
        exact MP_act P B2 fcA frA v1
      · exact MP_val P B2 fcA frA (by omega) v1
    · rw [if_pos rfl]
      exact JK_no (FK_FC fcA) (FW_FR frA) (FLR_FC fcA L1 ⟨by have := PB_rm P; omega, by have := PB_rm P; omega⟩)
  · rw [if_neg (show ¬ s = 202 by omega), if_neg (show ¬ s = 203 by omega), if_neg (show ¬ s = 204 by omega), if_neg (show ¬ s = 205 by omega), show (if 102 ≤ mt s ∧ mt s ≤ 105 then (1 : Int) else 0) = 0 from if_neg (by omega), if_pos rfl]
    obtain ⟨hc', hr', g1, g2, g3, g4, g5⟩ := PB_no (c := 1) P (by omega)
    rw [g1, g2]
    exact JK_kl (JK_kr (JK_no g3 g4 g5))
end PME
