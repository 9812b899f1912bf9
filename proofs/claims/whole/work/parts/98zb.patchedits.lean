/-! patches: an edit, alike -/
section PED
variable {n l m N0 M0 q sl : Nat} {b : Nat → Int} {w kn : Int} {hc hr hc2 hr2 : hS} {us : List Nat}
theorem PB_t17 (P : PBt n b N0 M0 l w m us hc hr) : (hT hc 17 = 1 ∧ hL hc 17 = 4000) ∧ hR hc 15 12 = N0 ∧ hR hc 15 11 = 0 := by
  obtain ⟨_, _, _, _, _, _, _, _, z, z1, _⟩ := P
  exact ⟨z, z1.2, z1.1⟩
theorem REp {s : Int} (P : PBt n b N0 M0 l w m us hc hr) (hs : s = 217 ∨ s = 219 ∨ s = 220) (q3 : c39 hc = some s) : JK N0 M0 hc hr (MQe n b N0 M0 l w m us kn 1 hc hr) (c85 kn s hc) (c231 hr) := by
  obtain ⟨hl0, hN0, hm, hx0, hlt⟩ := PB_l P
  obtain ⟨t17, r12, r11⟩ := PB_t17 P
  obtain ⟨s', v0, pa, q2, q3', q4, h1, -⟩ := PB_at P
  have es : s' = s := by rw [q3] at q3'; exact (Option.some.inj q3').symm
  subst es
  have wm := mtc q2
  have h1 := h1 (by omega)
  obtain ⟨a0, hr1, a1, a2, P1⟩ := PB_adv (w' := w - 1) P h1 (by have := tkW_1 (n := n) (b := b) (l := l) hlt; omega)
  have fc1 : FC 0 hc (sI hc 15 3 ((l + 1 : Nat) : Int)) := FC_sI (by omega)
  have tw2 : l + 1 < (TK n b).length → (tkW n b l : Int) + 2 ≤ (tkW n b (l + 1 + 1) : Int) := fun h => by
    have := tkW_le (n := n) (b := b) (l := l) (l' := l + 1 + 1) (by omega) (by omega)
    omega
  have tw3 : l + 2 < (TK n b).length → (tkW n b l : Int) + 3 ≤ (tkW n b (l + 1 + 1 + 1) : Int) := fun h => by
    have := tkW_le (n := n) (b := b) (l := l) (l' := l + 1 + 1 + 1) (by omega) (by omega)
    omega
  unfold c85 c231
  rw [q4, a0]
  simp only [bsome]
  generalize sI hc 15 3 ((l + 1 : Nat) : Int) = hc1 at P1 fc1 ⊢
  obtain ⟨f, v, hc2, hr2, g1, g2, fc2, fr2, g⟩ := PB_nm P1
  have fcA := FC_tr fc1 fc2
  have frA : FR m hr hr2 := FR_tr (FR_fj a2) fr2
  have nA := FC_nm fcA
  have eR : ∀ {h3 : hS}, FK N0 hc h3 → hR h3 15 12 = N0 := fun f => by rw [(f.2 15 (by omega)).2.2.1]; exact r12
  rw [g1]
  simp only [bsome]
  rcases g with ⟨rfl, v1, v2, P2, hl2⟩ | ⟨rfl, rfl, L1⟩
  · rw [if_neg (show ¬ v = -1 by omega)]
    have F2 := FK_FC (N0 := N0) fcA
    have S2 : SAt hc hc2 := SA_FC fcA
    obtain ⟨qq, sl, A, Q, B2, hm2, -⟩ := id P2
    rcases hs with rfl | rfl | rfl
    · -- drop
      rw [show mt 217 = 117 by omega, if_neg (show ¬ (217 : Int) = 219 by omega), if_pos rfl, a1]
      simp only [bsome]
      rw [g2]
      simp only [bsome]
      rw [if_neg (show ¬ (1 : Int) = 0 by omega)]
      unfold c85_j49 c85_j69
      rw [if_neg (show ¬ (217 : Int) = 220 by omega)]
      simp only [bsome]
      rw [if_pos trivial, eR F2]
      refine JK_re F2 (FW_FR frA) (JK_im (ED_end (s := 251) (k := kn) (nm := v) (o := -1) (cd := 0) (sN := 33) (a := hI hr2 395 17) (b' := 0) (w' := w + 1) P B2 (by omega) (by omega) F2 S2 ⟨by omega, by omega⟩ (by rw [if_neg (by omega), if_neg (by omega)]; have := tw2 (by omega); omega)) (fun hc' hr' _ _ ⟨P7, sp, kp, nn, ⟨d0, d1, d2, d4⟩, e22, y9⟩ => ?_))
      exact ⟨l + 1 + 1 + 1, m + 1, hN hc2, m, ⟨by omega, by omega⟩, PB_w P7 (by omega), KP_tr (KP_FC fcA) kp, fun t ht j hj => by rw [nn t ht j hj, nd_FR frA ht hj], ⟨Nat.le_refl _, by omega⟩, e22, d4, ⟨251, -1, 0, by rw [d1, v2]; exact sp, by rw [d1, v2]; exact v1, .inr (.inr (.inr (.inl ⟨d0, rfl⟩)))⟩, y9, fun h => absurd h (by omega)⟩
    · -- rename
      rw [show mt 219 = 119 by omega, if_pos rfl, if_neg (show ¬ (119 : Int) = 117 by omega), if_pos rfl, a1]
      simp only [bsome]
      rw [g2]
      simp only [bsome]
      rw [if_neg (show ¬ (1 : Int) = 0 by omega)]
      obtain ⟨f', v', hc3, hr3, g1', g2', fc3, fr3, g'⟩ := PB_nm P2
      rw [g1', g2']
      simp only [bsome]
      have fcB := FC_tr fcA fc3
      have frB : FR m hr hr3 := FR_tr frA fr3
      have nB := FC_nm fcB
      have F3 := FK_FC (N0 := N0) fcB
      rcases g' with ⟨rfl, v1', v2', P3, hl3⟩ | ⟨rfl, rfl, L1⟩
      · rw [if_neg (show ¬ v' = -1 by omega), if_neg (show ¬ (1 : Int) = 0 by omega)]
        obtain ⟨qq3, sl3, A3, Q3, B3, hm3, -⟩ := id P3
        unfold c85_j49 c85_j69
        rw [if_neg (show ¬ (219 : Int) = 220 by omega)]
        simp only [bsome]
        rw [if_neg (show ¬ (219 : Int) = 217 by omega), eR F3]
        refine JK_re F3 (FW_FR frB) (JK_im (ED_end (s := 219) (k := kn) (nm := v) (o := v') (cd := 0) (sN := 34) (a := hI hr2 395 17) (b' := hI hr3 395 17) (w' := w + 1) P B3 (by omega) (by omega) F3 (SA_FC fcB) ⟨by omega, by omega⟩ (by rw [if_neg (by omega), if_neg (by omega)]; have := tw3 (by omega); omega)) (fun hc' hr' _ _ ⟨P7, sp, kp, nn, ⟨d0, d1, d2, d4⟩, e22, y9⟩ => ?_))
        exact ⟨l + 1 + 1 + 1 + 1, m + 1, hN hc3, m, ⟨by omega, by omega⟩, PB_w P7 (by omega), KP_tr (KP_FC fcB) kp, fun t ht j hj => by rw [nn t ht j hj, nd_FR frB ht hj], ⟨Nat.le_refl _, by omega⟩, e22, d4, ⟨219, v', 0, by rw [d1, v2]; exact sp, by rw [d1, v2]; exact v1, .inr (.inr (.inr (.inr (.inl ⟨d0, rfl, by rw [d2, v2'], v1'⟩))))⟩, y9, fun h => absurd h (by omega)⟩
      · rw [if_pos rfl, if_pos rfl]
        exact JK_no F3 (FW_FR frB) L1
    · -- carry
      rw [show mt 220 = 120 by omega, if_neg (show ¬ (220 : Int) = 219 by omega), if_neg (show ¬ (120 : Int) = 117 by omega), if_neg (show ¬ (120 : Int) = 119 by omega), if_pos rfl, a1]
      simp only [bsome]
      rw [g2]
      simp only [bsome]
      rw [if_neg (show ¬ (1 : Int) = 0 by omega)]
      unfold c85_j49 c85_j69
      rw [if_pos rfl]
      have t17' := FC_17 fcA t17
      have fkw : ∀ {h h' : hS}, FK (hN hc2) h h' → FK N0 h h' := fun f => ⟨f.1, fun x hx => f.2 x (by omega)⟩
      rcases RULE B2 hm2 t17'.1 t17'.2 (by omega) with ⟨l', m', i, C, h3, t1, e1, e2, B3, ⟨c1, c2, c3, c4⟩, k3, ⟨u1, u2⟩, s3, g1, x1, x2, x3, i1, i2, E1⟩ | ⟨h1, t1, e1, e2, k1, g1, L1, nn1, nn2⟩
      · rw [e1, e2]
        simp only [bsome]
        rw [hnul_8 (by omega), if_neg (show ¬ (1 : Int) = 0 by omega)]
        simp only [bsome]
        rw [if_neg (by decide), if_neg (show ¬ (220 : Int) = 217 by omega)]
        have F3 : FK N0 hc h3 := FK_tr F2 (fkw k3)
        have S3 : SAt hc h3 := SA_tr S2 (fun y y1 y2 => s3 y y1 y2) (by omega)
        have q1 := B3.1.2.2.1
        have q2' := TK_len (n := n) (b := b)
        have q3'' := B3.1.2.2.2.2.1.2.1
        have tw := tkW_le (n := n) (b := b) (l := l) (l' := l') (by omega) (by omega)
        rw [eR F3]
        refine JK_re F3 (FW_FR (FR_tr frA g1)) (JK_im (ED_end (s := 220) (k := kn) (nm := v) (o := -1) (cd := hN hc2) (sN := 35) (a := hI hr2 395 17) (b' := hI t1 395 19) (w' := w + 1) P B3 (by omega) (by omega) F3 S3 ⟨by omega, by omega⟩ (by rw [if_neg (by omega), if_neg (by omega)]; omega)) (fun hc' hr' _ _ ⟨P7, sp, kp, nn, ⟨d0, d1, d2, d4⟩, e22, y9⟩ => ?_))
        have ex : sm h3 hc' (hN hc2) := KP_sm kp (by omega) (by omega) x1 (by omega) (by omega)
        have kq := kp.1
        refine ⟨l' + 1, m' + 1, hN h3, m', ⟨by omega, by omega⟩, PB_w P7 (by omega), KP_tr (KP_SA S3 F3.1.1) kp, fun t ht j hj => by rw [nn t (by omega) j hj, nd_FR g1 ht hj, nd_FR frA ht hj], ⟨by omega, by omega⟩, e22, d4, ⟨220, -1, hN hc2, by rw [d1, v2]; exact sp, by rw [d1, v2]; exact v1, .inr (.inr (.inr (.inr (.inr ⟨d0, rfl, ?_⟩))))⟩, y9, fun h => absurd h (by omega)⟩
        rw [d2, i1]
        exact ⟨by omega, by omega, by rw [ex.2.2.1]; exact x1, i, C, rfl, i2, EX_cg E1 (fun t ht j hj => nn t (by omega) j (by omega)), ⟨by rw [ex.2.2.2]; exact x2, by omega⟩, fun j z hz => by rw [ex.1]; exact x3 j z hz⟩
      · rw [e1, e2]
        simp only [bsome]
        rw [hnul_0]
        simp only [bsome]
        rw [if_pos trivial, if_pos trivial]
        exact JK_no (FK_tr F2 (fkw k1)) (FW_FR (FR_tr frA g1)) ⟨L1, by have := PB_rm P; omega, by have := PB_rm P; omega⟩
  · rw [if_pos rfl]
    have eD : JK N0 M0 hc hr (MQe n b N0 M0 l w m us kn 1 hc hr) (some (0, hc2)) (some (0, hr2)) := JK_no (FK_FC fcA) (FW_FR frA) L1
    rcases hs with rfl | rfl | rfl
    · rw [show mt 217 = 117 by omega, if_pos rfl, a1]
      simp only [bsome]
      rw [g2]
      simp only [bsome]
      rw [if_pos trivial]
      exact eD
    · rw [show mt 219 = 119 by omega, if_neg (show ¬ (119 : Int) = 117 by omega), if_pos rfl, a1]
      simp only [bsome]
      rw [g2]
      simp only [bsome]
      rw [if_pos trivial]
      exact eD
    · rw [show mt 220 = 120 by omega, if_neg (show ¬ (120 : Int) = 117 by omega), if_neg (show ¬ (120 : Int) = 119 by omega), if_pos rfl, a1]
      simp only [bsome]
      rw [g2]
      simp only [bsome]
      rw [if_pos trivial]
      exact eD
/-- an edit or a member, as the class looks for it -/
def edF (kn : Int) (h : hS) : Option (Int × hS) := (c39 h).bind (fun v14 => if v14 = 217 ∨ v14 = 219 ∨ v14 = 220 then c85 kn v14 h else c59 kn 0 h)
theorem EDM (P : PBt n b N0 M0 l w m us hc hr) : JK N0 M0 hc hr (MQe n b N0 M0 l w m us kn 1 hc hr) (edF kn hc) (c231 hr) := by
  obtain ⟨s, v0, pa, q2, q3, q4, h1, -⟩ := PB_at P
  have wm := mtc q2
  unfold edF
  rw [q3]
  simp only [bsome]
  by_cases c : s = 217 ∨ s = 219 ∨ s = 220
  · rw [if_pos c]
    exact REp P c q3
  · rw [if_neg c]
    have e : c231 hr = (c204 (-1) hr).bind (fun v14 => (kB v14.1).bind (fun u15 => some (v14.1, v14.2))) := by
      unfold c231
      rw [q4, if_neg (by omega), if_neg (by omega), if_neg (by omega)]
    rw [e]
    refine JK_kr (JK_im (RMp P) (fun hc' hr' _ _ ⟨l', m', x, i, y1, y2, y3, y4, y5, y6, y7, y8, y9, y10⟩ => ⟨l', m', x, i, y1, y2, y3, y4, y5, y6, y7, y8, y9, fun h => absurd h (by omega)⟩))
end PED
