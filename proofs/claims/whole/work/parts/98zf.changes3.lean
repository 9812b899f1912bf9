/-! patches: every change, alike (2) -/
section CHH
variable {n l m N0 M0 q sl : Nat} {b : Nat → Int} {w : Int} {hc hr : hS} {us : List Nat}
/-- what the class does with a change that begins with s -/
def chF (s : Int) (h : hS) : Option (Int × hS) := if s = 200 then c44 h else if s = 216 then c84 h else c87 s h
theorem c87_86 {l1 l2 l3 : Int} {l4 : Nat} {h : hS} : c87_j86 l1 l2 l3 l4 h = c85_j91 (hR h 15 12) (hN h) (hN h) l1 l2 (-1) l3 l4 (mkH h 22 6) := rfl
theorem c228_34 {s : Int} (q2 : VS s ∨ s = 4) (q4 : hI hr 395 3 = mt s) (hs : s = 200 ∨ s = 216 ∨ s = 217 ∨ s = 218 ∨ s = 221) : c228 hr = c228_j34 (s - 100) hr := by
  have wm := mtc q2
  have e : mt s = s - 100 := by omega
  unfold c228
  rw [q4, e, c191_e]
  simp only [bsome]
  by_cases c : s = 200
  · rw [if_pos (by omega)]
  · rw [if_neg (by omega)]
    by_cases c2 : s = 221
    · rw [if_neg (show ¬ (116 ≤ s - 100 ∧ s - 100 ≤ 118) by omega), if_pos rfl, if_pos (by omega)]
    · rw [if_pos (show 116 ≤ s - 100 ∧ s - 100 ≤ 118 by omega), if_neg (by omega)]
/-- a new kind -/
theorem CHk {v0 : Int} {a : Nat} (P : PBt n b N0 M0 l 0 m us hc hr) (e : (TK n b)[l]? = some (200, a, v0)) (h1 : l + 1 < (TK n b).length) : JK N0 M0 hc hr (CQ n b N0 M0 l m us hc hr) (c44 hc) (c228_j34 100 hr) := by
  obtain ⟨hl0, hN0, hm, hx0, hlt⟩ := PB_l P
  unfold c44 c228_j34
  refine HDn P e h1 (wt := -5) (by rw [if_pos (.inl rfl)]) (fun v hc1 hc2 hr1 hr2 fc fr v1 e17 P2 tw => ?_)
  obtain ⟨t17, r12, r11⟩ := PB_t17 P2
  show JK N0 M0 hc2 hr2 _ ((hnul (hR hc2 15 11)).bind _) _
  rw [r11, hnul_0, if_pos rfl]
  simp only [bsome]
  rw [if_pos trivial, e17]
  unfold c44_j52
  rw [r11, hnul_0]
  simp only [bsome]
  rw [if_pos trivial]
  unfold c44_j78
  rcases UN P2 with ⟨s, q1, q2, q3, q4⟩ | ⟨q1, a, hc3, hc4, hr4, q2, q3, q4, q5, ⟨q6, q7, q8, q9⟩ | ⟨q6, q7, q8⟩⟩
  · rw [q1, q3]
    simp only [bsome]
    rw [if_neg q2, if_neg (show ¬ (1 : Int) = 0 by omega)]
    refine JK_re FK_rf (FW_FR (m := 0) (FR_sI (by omega))) (KIe (a := -1) P q4 (by omega) (by omega) fc (FR_tr fr (FR_sI (by omega))) v1 (.inl rfl) (by rw [hI_sI, if_pos ⟨rfl, rfl⟩]))
  · rw [q1, q7]
    simp only [bsome]
    rw [if_pos trivial, q2, q3]
    simp only [bsome]
    rw [if_neg (show ¬ a = -1 by omega), (PB_t17 q9).2.2, hnul_0, if_neg (show ¬ (1 : Int) = 0 by omega)]
    simp only [bsome]
    rw [if_pos trivial]
    have hlt4 := (PB_l q9).2.2.2.2
    have tw4 := tkW_le (n := n) (b := b) (l := l + 2) (l' := l + 2 + 2) (by omega) (by omega)
    exact JK_re (FK_FC q4) (FW_FR q5) (KIe P q9 (by omega) (by omega) (FC_tr fc q4) (FR_tr fr q5) v1 (.inr q6) q8)
  · rw [q1, q7]
    simp only [bsome]
    rw [if_pos trivial, q2, q3, q6]
    simp only [bsome]
    rw [if_pos trivial, if_pos trivial]
    exact JK_no (FK_FC q4) (FW_FR q5) q8
/-- a change of a kind -/
theorem CHc {v0 : Int} {a : Nat} (P : PBt n b N0 M0 l 0 m us hc hr) (e : (TK n b)[l]? = some (216, a, v0)) (h1 : l + 1 < (TK n b).length) : JK N0 M0 hc hr (CQ n b N0 M0 l m us hc hr) (c84 hc) (c228_j34 116 hr) := by
  unfold c84 c228_j34
  refine HDn P e h1 (wt := -2) (by rw [if_neg (by omega)]) (fun v hc1 hc2 hr1 hr2 fc fr v1 e17 P2 tw => ?_)
  rw [if_neg (show ¬ (116 : Int) = 100 by omega), if_pos rfl, e17]
  have eC : (fun s : Int × hS => c84_b59 v s.1 s.2) = fun s => seF (edF v) s.1 s.2 := c84_se
  show JK N0 M0 hc2 hr2 _ ((c58 123 hc2).bind (fun v4 => if v4.1 = 0 then some (0, v4.2) else (some (mkH v4.2 22 6)).bind (fun h6 => (k8 (hN v4.2)).bind (fun u8 => (c48 (hN v4.2) 216 (hI h6 15 9) v (-1) (-1) 0 h6).bind (fun h7 => (kT h7 (hR v4.2 15 12) 8).bind (fun u10 => (c49 (hR v4.2 15 12) (hN v4.2) h7).bind (fun v9 => (lp (fun s => c84_b59 v s.1 s.2) hF0 (0, v9.2)).bind (fun r23 => xs r23 (fun x23 => (c58 125 x23).bind (fun v24 => (kB v24.1).bind (fun u25 => some (v24.1, v24.2)))) (fun o23 => some o23))))))))) ((c230 1 hr2).bind _)
  rw [eC]
  exact CGe P P2 (by omega) fc fr v1
/-- drop, move, check -/
theorem CHs {s v0 : Int} {a : Nat} (P : PBt n b N0 M0 l 0 m us hc hr) (e : (TK n b)[l]? = some (s, a, v0)) (h1 : l + 1 < (TK n b).length) (hs : s = 217 ∨ s = 218 ∨ s = 221) : JK N0 M0 hc hr (CQ n b N0 M0 l m us hc hr) (c87 s hc) (c228_j34 (s - 100) hr) := by
  obtain ⟨hl0, hN0, hm, hx0, hlt⟩ := PB_l P
  unfold c87 c228_j34
  refine HDn P e h1 (wt := if s = 200 ∨ s = 217 then -5 else -2) rfl (fun v hc1 hc2 hr1 hr2 fc fr v1 e17 P2 tw => ?_)
  obtain ⟨t17, r12, r11⟩ := PB_t17 P2
  obtain ⟨q2, sl2, A2, Q2, B2, hm2, -⟩ := id P2
  have n2 := FC_nm fc
  rcases hs with rfl | rfl | rfl
  · -- drop
    rw [if_pos (.inr rfl)] at tw
    rw [if_neg (show ¬ (217 : Int) = 218 by omega), show (217 : Int) - 100 = 117 by omega, if_neg (show ¬ (117 : Int) = 100 by omega), if_neg (show ¬ (117 : Int) = 116 by omega), if_neg (show ¬ (117 : Int) = 121 by omega), if_neg (show ¬ (117 : Int) = 118 by omega), e17]
    unfold c87_j66 c228_j192 c228_j207
    rw [if_neg (show ¬ (217 : Int) = 221 by omega), if_pos rfl, c87_86, r12]
    exact ED_ch P B2 (by omega) (Nat.le_refl _) (by omega) (FK_FC fc) (SA_FC fc) fr ⟨by omega, by omega⟩ (by rw [if_neg (by omega), if_pos rfl]; omega) v1 rfl (fun hc' hr' _ _ ⟨d0, d1, d2⟩ sp => .inl ⟨d0, by rw [d1]; exact sp⟩)
  · -- move
    rw [if_neg (by omega)] at tw
    rw [if_pos rfl, show (218 : Int) - 100 = 118 by omega, if_neg (show ¬ (118 : Int) = 100 by omega), if_neg (show ¬ (118 : Int) = 116 by omega), if_neg (show ¬ (118 : Int) = 121 by omega), if_pos rfl, e17]
    have fin : ∀ (a : Int) (lA : Nat) (w' : Int) (hcA hrA : hS), PBt n b N0 M0 lA w' m us hcA hrA → l + 2 ≤ lA → FC 0 hc hcA → FR m hr hrA → nmo a → hI hrA 395 24 = a → JK N0 M0 hcA hrA (CQ n b N0 M0 l m us hc hr) (c87_j66 218 v a 0 hcA) (c228_j192 118 v hrA) := fun a lA w' hcA hrA PA hlA fcA frA ha e24 => by
      obtain ⟨qA, slA, AA, QA, BA, hmA, -⟩ := id PA
      have nA := FC_nm fcA
      have hltA := (PB_l PA).2.2.2.2
      have twA := tkW_le (n := n) (b := b) (l := l) (l' := lA) (by omega) (by omega)
      unfold c87_j66 c228_j192 c228_j207
      rw [if_neg (show ¬ (218 : Int) = 221 by omega), if_neg (show ¬ (118 : Int) = 117 by omega), c87_86, (PB_t17 PA).2.1, e24]
      exact ED_ch P BA (by omega) (Nat.le_refl _) (by omega) (FK_FC fcA) (SA_FC fcA) frA ⟨by omega, by omega⟩ (by rw [if_neg (by omega), if_neg (by omega)]; omega) v1 rfl (fun hc' hr' _ _ ⟨d0, d1, d2⟩ sp => .inr (.inl ⟨d0, by rw [d2]; exact ha, by rw [d1, d2]; exact sp⟩))
    rcases UN P2 with ⟨s, q1, q2, q3, q4⟩ | ⟨q1, a, hc3, hc4, hr4, q2, q3, q4, q5, ⟨q6, q7, q8, q9⟩ | ⟨q6, q7, q8⟩⟩
    · rw [q1, q3]
      simp only [bsome]
      rw [if_neg q2, if_neg (show ¬ (1 : Int) = 0 by omega)]
      exact JK_re FK_rf (FW_FR (m := 0) (FR_sI (by omega))) (fin (-1) _ _ hc2 _ q4 (by omega) fc (FR_tr fr (FR_sI (by omega))) (.inl rfl) (by rw [hI_sI, if_pos ⟨rfl, rfl⟩]))
    · rw [q1, q7]
      simp only [bsome]
      rw [if_pos trivial, q2, q3]
      simp only [bsome]
      rw [if_neg (show ¬ a = -1 by omega), if_neg (show ¬ (1 : Int) = 0 by omega)]
      exact JK_re (FK_FC q4) (FW_FR q5) (fin a _ _ hc4 hr4 q9 (by omega) (FC_tr fc q4) (FR_tr fr q5) (.inr q6) q8)
    · rw [q1, q7]
      simp only [bsome]
      rw [if_pos trivial, q2, q3, q6]
      simp only [bsome]
      rw [if_pos trivial, if_pos trivial]
      exact JK_no (FK_FC q4) (FW_FR q5) q8
  · -- check
    rw [if_neg (by omega)] at tw
    rw [if_neg (show ¬ (221 : Int) = 218 by omega), show (221 : Int) - 100 = 121 by omega, if_neg (show ¬ (121 : Int) = 100 by omega), if_neg (show ¬ (121 : Int) = 116 by omega), if_pos rfl, e17]
    unfold c87_j66
    rw [if_pos rfl]
    have t17' := t17
    have fkw : ∀ {h h' : hS}, FK (hN hc2) h h' → FK N0 h h' := fun f => ⟨f.1, fun x hx => f.2 x (by omega)⟩
    rcases RULE B2 hm2 t17'.1 t17'.2 (by omega) with ⟨l', m', i, C, h3, t1, e1, e2, B3, ⟨c1, c2, c3, c4⟩, k3, ⟨u1, u2⟩, s3, g1, x1, x2, x3, i1, i2, E1⟩ | ⟨h1', t1, e1, e2, k1, g1, L1, nn1, nn2⟩
    · simp only [bsome]
      rw [e1, e2]
      simp only [bsome]
      rw [hnul_8 (by omega), if_neg (show ¬ (1 : Int) = 0 by omega)]
      simp only [bsome]
      rw [if_neg (by decide), c87_86]
      have F3 : FK N0 hc h3 := FK_tr (FK_FC fc) (fkw k3)
      have S3 : SAt hc h3 := SA_tr (SA_FC fc) (fun y y1 y2 => s3 y y1 y2) (by omega)
      have q1 := B3.1.2.2.1
      have q2' := TK_len (n := n) (b := b)
      have q3'' := B3.1.2.2.2.2.1.2.1
      have tw' := tkW_le (n := n) (b := b) (l := l) (l' := l') (by omega) (by omega)
      rw [show hR h3 15 12 = N0 from by rw [((fkw k3).2 15 (by omega)).2.2.1]; exact r12]
      refine JK_re (fkw k3) (FW_FR g1) (ED_ch P B3 (by omega) (by omega) (by omega) F3 S3 (FR_tr fr g1) ⟨by omega, by omega⟩ (by rw [if_neg (by omega), if_neg (by omega)]; omega) v1 rfl (fun hc' hr' kp nn ⟨d0, d1, d2⟩ sp => .inr (.inr ⟨d0, hN hc2, by rw [d1]; exact sp, ?_⟩)))
      have ex : sm h3 hc' (hN hc2) := KP_sm kp (by omega) (by omega) x1 (by omega) (by omega)
      have kq := kp.1
      rw [d2, i1]
      exact ⟨by omega, by omega, by rw [ex.2.2.1]; exact x1, i, C, rfl, i2, EX_cg E1 (fun t ht j hj => nn t (by omega) j (by omega)), ⟨by rw [ex.2.2.2]; exact x2, by omega⟩, fun j z hz => by rw [ex.1]; exact x3 j z hz⟩
    · simp only [bsome]
      rw [e1, e2]
      simp only [bsome]
      rw [hnul_0]
      simp only [bsome]
      rw [if_pos trivial, if_pos trivial]
      exact JK_no (fkw k1) (FW_FR g1) ⟨L1, by have := PB_rm P; omega, by have := PB_rm P; omega⟩
theorem CHe {s : Int} (P : PBt n b N0 M0 l 0 m us hc hr) (hs : s = 200 ∨ s = 216 ∨ s = 217 ∨ s = 218 ∨ s = 221) (q3 : c39 hc = some s) : JK N0 M0 hc hr (CQ n b N0 M0 l m us hc hr) (chF s hc) (c228 hr) := by
  obtain ⟨s', v0, pa, q2, q3', q4, h1, d1⟩ := PB_at P
  have es : s' = s := by rw [q3] at q3'; exact (Option.some.inj q3').symm
  subst es
  rw [c228_34 q2 q4 hs]
  have h1' := h1 (by omega)
  unfold chF
  by_cases c : s' = 200
  · subst c
    rw [if_pos rfl]
    exact CHk P d1 h1'
  · rw [if_neg c]
    by_cases c2 : s' = 216
    · subst c2
      rw [if_pos rfl]
      exact CHc P d1 h1'
    · rw [if_neg c2]
      exact CHs P d1 h1' (by omega)
end CHH
