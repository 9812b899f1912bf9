section KI2
variable {n l mk N0 M0 p sl : Nat} {b : Nat → Int} {hc hr : hS} {K : Nat → Int → Prop}
/-- both stop at a token passed before -/
theorem BS_ft {P : hS → hS → Prop} {q m d t a : Nat} {s v f pl : Int} (B : BX sl n b l q m d hc hr) (e : (TK n b)[t]? = some (s, a, v)) (hf : 1 ≤ f ∧ f ≤ 5) (hpl : pl = (a : Int)) (r : hN hc ≤ N0 + 1165 ∧ hM hc ≤ M0 + 13000) : JK N0 M0 hc hr P ((c46 f (t : Int) hc).bind (fun v => (kB v.1).bind (fun _ => some (v.1, v.2)))) ((c195 f pl hr).bind (fun v => (kB v.1).bind (fun _ => some (v.1, v.2)))) := by
  rw [c46_e (a := a) B.1.1 B.1.2.2.2.2.1.2.1 e, c195_e B.2.1.1, hpl]
  refine JK_kl (JK_kr (JK_no (FK_FC (FC_tr (FC_sI (p := 0) (by omega)) (FC_sI (by omega)))) (FW_FR (FR_tr (FR_sI (m := 0) (by omega)) (FR_sI (by omega)))) ⟨⟨f, a, hf, ?_, ?_, ?_, ?_, ?_, ?_⟩, r.1, r.2⟩))
  · rw [hI_sI, if_neg (by omega), hI_sI, if_pos ⟨rfl, rfl⟩]
  · rw [hI_sI, if_pos ⟨rfl, rfl⟩]
  · rw [hI_sI, if_neg (by omega), hI_sI, if_pos ⟨rfl, rfl⟩]
  · rw [hI_sI, if_pos ⟨rfl, rfl⟩]
  · refine nmR_r (nmR_c B.2.1.2.1 ?_ (fun j => ?_)) ?_ (fun j => rfl)
    · rw [hI_sI, if_neg (by omega), hI_sI, if_neg (by omega)]
    · rw [hI_sI, if_neg (by omega), hI_sI, if_neg (by omega)]
    · rw [hI_sI, if_neg (by omega), hI_sI, if_neg (by omega)]
  · rw [hI_sI, if_neg (by omega), hI_sI, if_neg (by omega), B.2.2.1.1]
    omega
theorem nmx_cg {h h' : hS} (e : ∀ k f, wg h' 1 k f = wg h 1 k f) (m : Nat) (v : Int) : nmx h' m v = nmx h m v := ix_congr (fun j _ => e _ _)
theorem c197_w {r : Int → Nat} (W : WF hr 1 mk r) (v : Int) : c197 1 v hr = some (nmx hr mk v) := c197_e (by omega) (by omega) W.1 W.2.1
theorem MP_F {r : Int → Nat} {q' : Nat} {hc' hr' : hS} (q m : Nat) (B : BX sl n b l q m 0 hc hr) (W : BW hc hr K p mk r) (T : KT hc hr K N0 m) (hN0 : N0 ≤ p ∧ 448 ≤ N0 ∧ N0 ≤ hN hc) (t17 : hT hc 17 = 1 ∧ hL hc 17 = 4000) (f : FC q' hc hc') (g : FR m hr hr') : BW hc' hr' K p mk r ∧ KT hc' hr' K N0 m ∧ (N0 ≤ p ∧ 448 ≤ N0 ∧ N0 ≤ hN hc') ∧ (hT hc' 17 = 1 ∧ hL hc' 17 = 4000) ∧ (hN hc' = hN hc ∧ hM hc' = hM hc) ∧ (∀ i, i = 11 ∨ i = 12 → hR hc' 15 i = hR hc 15 i) := by
  obtain ⟨fn, fm⟩ := FC_nm f
  have e := f.1.1
  refine ⟨BW_F W f g (by omega), KT_F T f g (by omega) (Nat.le_refl m), ⟨hN0.1, hN0.2.1, by omega⟩, ⟨?_, ?_⟩, ⟨fn, fm⟩, fun i _ => ?_⟩
  · show hc'.2.2.2.1 17 = 1
    rw [e]; exact t17.1
  · show hc'.2.2.2.2.1 17 = 4000
    rw [e]; exact t17.2
  · show hc'.2.1 15 i = hc.2.1 15 i
    rw [e]
theorem TZ_F {r : Int → Nat} {q' : Nat} {hc' : hS} (W : BW hc hr K p mk r) (T : TZ hc p mk) (f : FC q' hc hc') (h18 : 18 ≤ p) : TZ hc' p mk := TZ_c T (fun u _ _ => by
  unfold kd
  split
  · rfl
  · exact (FC_x f (p + 1) (by omega)).2.1 _) (fun u z0 z1 o _ _ => FC_x f _ (by have := W.2.1 u z0 z1; omega))
/-- a kind -/
theorem RK (Q : MP n b N0 M0 l K p mk rN hc hr) (hp : hR hc 15 11 = p) (h1 : l + 1 < (TK n b).length) (tok : hI hr 395 3 = 100) : JK N0 M0 hc hr (fun hc' hr' => ∃ l' K', l + 1 < l' ∧ MP n b N0 M0 l' K' p (mk + 1) rN hc' hr') (c44 hc) (c193 hr) := by
  obtain ⟨q, m, sl, B, hm, W, T, hN0, t17, rm, Cf, Tz⟩ := Q
  obtain ⟨a0, hr1, a1, a2, B1⟩ := BS_adv B h1
  obtain ⟨s1, pa, pv, d1, d2, d3, d4, d5, d6, -⟩ := RD_at B1.1
  have fc1 : FC q hc (sI hc 15 3 ((l + 1 : Nat) : Int)) := FC_sI (by omega)
  have h153 : hI (sI hc 15 3 ((l + 1 : Nat) : Int)) 15 3 = ((l + 1 : Nat) : Int) := by rw [hI_sI, if_pos ⟨rfl, rfl⟩]
  unfold c44 c193
  rw [a0, a1, if_pos tok]
  simp only [bsome]
  rw [h153]
  generalize sI hc 15 3 ((l + 1 : Nat) : Int) = hc1 at B1 d3 d5 fc1 h153 ⊢
  obtain ⟨f, v, hc2, hr2, g1, g2, fc2, fr2, g⟩ := BS_nm B1
  rw [g1, g2]
  simp only [bsome]
  have fcA := FC_tr fc1 fc2
  have frA : FR m hr hr2 := FR_tr (FR_fj a2) fr2
  obtain ⟨W2, T2, N2, t2, ⟨fn, fm⟩, hR2⟩ := MP_F q m B W T hN0 t17 fcA frA
  have hp2 : hR hc2 15 11 = p := (hR2 11 (.inl rfl)).trans hp
  have hl1000 := BX_l B
  have hmk12 := W.1.1.2.1
  have room2 : hN hc2 ≤ N0 + 1165 ∧ hM hc2 ≤ M0 + 13000 := ⟨by omega, by omega⟩
  refine JK_re (FK_FC fcA) (FW_FR frA) ?_
  rcases g with ⟨rfl, v1, v2, B2, f1, f2⟩ | ⟨rfl, rfl, L1, e7⟩
  · have p3 := W2.1.2.1.2.2.1
    have hmk := W2.1.1.2.1
    rw [if_neg (show ¬ v = -1 by omega), if_neg (show ¬ (1 : Int) = 0 by omega), v2, hp2, hnul_8 (by omega)]
    simp only [bsome]
    rw [if_neg (by decide), kT_s p3]
    simp only [bsome]
    rw [nmx_k W2.1, c197_w W2.1.1]
    simp only [bsome]
    rcases nmx_b (hr := hr2) (m := mk) v with e | ⟨e0, e1, e2⟩
    · rw [e, kd_m, hnul_0, if_pos rfl]
      simp only [bsome]
      rw [if_pos trivial]
      unfold c44_j52
      rw [hp2, hnul_8 (by omega), c198_e (by omega) (by omega), W2.1.1.1]
      simp only [bsome]
      rw [if_neg (by decide), gI_s p3, W2.1.2.1.2.2.2.2.2.2]
      simp only [bsome]
      by_cases c12 : mk = 12
      · rw [if_neg (show ¬ (mk : Int) < 12 by omega), if_pos (show (mk : Int) = 12 by omega)]
        exact BS_ft B2 d1 (by omega) d6 room2
      · rw [if_pos (show (mk : Int) < 12 by omega), if_neg (show ¬ (mk : Int) = 12 by omega)]
        unfold c44_j78
        obtain ⟨s2, -, q2, q3, q4, h2, -⟩ := BS_at B2
        have w := mtc q2
        rw [q3, q4]
        simp only [bsome]
        by_cases c : s2 = 201
        · rw [if_pos c, if_pos (show mt s2 = 101 by omega)]
          obtain ⟨a0', hr3, a1', a2', B3⟩ := BS_adv B2 (h2 (by omega))
          obtain ⟨s1', pa', pv', d1', -, -, -, -, d6', -⟩ := RD_at B3.1
          have fc3 : FC q hc2 (sI hc2 15 3 ((l + 1 + 1 + 1 : Nat) : Int)) := FC_sI (by omega)
          have h153' : hI (sI hc2 15 3 ((l + 1 + 1 + 1 : Nat) : Int)) 15 3 = ((l + 1 + 1 + 1 : Nat) : Int) := by rw [hI_sI, if_pos ⟨rfl, rfl⟩]
          rw [a0', a1']
          simp only [bsome]
          rw [h153']
          generalize sI hc2 15 3 ((l + 1 + 1 + 1 : Nat) : Int) = hc3 at B3 fc3 h153' ⊢
          obtain ⟨f', a, hc4, hr4, g1', g2', fc4, fr4, g'⟩ := BS_nm B3
          rw [g1', g2']
          simp only [bsome]
          have fcB := FC_tr fc3 fc4
          have frB : FR m hr2 hr4 := FR_tr (FR_fj a2') fr4
          obtain ⟨W4, T4, N4, t4, ⟨fn4, fm4⟩, hR4⟩ := MP_F q m B2 W2 T2 N2 t2 fcB frB
          have hp4 : hR hc4 15 11 = p := (hR4 11 (.inl rfl)).trans hp2
          refine JK_re (FK_FC fcB) (FW_FR frB) ?_
          rcases g' with ⟨rfl, u1, u2, B4, f3, f4⟩ | ⟨rfl, rfl, L1, e7⟩
          · have p34 := W4.1.2.1.2.2.1
            rw [if_neg (show ¬ a = -1 by omega), if_neg (show ¬ (1 : Int) = 0 by omega), u2, hp4, hnul_8 (by omega)]
            simp only [bsome]
            rw [if_neg (by decide), kT_s p34]
            simp only [bsome]
            rw [nmx_k W4.1, c197_w W4.1.1]
            simp only [bsome]
            rcases nmx_b (hr := hr4) (m := mk) a with z | ⟨z0, z1, z2⟩
            · rw [z, kd_m, hnul_0, if_pos rfl]
              simp only [bsome]
              rw [if_pos trivial]
              exact BS_ft B4 d1' (by omega) d6' ⟨by omega, by omega⟩
            · rw [hnul_8 (by have := kd_8 W4.1 z0 z1; omega), if_neg (show ¬ nmx hr4 mk a = -1 by omega)]
              simp only [bsome]
              rw [if_neg (by decide)]
              refine JK_im (KB (a := a) (l0 := l) B4 (by omega) W4 T4 N4 t4 ⟨by omega, by omega⟩ (by omega) (CG_cg (CG_cg Cf (fun k f => FC_wg frA 1 k f)) (fun k f => FC_wg frB 1 k f)) (TZ_F W2 (TZ_F W Tz fcA (by omega)) fcB (by omega)) hp4 v1 ?_ (by omega) rfl (.inr (by omega))) (fun hc' hr' _ _ ⟨l', K', x1, x2⟩ => ⟨l', K', by omega, x2⟩)
              rw [nmx_cg (fun k f => FC_wg frB 1 k f)]
              exact e
          · rw [if_pos rfl]
            simp only [bsome]
            exact JK_no FK_rf FW_rf ⟨L1, by omega, by omega⟩
        · rw [if_neg c, if_neg (show ¬ mt s2 = 101 by omega)]
          refine JK_im (KB (a := -1) (u := -1) (l0 := l) B2 (by omega) W2 T2 N2 t2 ⟨by omega, by omega⟩ (by omega) (CG_cg Cf (fun k f => FC_wg frA 1 k f)) (TZ_F W Tz fcA (by omega)) hp2 v1 e (by omega) (nmx_m W2.1).symm (.inl rfl)) (fun hc' hr' _ _ ⟨l', K', x1, x2⟩ => ⟨l', K', by omega, x2⟩)
    · rw [hnul_8 (by have := kd_8 W2.1 e0 e1; omega), if_neg (show ¬ nmx hr2 mk v = -1 by omega)]
      simp only [bsome]
      rw [if_neg (by decide)]
      exact BS_ft B2 d1 (by omega) d6 room2
  · rw [if_pos rfl]
    exact JK_no FK_rf FW_rf ⟨L1, room2⟩
end KI2
