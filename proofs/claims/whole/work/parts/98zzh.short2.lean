/-! an act from outside (3) -/
def cs (h : hS) : hS := sI (sI (sI h 22 8 0) 22 9 0) 22 10 0
def rs (t : hS) : hS := sI (sI (sI (sI t 395 41 0) 395 39 0) 395 40 0) 395 42 0
section SHU
variable {h h' h0 h1 t t' t0 t1 t2 : hS} {K : Nat → Int → Prop} {p m q κ F0 F d e x c k a i : Nat} {r : Int → Nat} {n v : Int} {S : Nat → Prop}
theorem RNc_F0 (ch : chg (fun x => x = 24) h h') : RNc p m 24 h h' := by
  obtain ⟨c1, c2, c3, c4, c5, c6⟩ := ch
  exact ⟨⟨c1, c2, c3, c4, c5⟩, fun y j q _ => (c6 y (show y ≠ 24 from q 0 (by omega)) j).2, fun y j q _ => (c6 y (show y ≠ 24 from q 0 (by omega)) j).1⟩
theorem FRQ_g (Q : FRQ h t K e F x c) (ch : chg S h h') (hS : ∀ x, S x → (20 ≤ x ∧ x ≤ 47) ∨ (375 ≤ x ∧ x < 395)) (eF : ∀ j, hI h' F j = hI h F j ∧ hR h' F j = hR h F j) (et : ∀ y j, 408 ≤ y → y ≤ 416 → hI t' y j = hI t y j) : FRQ h' t' K e F x c := by
  obtain ⟨⟨c1, c2, c3, c4, c5, c6⟩, ⟨d1, d2, d3⟩, g1, g2, g3, n, j, k, ⟨n1, n2, n3⟩, n4, n5, n6, n7, n8⟩ := Q
  refine ⟨⟨by rw [ch.2.1]; exact c1, by rw [(eF 3).2]; exact c2, c3, by rw [ch.2.1]; exact c4, by rw [ch.2.2.1]; exact c5, c6⟩, ⟨d1, by rw [(eF 0).2]; exact d2, by rw [(ch.2.2.2.2.2 _ (fun z => by have := hS _ z; omega) 1).1]; exact d3⟩, by rw [et 408 _ (by omega) (by omega)]; exact g1, by rw [(eF 6).1, et 409 _ (by omega) (by omega)]; exact g2, by rw [(eF 5).1, et 410 _ (by omega) (by omega)]; exact g3, n, j, k, ⟨n1, by rw [(eF 2).1]; exact n2, by rw [et 413 _ (by omega) (by omega)]; exact n3⟩, by rw [et 412 _ (by omega) (by omega)]; exact n4, by rw [et 411 _ (by omega) (by omega)]; exact n5, n6, ?_, by rw [et 414 _ (by omega) (by omega)]; exact n8⟩
  rw [(eF 1).2]
  exact ACH_c n7 (fun a' Q' => KD_chg ch (fun x hx => by have := hS _ hx; omega) Q') (fun u _ _ => ⟨et 414 _ (by omega) (by omega), et 415 _ (by omega) (by omega), et 416 _ (by omega) (by omega)⟩)
theorem cs_i {y j : Nat} (hy : ¬ (y = 22 ∧ (j = 8 ∨ j = 9 ∨ j = 10))) : hI (cs h) y j = hI h y j := by
  unfold cs
  rw [hI_sI, if_neg (by omega), hI_sI, if_neg (by omega), hI_sI, if_neg (by omega)]
theorem cs_c : chg (fun x => (20 ≤ x ∧ x ≤ 47) ∨ (375 ≤ x ∧ x < 395)) h (cs h) := chg_tr (chg_tr (chg_sI (.inl ⟨by omega, by omega⟩)) (chg_sI (.inl ⟨by omega, by omega⟩))) (chg_sI (.inl ⟨by omega, by omega⟩))
theorem cs_N (f : F0k F0) (hp : p = 213 ∨ 448 ≤ p) : RNc p m F0 h (cs h) := RNc_tr f hp (RNc_tr f hp (RNc_sI (by omega)) (RNc_sI (by omega))) (RNc_sI (by omega))
theorem cs_0 : hI (cs h) 22 8 = 0 ∧ hI (cs h) 22 9 = 0 ∧ hI (cs h) 22 10 = 0 := by
  unfold cs
  refine ⟨?_, ?_, ?_⟩
  · rw [hI_sI, if_neg (by omega), hI_sI, if_neg (by omega), hI_sI, if_pos ⟨rfl, rfl⟩]
  · rw [hI_sI, if_neg (by omega), hI_sI, if_pos ⟨rfl, rfl⟩]
  · rw [hI_sI, if_pos ⟨rfl, rfl⟩]
theorem c114_s : c114 h = some (cs h) := rfl
theorem c251_s : c251 t = some (rs t) := rfl
theorem rs_i {y j : Nat} (hy : ¬ (y = 395 ∧ (j = 39 ∨ j = 40 ∨ j = 41 ∨ j = 42))) : hI (rs t) y j = hI t y j := by
  unfold rs
  rw [hI_sI, if_neg (by omega), hI_sI, if_neg (by omega), hI_sI, if_neg (by omega), hI_sI, if_neg (by omega)]
theorem rs_N : RNr t (rs t) := fp_tr (fp_tr (fp_tr (fp_sI (.inl ⟨rfl, by omega⟩)) (fp_sI (.inl ⟨rfl, by omega⟩))) (fp_sI (.inl ⟨rfl, by omega⟩))) (fp_sI (.inl ⟨rfl, by omega⟩))
theorem rs_0 : hI (rs t) 395 39 = 0 ∧ hI (rs t) 395 40 = 0 ∧ hI (rs t) 395 41 = 0 ∧ hI (rs t) 395 42 = 0 := by
  unfold rs
  refine ⟨?_, ?_, ?_, ?_⟩
  · rw [hI_sI, if_neg (by omega), hI_sI, if_neg (by omega), hI_sI, if_pos ⟨rfl, rfl⟩]
  · rw [hI_sI, if_neg (by omega), hI_sI, if_pos ⟨rfl, rfl⟩]
  · rw [hI_sI, if_neg (by omega), hI_sI, if_neg (by omega), hI_sI, if_neg (by omega), hI_sI, if_pos ⟨rfl, rfl⟩]
  · rw [hI_sI, if_pos ⟨rfl, rfl⟩]
theorem SHORT (U : RUNp K p m q r κ h t) (c40 : c < 40) (lv : hI h (215 + 4 * c) 1 = 1) (n v : Int) : (∃ t2, c113 (215 + 4 * c) n v h = some (2, cs h) ∧ c252 0 (c : Int) n v (rs t) = some (0, t2) ∧ lvL 0 (rs t) t2) ∨ (∃ (out how : Int) (t2 t3 t4 t5 h' : hS), c113 (215 + 4 * c) n v h = some (out, h') ∧ c252 0 (c : Int) n v (rs t) = some (1, t2) ∧ lvL 0 (rs t) t2 ∧ c266 0 t2 = some t3 ∧ g254 700 254 [hI t3 414 0, 0, 0] t3 = some (how, t4) ∧ c268 how t4 = some (out, t5) ∧ RUNp K p m q r κ h' t5 ∧ RNc p m 24 h h' ∧ RNr t t5 ∧ (out = 0 ∨ out = 1 ∨ out = 4) ∧ hI h' 22 8 = (if out = 0 then hI t5 395 40 else 0) ∧ hI h' 22 9 = (if out = 1 then hI t5 395 39 else 0) ∧ hI h' 22 10 = hI t5 395 41) := by
  have f24 : F0k 24 := .inl rfl
  have hp := U.1.2.2.2.2.1
  have V : RUNp K p m q r κ (cs h) (rs t) := RUN_c U cs_c (fun y j hy => rs_i (by omega)) (fun j _ => by unfold cs; rw [hR_sI, hR_sI, hR_sI]) (rnn_c U.2.2.2.2.1 (fun y j hy => cs_i (by omega)) (fun y j hy => rs_i (by omega))) (cs_i (by omega))
  have lv1 : hI (cs h) (215 + 4 * c) 1 = 1 := by rw [cs_i (by omega)]; exact lv
  obtain ⟨S, P, T, C, -, D⟩ := id V.1
  obtain ⟨u1, u2, u3, u4⟩ := C.2.2.2 c c40
  obtain ⟨⟨k0, k1, k2⟩, -⟩ := u4 lv1
  have hs := (S.1 c c40).2
  obtain ⟨jj, hj⟩ : ∃ jj, hI (rs t) 404 c = jj := ⟨_, rfl⟩
  rw [hj] at k0 k1 k2
  have KDj := (P.2.2.1 jj k0 k1).1
  -- the class, as far as the act
  have cls : ∀ o, (hnul (if 0 ≤ n ∧ n < 40 then hR (cs h) (kd (cs h) p jj + 11) n.toNat else 0)).bind (fun b5 => if b5 = true then some (2, cs h) else (kT (cs h) 24 12).bind (fun u7 => (c116 24 (215 + 4 * c) (if 0 ≤ n ∧ n < 40 then hR (cs h) (kd (cs h) p jj + 11) n.toNat else 0) n v (cs h)).bind (fun h6 => (c117 24 h6).bind (fun h8 => (c118 24 0 h8).bind (fun v9 => some (v9.1, v9.2)))))) = some o → c113 (215 + 4 * c) n v h = some o := fun o e => by
    unfold c113
    refine bnd c114_s ?_
    rw [gR_s hs.1, k2]
    refine bnd rfl ?_
    refine bnd (kT_s KDj.2.2.1) ?_
    exact bnd (c115_e KDj) e
  by_cases hn : 0 ≤ n ∧ n < 40
  · obtain ⟨nn, rfl⟩ : ∃ nn : Nat, n = (nn : Int) := ⟨n.toNat, by omega⟩
    rw [if_pos hn, Int.toNat_natCast, (T jj k0 k1 nn (by omega)).2.2.1] at cls
    obtain ⟨k, t2, o1, o2, o3⟩ := OPr (e := 0) (v := v) V.1 (by omega) (by omega) c40 lv1 (n := nn)
    rw [hj] at o1 o3
    by_cases z : aAt (rs t) 0 jj nn = -1
    · rw [if_pos z] at o1
      rw [z, kd_m] at cls
      exact .inl ⟨t2, cls _ rfl, o1, o2⟩
    · rw [if_neg z] at o1
      obtain ⟨o4, o5, o6⟩ := o3 z
      have ok := ((aAt_b P.1 (.inr ⟨k0, k1⟩)).resolve_left z).1
      have KDa := (P.2.2.1 _ ok.1 ok.2).1
      have T24 : hT (cs h) 24 = 12 := V.2.2.2.1.2
      obtain ⟨h6, w1, w2, ⟨w3, w4, w5, w6, w7, w8, w9⟩, w10⟩ := OPc (v := v) V.2.1 o6 (by omega) T24 (.inl rfl) c40
      obtain ⟨x1, x2, x3, tx, fn, D1, -, -, -, ⟨x4, x5⟩, -⟩ := V.2.1 _ _ (show K (cdo (cs h) (kd (cs h) p (aAt (rs t) 0 jj nn)) nn) (hI t2 414 (12 * 0 + 0)) from w10)
      have ch6 : chg (fun x => (20 ≤ x ∧ x ≤ 47) ∨ (375 ≤ x ∧ x < 395)) (cs h) h6 := chg_mono w2 (fun y hy => by omega)
      have Q6 : FRQ h6 t2 K 0 24 (cdo (cs h) (kd (cs h) p (aAt (rs t) 0 jj nn)) nn) c := by
        refine ⟨⟨by rw [ch6.2.1]; exact T24, w6, x1, by rw [ch6.2.1]; exact x3, by rw [ch6.2.2.1]; omega, .inl rfl⟩, ⟨c40, w3, by rw [(w2.2.2.2.2.2 _ (by omega) 1).1]; exact lv1⟩, o4.1, by rw [w9]; exact o4.2.1.symm, by rw [w8]; exact o4.2.2.1.symm, nn, 0, k, ⟨by omega, w5, o4.2.2.2.2.2⟩, o4.2.2.2.2.1, by rw [Nat.zero_add]; exact o4.2.2.2.1, by omega, ?_, w10⟩
        rw [w4]
        exact ACH_c o6 (fun a' Q' => KD_chg ch6 (fun x hx => by omega) Q') (fun i _ _ => ⟨rfl, rfl, rfl⟩)
      have U6 : RUNp K p m q r κ h6 t2 := RUN_c V ch6 (fun y j hy => o2.2 y j (by omega)) (fun j _ => (w2.2.2.2.2.2 23 (by omega) j).2) (rnn_c V.2.2.2.2.1 (fun y j hy => (w2.2.2.2.2.2 y (by omega) j).1) (fun y j hy => o2.2 y j (by omega))) (w2.2.2.2.2.2 22 (by omega) 11).1
      obtain ⟨h8, t3, y1, y2, y3, y4, y5⟩ := NTe U6.1.1 Q6 (by omega) U6.2.2.2.2.2.1 U6.2.2.2.2.1
      have ch8 : chg (fun x => (20 ≤ x ∧ x ≤ 47) ∨ (375 ≤ x ∧ x < 395)) h6 h8 := chg_fp y4 (fun y j hy => by omega)
      have U8 : RUNp K p m q r κ h8 t3 := RUN_c U6 ch8 (fun y j hy => y5.2 y j (by omega)) (fun j _ => by show h8.2.1 23 j = h6.2.1 23 j; rw [y4.1]) y3 (y4.2 22 11 (by omega))
      have Q8 : FRQ h8 t3 K 0 24 _ c := FRQ_g Q6 ch8 (fun x hx => hx) (fun j => ⟨y4.2 24 j (by omega), by show h8.2.1 24 j = h6.2.1 24 j; rw [y4.1]⟩) (fun y j h1 h2 => y5.2 y j (by omega))
      have i8 : ∀ j, j = 8 ∨ j = 9 ∨ j = 10 → hI h8 22 j = 0 := fun j hj => by
        rw [y4.2 22 j (by omega), (w2.2.2.2.2.2 22 (by omega) j).1]
        rcases hj with rfl | rfl | rfl
        · exact cs_0.1
        · exact cs_0.2.1
        · exact cs_0.2.2
      have i3 : ∀ j, j = 39 ∨ j = 40 ∨ j = 41 ∨ j = 42 → hI t3 395 j = 0 := fun j hj => by
        rw [y5.2 395 j (by omega), o2.2 395 j (by omega)]
        rcases hj with rfl | rfl | rfl | rfl
        · exact rs_0.1
        · exact rs_0.2.1
        · exact rs_0.2.2.1
        · exact rs_0.2.2.2
      have T8 : hT h8 24 = 12 := U8.2.2.2.1.2
      obtain ⟨B, G, g6⟩ := gs_B (l2 := 0) U8 f24 T8 (by rw [i8 10 (by omega), i3 41 (by omega)]; omega) (i3 42 (by omega))
      have B9 := gs_Q (l2 := 0) f24 T8 Q8
      obtain ⟨how, t4, h', kk, z1, z2, z3, z4, z5⟩ := BDYa (K := K) (p := p) (m := m) (q := q) (r := r) (κ := κ) (F0 := 24) 20 0 rfl 700 (by omega) (gs 24 0 h8) t3 _ c B G B9 (by rw [gs_i (by show ¬ (24 = 22 ∧ _); omega)]; show hI h8 24 4 = 0; rw [y4.2 24 4 (by omega)]; exact w7) (fun _ => g6)
      have n412 : hI t3 412 0 = 0 := by rw [y5.2 412 0 (by omega)]; exact o4.2.2.2.2.1
      rw [n412] at z1
      have rn8 : RNc p m 24 h h8 := RNc_tr f24 hp (cs_N f24 hp) (RNc_tr f24 hp (RNc_F0 w2) (RNc_fp y4 (fun y j hy => by omega)))
      have rr3 : RNr t t3 := RNr_tr rs_N (RNr_tr (RNr_L o2) ⟨y5.1, fun y j z => y5.2 y j (by omega)⟩)
      have B' : BRt K p m q r κ 24 h' t4 ∧ RCc p m 24 0 (gs 24 0 h8) h' ∧ RCr 0 t3 t4 := by
        rcases z5 with ⟨-, b1, b2, -, -, ⟨-, b3, -⟩ | ⟨d1, b3, -⟩⟩ | ⟨-, b1, b2, b3, -⟩
        · exact ⟨b1, b3, b2⟩
        · exact absurd b3 (by omega)
        · exact ⟨b1, b2, b3⟩
      have rn' : RNc p m 24 h h' := RNc_tr f24 hp rn8 (RNc_tr f24 hp gs_N (RNc_C B'.2.1))
      have rr4 : RNr t t4 := RNr_tr rr3 (RNr_C B'.2.2)
      have T' : hT h' 24 = 12 := by rw [rn'.1.2.1]; exact U.2.2.2.1.2
      have UB := RUN_B f24 B'.1 T'
      have c40' : ∀ tt, tt = sI t4 395 40 0 → RUNp K p m q r κ h' tt ∧ RNr t tt ∧ hI tt 395 40 = 0 ∧ hI tt 395 39 = hI t4 395 39 ∧ hI tt 395 41 = hI t4 395 41 := fun tt e => by
        have it : ∀ y j, ¬ (y = 395 ∧ j = 40) → hI tt y j = hI t4 y j := fun y j hy => by rw [e, hI_sI, if_neg hy]
        exact ⟨RUN_c UB chg_rf (fun y j hy => it y j (by omega)) (fun _ _ => rfl) (rnn_c UB.2.2.2.2.1 (fun _ _ _ => rfl) (fun y j hy => it y j (by omega))) rfl, RNr_tr rr4 (by rw [e]; exact fp_sI (.inl ⟨rfl, by omega⟩)), by rw [e, hI_sI, if_pos ⟨rfl, rfl⟩], it 395 39 (by omega), it 395 41 (by omega)⟩
      have hk : kk < 1000000 := by have := B'.1.2.2.2.2.2.1.2.2; have := i3 41 (by omega); omega
      have go : hI h' 22 7 ≠ -1 → c113 (215 + 4 * c) (nn : Int) v h = some (hI h' 22 7, h') := fun h7 => by
        refine cls _ ?_
        refine bnd (hnul_8 (by have := KDa.1; omega)) ?_
        rw [if_neg (by decide)]
        refine bnd (kT_s T24) ?_
        refine bnd w1 ?_
        refine bnd y1 ?_
        exact bnd (GO_c (.inl rfl) T8 z2 hk h7) rfl
      have i89 : hI (gs 24 0 h8) 22 8 = 0 ∧ hI (gs 24 0 h8) 22 9 = 0 := ⟨by rw [gs_i (by omega)]; exact i8 8 (by omega), by rw [gs_i (by omega)]; exact i8 9 (by omega)⟩
      have e1 : hI h' 22 10 = hI t4 395 41 := B'.1.2.2.2.2.2.1.1
      refine .inr ?_
      rcases z5 with ⟨b0, -, -, b3, b4, ⟨-, -, b5, b6⟩ | ⟨d1, b5, -⟩⟩ | ⟨b0, -, -, -, b4, b5⟩
      · rcases b0 with b0 | b0
        · obtain ⟨v1, v2, v3, v4, v5⟩ := c40' _ rfl
          refine ⟨0, how, t2, t3, t4, _, h', by rw [go (by omega), b5], o1, o2, y2, z1, ?_, v1, rn', v2, .inl rfl, ?_, ?_, by rw [v5]; exact e1⟩
          · unfold c268
            rw [if_neg (by omega)]
            unfold c268_j10
            refine bnd rfl ?_
            rw [if_neg (by omega)]
          · rw [b6, if_neg (by omega), if_pos rfl, v3]
          · rw [b4, i89.2, if_neg (by omega)]
        · refine ⟨0, how, t2, t3, t4, t4, h', by rw [go (by omega), b5], o1, o2, y2, z1, ?_, UB, rn', rr4, .inl rfl, ?_, ?_, e1⟩
          · unfold c268
            rw [if_pos b0]
            unfold c268_j10
            rw [if_neg (by omega)]
          · rw [b6, if_pos b0, if_pos rfl]
          · rw [b4, i89.2, if_neg (by omega)]
      · exact absurd b5 (by omega)
      · obtain ⟨v1, v2, v3, v4, v5⟩ := c40' _ rfl
        have e68 : ∀ o, (if hI (sI t4 395 40 0) 395 42 = 0 then some (1, sI t4 395 40 0) else some (4, sI t4 395 40 0)) = some o → c268 how t4 = some o := fun o e => by
          unfold c268
          rw [if_neg (by omega)]
          unfold c268_j10
          refine bnd rfl ?_
          rw [if_pos b0]
          exact e
        have e42 : hI (sI t4 395 40 0) 395 42 = hI t4 395 42 := by rw [hI_sI, if_neg (by omega)]
        rcases b5 with ⟨b6, b7, b8⟩ | ⟨b6, b7, b8⟩
        · refine ⟨1, how, t2, t3, t4, _, h', by rw [go (by omega), b6], o1, o2, y2, z1, e68 _ (if_pos (by rw [e42]; exact b8)), v1, rn', v2, .inr (.inl rfl), ?_, ?_, by rw [v5]; exact e1⟩
          · rw [b4, i89.1, if_neg (by omega)]
          · rw [b7, if_pos rfl, v4]
        · refine ⟨4, how, t2, t3, t4, _, h', by rw [go (by omega), b6], o1, o2, y2, z1, e68 _ (if_neg (by rw [e42, b8]; omega)), v1, rn', v2, .inr (.inr rfl), ?_, ?_, by rw [v5]; exact e1⟩
          · rw [b4, i89.1, if_neg (by omega)]
          · rw [b7, i89.2, if_neg (by omega)]
  · rw [if_neg hn] at cls
    obtain ⟨t2, o1, o2⟩ := c252_o (v := v) V.1 c40 lv1 hn
    exact .inl ⟨t2, cls _ rfl, o1, o2⟩
end SHU
