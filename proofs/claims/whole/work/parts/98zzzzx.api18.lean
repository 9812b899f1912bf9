/-! call 18: beat (2) -/
/-- what a beat leaves alone -/
def BEc (h h' : hS) : Prop := (hN h ≤ hN h' ∧ hM h ≤ hM h') ∧ JQr h h' ∧ ∀ x, x < 448 → (hT h' x = hT h x ∧ hL h' x = hL h x) ∧ (∀ j, ¬ ((23 ≤ x ∧ x ≤ 48) ∨ x = 51 ∨ (53 ≤ x ∧ x < 213) ∨ (215 ≤ x ∧ x < 395) ∨ (x = 8 ∧ j = 7)) → hR h' x j = hR h x j) ∧ ∀ j, ¬ ((x = 8 ∧ j = 9) ∨ x = 20 ∨ x = 22 ∨ (24 ≤ x ∧ x ≤ 47) ∨ (x = 48 ∧ j ≠ 4) ∨ x = 52 ∨ (53 ≤ x ∧ x < 213) ∨ (215 ≤ x ∧ x < 395)) → hI h' x j = hI h x j
def BEt (t t' : hS) : Prop := fp (fun x j => (x = 395 ∧ ((26 ≤ j ∧ j ≤ 29) ∨ (39 ≤ j ∧ j ≤ 42) ∨ j = 52 ∨ j = 54 ∨ j = 55 ∨ j = 59 ∨ j = 60 ∨ j = 66 ∨ (82 ≤ j ∧ j ≤ 84))) ∨ x = 400 ∨ (402 ≤ x ∧ x ≤ 447)) t t'
section BT9
variable {h h' h0 h1 h2 h3 t t' t1 t2 t3 hA tA : hS} {K : Nat → Int → Prop} {p P m q κ k : Nat} {r : Int → Nat} {G s v : Int} {R0 R1 : Nat → Nat}
theorem kp_sm (g : hT h' = hT h ∧ hL h' = hL h ∧ hN h' = hN h) (eR : ∀ x j, hR h' x j = hR h x j) (eI : ∀ x j, ¬ (x = 8 ∨ x = 22) → hI h' x j = hI h x j) : kpH p m h h' := by
  have s : ∀ x, ¬ (x = 8 ∨ x = 22) → sm h h' x := fun x hx => ⟨fun j => eI x j hx, fun j => eR x j, by rw [g.1], by rw [g.2.1]⟩
  exact ⟨by rw [g.2.2]; exact Nat.le_refl _, fun x x1 _ => ⟨by rw [g.1], fun j => eR x j, fun _ _ => s x (by omega)⟩, ⟨s 213 (by omega), s 214 (by omega), s 6 (by omega)⟩, fun j => eR 50 j, ⟨eI 48 9 (by omega), eR 48 7, eR 48 8⟩⟩
theorem kt_sm (e : ∀ x j, ¬ (x = 395 ∧ (j = 59 ∨ j = 60 ∨ j = 66)) → hI t' x j = hI t x j) : kpT t t' := ⟨fun j => e 399 j (by omega), fun j => e 401 j (by omega), ⟨e 395 27 (by omega), e 395 29 (by omega)⟩, fun v g _ _ _ _ _ => e 400 _ (by omega), fun v g _ _ _ _ => e 400 _ (by omega), e 400 _ (by omega)⟩
/-- the loops of a beat, and what is held behind them -/
theorem BE_1 (I : INq K p m q r κ G R0 R1 h t) (h448 : 448 ≤ hN h) (bt : hI h 8 9 = hI t 395 59 ∧ 0 ≤ hI h 8 9 ∧ hI h 8 9 < 1000) (wk : hI h 8 10 = hI t 395 30 ∧ (hI t 395 30 = -1 ∨ (0 ≤ hI t 395 30 ∧ hI t 395 30 < 40))) (eA : hA = sI (sI (sI h 8 9 (hI h 8 9 + 1)) 22 13 0) 22 11 1) (eB : tA = sI (sI (sI t 395 59 (hI h 8 9 + 1)) 395 66 0) 395 60 1) : ∃ h1 t1 h2 t2 h3 t3, lp (fun s => c136_b40 s.1 s.2) hF0 (0, hA) = some h1 ∧ lp (fun s => c271_b34 s.1 s.2) hF0 (0, tA) = some t1 ∧ lp (fun s => c136_b95 s.1 s.2.1 s.2.2) hF0 (0, 0, h1) = some (fbI t3 10, h2) ∧ lp (fun s => c271_b135 s.1 s.2) hF0 (0, t1) = some t2 ∧ h3 = sI h2 22 11 0 ∧ t3 = sI t2 395 60 0 ∧ INq K p m q r κ G R0 R1 h3 t3 ∧ (∀ c, c < 40 → hI h3 20 c = hI t3 418 c) ∧ BTc p m hA h2 ∧ BTr tA t2 := by
  obtain ⟨U, ⟨Ss, La, LR⟩, PTh, Pk, Gn, ⟨x1, x2, x3⟩, rf, e87, Lt⟩ := I
  have iA : ∀ x j, ¬ ((x = 8 ∧ j = 9) ∨ (x = 22 ∧ (j = 11 ∨ j = 13))) → hI hA x j = hI h x j := fun x j hx => by rw [eA, hI_sI, if_neg (by omega), hI_sI, if_neg (by omega), hI_sI, if_neg (by omega)]
  have iB : ∀ x j, ¬ (x = 395 ∧ (j = 59 ∨ j = 60 ∨ j = 66)) → hI tA x j = hI t x j := fun x j hx => by rw [eB, hI_sI, if_neg (by omega), hI_sI, if_neg (by omega), hI_sI, if_neg (by omega)]
  have rA : ∀ x j, hR hA x j = hR h x j := fun x j => by rw [eA, hR_sI, hR_sI, hR_sI]
  have gA : hJ hA = hJ h ∧ hT hA = hT h ∧ hL hA = hL h ∧ hN hA = hN h ∧ hM hA = hM h := by rw [eA]; exact ⟨rfl, rfl, rfl, rfl, rfl⟩
  have a8 : hI hA 8 9 = hI h 8 9 + 1 := by rw [eA, hI_sI, if_neg (by omega), hI_sI, if_neg (by omega), hI_sI, if_pos ⟨rfl, rfl⟩]
  have a13 : hI hA 22 13 = 0 := by rw [eA, hI_sI, if_neg (by omega), hI_sI, if_pos ⟨rfl, rfl⟩]
  have a11 : hI hA 22 11 = 1 := by rw [eA, hI_sI, if_pos ⟨rfl, rfl⟩]
  have b59 : hI tA 395 59 = hI h 8 9 + 1 := by rw [eB, hI_sI, if_neg (by omega), hI_sI, if_neg (by omega), hI_sI, if_pos ⟨rfl, rfl⟩]
  have b66 : hI tA 395 66 = 0 := by rw [eB, hI_sI, if_neg (by omega), hI_sI, if_pos ⟨rfl, rfl⟩]
  have b60 : hI tA 395 60 = 1 := by rw [eB, hI_sI, if_pos ⟨rfl, rfl⟩]
  have UA : RUNp K p m q r κ hA tA := RUN_p U gA rA iA iB ⟨a13.trans b66.symm, by rw [a13]; omega, fun i hi => by rw [a13] at hi; omega⟩ (a11.trans b60.symm)
  obtain ⟨SA, LA', RA⟩ := SLL_s Ss La LR ⟨gA.2.1, gA.2.2.1, gA.2.2.2.1⟩ rA (fun x j hx => iA x j (by omega)) (fun y j hy => iB y j (by omega))
  have BTrf : BTc p m hA hA := ⟨⟨rfl, rfl, rfl, rfl, rfl⟩, fun _ _ _ => rfl, fun _ _ _ => rfl⟩
  obtain ⟨h1, t1, e1, e2, ⟨U1, B1', F1, T1, O1⟩, rows⟩ := b40_l (K := K) (p := p) (m := m) (q := q) (r := r) (κ := κ) (h0 := hA) (t0 := tA) (by rw [iA 8 10 (by omega), iB 395 30 (by omega)]; exact wk) (a8.trans b59.symm) 40 0 hF0 hA tA (by omega) (hF0_lt (by omega)) ⟨UA, BTrf, fun _ _ _ _ => ⟨rfl, rfl⟩, fp_rf, fun _ _ _ _ => rfl⟩ (fun c hc => by omega)
  have S1 := SL_b SA B1' (fun l hl => (F1 _ (by omega) (by omega) 0).2)
  have L1 : LA h1 t1 := fun l hl => LA1_b UA.1 (LA' l hl) B1' (fun j => (F1 _ (by omega) (by omega) j).1) (F1 _ (by omega) (by omega) 1).2 (fun y h1 h2 => O1 y l (by omega) (by omega)) (O1 437 _ (by omega) (by omega))
  have R1' := LRs_b UA.1 RA B1' (fun _ => True) (fun l hl _ j => F1 _ (by omega) (by omega) j) (fun l hl _ y h1 h2 => O1 y l (by omega) (by omega)) (fun l hl _ y j h1 h2 h3 h4 => O1 y j (by omega) (by omega)) (fun j => T1.2 399 j (by omega)) (fun l hl z => absurd trivial z)
  obtain ⟨h2, t2, e3, e4, ⟨U2, S2, L2, R2, B2, T2⟩, q20, q418⟩ := b95_l (K := K) (p := p) (m := m) (q := q) (r := r) (κ := κ) (h0 := hA) (t0 := tA) 10 0 hF0 h1 t1 (by omega) (hF0_lt (by omega)) ⟨U1, S1, L1, R1', B1', T1⟩
  obtain ⟨h3, e5⟩ : ∃ h3, h3 = sI h2 22 11 0 := ⟨_, rfl⟩
  obtain ⟨t3, e6⟩ : ∃ t3, t3 = sI t2 395 60 0 := ⟨_, rfl⟩
  have i3 : ∀ x j, ¬ (x = 22 ∧ j = 11) → hI h3 x j = hI h2 x j := fun x j hx => by rw [e5, hI_sI, if_neg hx]
  have r3 : ∀ x j, hR h3 x j = hR h2 x j := fun x j => by rw [e5, hR_sI]
  have o3 : ∀ x j, ¬ (x = 395 ∧ j = 60) → hI t3 x j = hI t2 x j := fun x j hx => by rw [e6, hI_sI, if_neg hx]
  have g3 : hJ h3 = hJ h2 ∧ hT h3 = hT h2 ∧ hL h3 = hL h2 ∧ hN h3 = hN h2 ∧ hM h3 = hM h2 := by rw [e5]; exact ⟨rfl, rfl, rfl, rfl, rfl⟩
  have U3 : RUNp K p m q r κ h3 t3 := RUN_p U2 g3 r3 (fun x j hx => i3 x j (by omega)) (fun x j hx => o3 x j (by omega)) (rnn_c U2.2.2.2.2.1 (fun x j hx => i3 x j (by omega)) (fun x j hx => o3 x j (by omega))) (by rw [e5, e6, hI_sI, if_pos ⟨rfl, rfl⟩, hI_sI, if_pos ⟨rfl, rfl⟩])
  have L3 := SLL_s (h' := h3) (t' := t3) S2 L2 R2 ⟨g3.2.1, g3.2.2.1, g3.2.2.2.1⟩ r3 (fun x j hx => i3 x j (by omega)) (fun y j hy => o3 y j (by omega))
  have fb3 : fbI t3 10 = fbI t2 10 := fbI_cg 10 (fun l hl => ⟨o3 423 l (by omega), o3 425 l (by omega)⟩)
  have hp := U.1.2.2.2.2.1
  have ka : kpH p m h hA := kp_sm ⟨gA.2.1, gA.2.2.1, gA.2.2.2.1⟩ rA (fun x j hx => iA x j (by omega))
  have kb : kpH p m hA h2 := BT_kp UA.1 B2
  have kc : kpH p m h2 h3 := kp_sm ⟨g3.2.1, g3.2.2.1, g3.2.2.2.1⟩ r3 (fun x j hx => i3 x j (by omega))
  have ta : kpT t tA := kt_sm iB
  have tb : kpT tA t2 := BT_kt T2
  have tc : kpT t2 t3 := kt_sm (fun x j hx => o3 x j (by omega))
  obtain ⟨⟨c1, c2, c3, c4, c5⟩, c6, c7⟩ := id B2
  have kd8 : ∀ u : Int, 0 ≤ u → u < m → KD hA (kd hA p u) := fun u u0 u1 => (UA.1.2.1.2.2.1 u u0 u1).1
  have i2 : ∀ x j, (∀ u : Int, 0 ≤ u → u < m → x ≠ kd hA p u + 5) → ¬ (x = 20 ∨ (x = 22 ∧ j ≠ 11) ∨ (24 ≤ x ∧ x ≤ 47) ∨ (375 ≤ x ∧ x < 395) ∨ (215 ≤ x ∧ x < 375 ∧ (x - 215) % 4 ≠ 0 ∧ (x - 215) % 4 ≠ 2)) → hI h2 x j = hI hA x j := fun x j hk hx => c7 x j (fun z => by
    rcases z with z | z | z | z | z | ⟨u, u0, u1, z⟩
    · omega
    · omega
    · omega
    · omega
    · omega
    · exact hk u u0 u1 z)
  have low : ∀ x, x < 448 → ∀ u : Int, 0 ≤ u → u < m → x ≠ kd hA p u + 5 := fun x hx u u0 u1 z => by have := (kd8 u u0 u1).1; omega
  have i48 : ∀ j, hI h3 48 j = hI h 48 j := fun j => by rw [i3 48 j (by omega), i2 48 j (low 48 (by omega)) (by omega), iA 48 j (by omega)]
  have r48 : ∀ x j, ¬ ((x = 23 ∧ j = 0) ∨ x = 24 ∨ (28 ≤ x ∧ x ≤ 47) ∨ (375 ≤ x ∧ x < 395)) → hR h3 x j = hR h x j := fun x j hx => by rw [r3, c6 x j hx, rA]
  have oo : ∀ x j, ¬ (x = 395 ∧ (j = 59 ∨ j = 60 ∨ j = 66)) → ¬ ((x = 395 ∧ (j = 39 ∨ j = 40 ∨ j = 41 ∨ j = 42 ∨ j = 52 ∨ j = 54 ∨ j = 55 ∨ j = 66)) ∨ (400 ≤ x ∧ x ≤ 400) ∨ x = 405 ∨ x = 406 ∨ (408 ≤ x ∧ x ≤ 437)) → hI t3 x j = hI t x j := fun x j hx hy => by rw [o3 x j (by omega), T2.2 x j (by omega), iB x j hx]
  refine ⟨h1, t1, h2, t2, h3, t3, e1, e2, by rw [fb3]; exact e3, e4, e5, e6, ⟨U3, L3, ?_, PKs_k U2.1.2.1 hp (PKs_k UA.1.2.1 hp (PKs_k U.1.2.1 hp Pk ka ta) kb tb) kc tc, GN_k U2.1.2.1.1 (GN_k UA.1.2.1.1 (GN_k U.1.2.1.1 Gn ka ta) kb tb) kc tc, ⟨by rw [g3.2.1, g3.2.2.1, c2, c3, gA.2.1, gA.2.2.1]; exact x1, fun c n hc hn => ?_, fun j hj => ?_⟩, ?_, by rw [r48 8 7 (by omega)]; exact e87, LT_k U2.1.2.1 hp (LT_k UA.1.2.1 hp (LT_k U.1.2.1 hp Lt ka ta) kb tb) kc tc⟩, fun c hc => ?_, B2, T2⟩
  · obtain ⟨q1, q2, q3, q4, q5, q6⟩ := PTh
    refine ⟨by rw [i48]; exact q1, by rw [oo 395 25 (by omega) (by omega)]; exact q2, q3, fun j hj => ?_, fun j k hj hk => ?_, ?_⟩
    · obtain ⟨⟨y1, y2, y3⟩, y4⟩ := q4 j hj
      have e50 : hR h3 50 j = hR h 50 j := r48 50 j (by omega)
      have T3 : ∀ x, hT h3 x = hT h x := fun x => by rw [g3.2.1, c2, gA.2.1]
      have N3 : hN h3 = hN h := by rw [g3.2.2.2.1, c4, gA.2.2.2.1]
      rw [e50, N3, T3, oo 402 j (by omega) (by omega), i3 _ 1 (by omega), i2 _ 1 (fun u u0 u1 z => by
        have := KD_26 (kd8 u u0 u1) (o := 5) (by omega)
        rw [← z, gA.2.1] at this
        exact this y3) (by omega), iA _ 1 (by omega)]
      exact ⟨⟨y1, y2, y3⟩, y4⟩
    · rw [r48 50 j (by omega), r48 50 k (by omega)]
      exact q5 j k hj hk
    · rw [oo 395 28 (by omega) (by omega), oo 395 26 (by omega) (by omega), i48, r48 48 5 (by omega), r48 50 _ (by omega)]
      exact q6
  · rw [i3 _ _ (by omega), i2 _ _ (low _ (by omega)) (by omega), iA _ _ (by omega)]
    exact x2 c n hc hn
  · rw [oo 407 j (by omega) (by omega)]
    exact x3 j hj
  · unfold rfsR
    rw [i48, i48, i48, oo 395 82 (by omega) (by omega), oo 395 83 (by omega) (by omega), oo 395 84 (by omega) (by omega)]
    exact rf
  · rw [i3 20 c (by omega), q20 c, o3 418 c (by omega), q418 c]
    exact rows c hc
end BT9
