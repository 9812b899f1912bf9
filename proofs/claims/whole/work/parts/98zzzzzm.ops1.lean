/-! the calls, one by one: those that write little -/
section LAP2
variable {hc hr : hS}
theorem api24b {κ : Nat} (P : PT hc hr κ) (n : Int) : ∃ v hc' hr', c173 n hc = some (v, hc') ∧ c296 n hr = some (v, hr') ∧ PT hc' hr' κ ∧ ((hc' = hc ∧ hr' = hr) ∨ ((0 ≤ n ∧ n < κ) ∧ chg (fun x => x = 48 ∨ x = hR hc 50 n.toNat) hc hc' ∧ (∀ j, j ≠ 6 → hI hc' 48 j = hI hc 48 j) ∧ (∀ j, j ≠ 5 → hR hc' 48 j = hR hc 48 j) ∧ (∀ x j, x ≠ 48 → hR hc' x j = hR hc x j) ∧ (∀ x j, j ≠ 1 → x ≠ 48 → hI hc' x j = hI hc x j) ∧ fp (fun x j => (x = 395 ∧ (j = 28 ∨ j = 26)) ∨ x = 402) hr hr')) := by
  have P' := P
  obtain ⟨p1, p2, p3, p4, p5, p6⟩ := P
  unfold c173 c174 c296
  rw [p1, p2, wsub_e (by omega) (by omega), c191_e]
  simp only [bsome]
  by_cases a : n < 0
  · rw [if_pos a, if_neg (show ¬ (0 ≤ n ∧ n ≤ (κ : Int) - 1) by omega), if_pos rfl]
    exact ⟨_, _, _, rfl, rfl, P', .inl ⟨rfl, rfl⟩⟩
  rw [if_neg a]
  by_cases b : (κ : Int) ≤ n
  · rw [if_pos b, if_neg (show ¬ (0 ≤ n ∧ n ≤ (κ : Int) - 1) by omega), if_pos rfl]
    exact ⟨_, _, _, rfl, rfl, P', .inl ⟨rfl, rfl⟩⟩
  rw [if_neg b, if_pos (show 0 ≤ n ∧ n ≤ (κ : Int) - 1 by omega), if_neg (show ¬ (1 : Int) = 0 by omega)]
  obtain ⟨⟨q1, q2, q3⟩, q4⟩ := p4 n.toNat (by omega)
  rcases p6 with ⟨w1, w2⟩ | ⟨w1, w2, w3, w4⟩
  · rw [w2, hnul_0, if_pos w1, aRs_s (by omega) (by omega)]
    simp only [bsome]
    rw [if_pos trivial]
    have e1 : hR (sR hc 48 5 (hR hc 50 n.toNat)) 48 5 = hR hc 50 n.toNat := by rw [hR_sR, if_pos ⟨rfl, rfl⟩]
    rw [e1, pI_s (show hT (sR hc 48 5 (hR hc 50 n.toNat)) (hR hc 50 n.toNat) = 26 from q3), wIs_s (by omega) (by omega)]
    simp only [bsome]
    have e50 : ∀ k, hR (sI (sI (sR hc 48 5 (hR hc 50 n.toNat)) (hR hc 50 n.toNat) 1 1) 48 6 0) 50 k = hR hc 50 k := fun k => by
      show hR (sR hc 48 5 (hR hc 50 n.toNat)) 50 k = _
      rw [hR_sR, if_neg (by omega)]
    refine ⟨_, _, _, rfl, rfl, ?_, .inr ⟨by omega, ?_, ?_, ?_, ?_, fun x j hj hx => ?_, ?_⟩⟩
    · refine ⟨?_, ?_, p3, ?_, ?_, .inr ⟨?_, ?_, ?_, ?_, ?_, ?_⟩⟩
      · rw [hI_sI, if_neg (by omega), hI_sI, if_neg (by omega)]
        exact p1
      · rw [hI_sI, if_neg (by omega), hI_sI, if_neg (by omega), hI_sI, if_neg (by omega)]
        exact p2
      · intro k hk
        rw [e50]
        obtain ⟨z1, z2⟩ := p4 k hk
        refine ⟨z1, ?_⟩
        rw [hI_sI, if_neg (by omega), hI_sI, hI_sI]
        by_cases hkn : k = n.toNat
        · rw [hkn, if_pos ⟨rfl, rfl⟩, if_pos ⟨rfl, rfl⟩]
        · rw [if_neg (fun c => hkn (p5 k n.toNat hk (by omega) c.1)), if_neg (fun c => hkn c.2), hI_sI, if_neg (by omega), hI_sI, if_neg (by omega)]
          exact z2
      · intro j k hj hk
        rw [e50, e50]
        exact p5 j k hj hk
      · rw [hI_sI, if_neg (by omega), hI_sI, if_neg (by omega), hI_sI, if_pos ⟨rfl, rfl⟩]
        omega
      · rw [hI_sI, if_neg (by omega), hI_sI, if_neg (by omega), hI_sI, if_pos ⟨rfl, rfl⟩]
        omega
      · rw [hI_sI (x := 402), if_neg (by omega), hI_sI (x := 395) (i := 26), if_neg (by omega), hI_sI (x := 395) (i := 28), if_pos ⟨rfl, rfl⟩, e50]
        exact e1
      · rw [hI_sI, if_pos ⟨rfl, rfl⟩, hI_sI, if_neg (by omega), hI_sI, if_pos ⟨rfl, rfl⟩]
      · rw [hI_sI, if_pos ⟨rfl, rfl⟩]; omega
      · rw [hI_sI, if_pos ⟨rfl, rfl⟩]; omega
    · exact chg_tr (chg_tr (chg_sR (.inl rfl)) (chg_sI (.inr rfl))) (chg_sI (.inl rfl))
    · intro j hj
      rw [hI_sI, if_neg (fun c => hj c.2), hI_sI, if_neg (by omega)]
      rfl
    · intro j hj
      show hR (sR hc 48 5 (hR hc 50 n.toNat)) 48 j = _
      rw [hR_sR, if_neg (fun c => hj c.2)]
    · intro x j hx
      show hR (sR hc 48 5 (hR hc 50 n.toNat)) x j = _
      rw [hR_sR, if_neg (fun c => hx c.1)]
    · rw [hI_sI, if_neg (fun c => hx c.1), hI_sI, if_neg (fun c => hj c.2)]
      rfl
    · exact fp_tr (fp_tr (fp_sI (.inl ⟨rfl, .inl rfl⟩)) (fp_sI (.inl ⟨rfl, .inr rfl⟩))) (fp_sI (.inr rfl))
  · obtain ⟨y1, y2, y3⟩ := (p4 (hI hr 395 28).toNat (by omega)).1
    rw [w3, hnul_8 (by omega), if_neg (by omega)]
    exact ⟨_, _, _, rfl, rfl, P', .inl ⟨rfl, rfl⟩⟩
end LAP2
section OPS
variable {h h' hc hr hc' hr' t t' : hS} {K K' : Nat → Int → Prop} {p m q q' κ n : Nat} {r : Int → Nat} {G : Int} {R0 R1 : Nat → Nat} {S : Nat → Nat → Prop}
theorem igH_fp (f : fp S h h') (e : ∀ x j, S x j → (9 ≤ x ∧ x ≤ 17) ∨ x = 20 ∨ (x = 8 ∧ 9 ≤ j) ∨ (x = 48 ∧ j = 4) ∨ (395 ≤ x ∧ x < 448)) : igH κ h h' := ⟨Nat.le_of_eq (h2_N f.1).symm, fun x _ hx => ⟨⟨h2_T f.1 x, h2_L f.1 x⟩, fun j _ => h2_R f.1 x j, fun j hj => f.2 x j (fun z => by have := e x j z; omega)⟩⟩
theorem kR_fp (f : fp S h h') (e : ∀ x j, S x j → ¬ (395 ≤ x ∧ x < 448)) : kR h h' := fun x j x1 x2 => ⟨f.2 x j (fun z => e x j z ⟨x1, x2⟩), by rw [h2_J f.1]⟩
theorem kCc_fp (f : fp S h h') (e : ∀ x j, S x j → 395 ≤ x ∧ x < 448) : kCc h h' := ⟨⟨funext (h2_T f.1), funext (h2_L f.1), h2_N f.1, h2_M f.1, funext (fun x => funext (h2_R f.1 x))⟩, fun x j hx => f.2 x j (fun z => hx (e x j z))⟩
theorem kR_rf : kR h h := fun _ _ _ _ => ⟨rfl, rfl⟩
theorem kCc_rf : kCc h h := ⟨⟨rfl, rfl, rfl, rfl, rfl⟩, fun _ _ _ => rfl⟩
theorem kpH_low (e : ∀ x, x < hN h → (x = 213 ∨ x = 214 ∨ x = 6 ∨ x = 50 ∨ x = 48 ∨ 448 ≤ x) → sm h h' x) (h448 : 448 ≤ hN h) (en : hN h ≤ hN h') : kpH p m h h' := by
  have s48 := e 48 (by omega) (by omega)
  exact ⟨en, fun x x1 x2 => by
    have s := e x x2 (by omega)
    exact ⟨s.2.2.1, s.2.1, fun _ _ => s⟩, ⟨e 213 (by omega) (by omega), e 214 (by omega) (by omega), e 6 (by omega) (by omega)⟩, (e 50 (by omega) (by omega)).2.1, ⟨s48.1 9, s48.2.1 7, s48.2.1 8⟩⟩
theorem kpT_low (e : ∀ x j, (x = 399 ∨ x = 400 ∨ x = 401 ∨ (x = 395 ∧ (j = 27 ∨ j = 29))) → hI t' x j = hI t x j) : kpT t t' := ⟨fun j => e 399 j (by omega), fun j => e 401 j (by omega), ⟨e 395 27 (by omega), e 395 29 (by omega)⟩, fun v g _ _ _ _ _ => e 400 _ (by omega), fun v g _ _ _ _ => e 400 _ (by omega), e 400 _ (by omega)⟩
theorem RT_n (R : RT h t K p m q r) (S' : SH h') (C' : CR h' t' p m q') (en : hN h ≤ hN h') (s : ∀ x, x < hN h → (x = 213 ∨ x = 214 ∨ 448 ≤ x) → sm h h' x) (ew : ∀ j, hI t' 400 j = hI t 400 j) : RT h' t' K p m q' r := by
  obtain ⟨-, Pw, T, C, hp, D⟩ := R
  have W := Pw.1
  have pN := Pw.2.1.2.1
  have sp1 := s (p + 1) pN (by omega)
  have hk : ∀ u, kd h' p u = kd h p u := fun u => by
    unfold kd
    split
    · rfl
    · exact sp1.2.1 _
  have ek : ∀ j : Int, 0 ≤ j → j < m → ∀ o, o ≤ 12 → sm h h' (kd h p j + o) := fun j j0 j1 o ho => by
    have Q := (Pw.2.2.1 j j0 j1).1
    exact s _ (by have := Q.2.1; omega) (by have := Q.1; omega)
  refine ⟨S', PW_l2 Pw (s p (by omega) (by omega)) sp1 ek en (fun _ _ _ _ _ _ => ew _) (ew _), TB_l2 W T hk (fun j j0 j1 o _ ho => ⟨(ek j j0 j1 o ho).1, (ek j j0 j1 o ho).2.1⟩) (fun _ _ _ _ _ _ => ew _), C', hp, fun x v hx => ?_⟩
  obtain ⟨⟨d1, d2, d3⟩, d4⟩ := D x v hx
  exact ⟨⟨d1, by omega, by rw [(s x d2 (by omega)).2.2.1]; exact d3⟩, fun j j0 j1 => by rw [hk]; exact d4 j j0 j1⟩
theorem RUN_n (U : RUNp K p m q r κ h t) (R' : RT h' t' K p m q' r) (h448 : 448 ≤ hN h) (en : hN h ≤ hN h') (s : ∀ x, x < hN h → (448 ≤ x ∨ (22 ≤ x ∧ x ≤ 47)) → sm h h' x) (et : ∀ x j, (x = 399 ∨ (419 ≤ x ∧ x ≤ 422) ∨ (x = 395 ∧ (j = 66 ∨ j = 60 ∨ j = 54))) → hI t' x j = hI t x j) : RUNp K p m q' r κ h' t' := by
  obtain ⟨R, C, hk, ⟨f1, f2⟩, rn, n, e54⟩ := U
  have s' : ∀ x, 22 ≤ x → x ≤ 47 → sm h h' x := fun x x1 x2 => s x (by omega) (by omega)
  exact ⟨R', CT_s C (fun x x1 x2 _ _ => s x x2 (by omega)) en (fun j => et 399 j (by omega)), hk, ⟨fun e e1 e2 => ⟨by rw [(s' 23 (by omega) (by omega)).2.1]; exact (f1 e e1 e2).1, by rw [(s' (27 + e) (by omega) (by omega)).2.2.1]; exact (f1 e e1 e2).2⟩, by rw [(s' 24 (by omega) (by omega)).2.2.1]; exact f2⟩, rnn_c rn (fun x j hx => (s' x (by omega) (by omega)).1 j) (fun x j hx => et x j (by omega)), by rw [(s' 22 (by omega) (by omega)).1, et 395 60 (by omega)]; exact n, by rw [et 395 54 (by omega)]; exact e54⟩
theorem KD_g (s : ∀ x, x < hN h → 448 ≤ x → hT h x ≠ 26 → sm h h' x) (en : hN h ≤ hN h') {y : Nat} (Q : KD h y) : KD h' y ∧ ∀ o, o ≤ 12 → sm h h' (y + o) := KD_st (fun x x1 x2 x3 => s x x2 x1 x3) en Q
theorem LRs_u (LR : LRs h t K κ) (D : ∀ x v, K x v → (448 ≤ x ∧ x < hN h ∧ hT h x = 1)) (s : ∀ x, x < hN h → 448 ≤ x → hT h x ≠ 26 → sm h h' x) (sF : ∀ l, l < 10 → sm h h' (376 + 2 * l)) (lv : ∀ c, c < 40 → hI h (215 + 4 * c) 1 = 1 → hI h' (215 + 4 * c) 1 = 1) (en : hN h ≤ hN h') (et : ∀ y j, (y = 399 ∨ y = 423 ∨ (426 ≤ y ∧ y ≤ 437)) → hI t' y j = hI t y j) : LRs h' t' K κ := fun l hl z => by
  rw [et 423 l (by omega)] at z
  obtain ⟨x, c, Q, X⟩ := LR l hl z
  obtain ⟨⟨q1, q2, q3, q4, q5, q6⟩, ⟨d1, d2, d3⟩, g1', g2', g3', n, k, ⟨n1, n2, n3⟩, n4, n5, n6, n7⟩ := Q
  have kx := D x _ n7
  have sx := s x kx.2.1 kx.1 (by omega)
  have F9 := sF l hl
  refine ⟨x, c, ⟨⟨by rw [F9.2.2.1]; exact q1, by rw [F9.2.1]; exact q2, q3, by rw [sx.2.2.1]; exact q4, by rw [sx.2.2.2]; exact q5, q6⟩, ⟨d1, by rw [F9.2.1]; exact d2, lv c d1 d3⟩, by rw [et 426 l (by omega)]; exact g1', by rw [F9.1, et 427 l (by omega)]; exact g2', by rw [F9.1, et 428 l (by omega)]; exact g3', n, k, ⟨n1, by rw [F9.1]; exact n2, by rw [et 434 l (by omega)]; exact n3⟩, by rw [et 433 l (by omega)]; exact n4, n5, ?_, by rw [et 435 _ (by omega)]; exact n7⟩, SFX_g X sx.1 sx.2.2.2 (F9.1 4) (et 429 l (by omega)) (et 432 l (by omega)) (fun j => et 399 j (by omega))⟩
  rw [F9.2.1]
  exact ACH_c n6 (fun a' Q' => by
    obtain ⟨z1, z2⟩ := KD_g s en Q'
    exact ⟨z1, fun o ho _ => z2 o ho⟩) (fun u u1 u2 => ⟨et 435 _ (by omega), et 436 _ (by omega), et 437 _ (by omega)⟩)
theorem LA1_u {l : Nat} (La : LA1 h t l) (s : ∀ x, x < hN h → 448 ≤ x → hT h x ≠ 26 → sm h h' x) (s5 : sm h h' (375 + 2 * l)) (s6 : sm h h' (376 + 2 * l)) (en : hN h ≤ hN h') (et : ∀ y j, (423 ≤ y ∧ y ≤ 437) → hI t' y j = hI t y j) : LA1 h' t' l := by
  obtain ⟨x1, x2, x3, x4, x5, x6⟩ := La
  unfold LA1
  rw [s5.1, s5.1, s5.1, s5.1, s5.1, s5.1, s6.2.1, et 423 l (by omega), et 424 l (by omega), et 425 l (by omega), et 430 l (by omega), et 431 l (by omega), et 432 l (by omega), et 437 _ (by omega)]
  refine ⟨x1, x2, x3, x4, x5, fun z => ?_⟩
  obtain ⟨y1, y2, y3, y4, y5, y6⟩ := x6 z
  obtain ⟨k1, k2⟩ := KD_g s en y5
  have s0 := k2 0 (by omega)
  rw [Nat.add_zero] at s0
  exact ⟨y1, y2, y3, y4, k1, by rw [s0.1]; exact y6⟩
theorem SL_g (Ss : SL h) (e : ∀ j, hR h' 21 j = hR h 21 j) (s : ∀ x, 375 ≤ x → x < 395 → hT h' x = hT h x ∧ hR h' x 0 = hR h x 0) : SL h' := fun l hl => by
  obtain ⟨a1, a2, a3, a4⟩ := Ss l hl
  have s1 := s (375 + 2 * l) (by omega) (by omega)
  have s2 := s (376 + 2 * l) (by omega) (by omega)
  exact ⟨by rw [e]; exact a1, by rw [s1.1]; exact a2, by rw [s1.2]; exact a3, by rw [s2.1]; exact a4⟩
theorem ROq_n (ro : ROq n hc hr) (e1 : hN hc' = hN hc) (e2 : hM hc' = hM hc) : ROq (n + 1) hc' hr' := by
  unfold ROq wtq at *
  rw [e1, e2]
  have : (if hI hr' 395 28 = -1 then 0 else 1 : Nat) ≤ 1 := by split <;> omega
  omega
/-- feed and end -/
theorem op_tape (I : RELn n hc hr) (T : tpR hc' hr') (f1 : fp (fun x j => (x = 9 ∧ j = 1) ∨ x = 10) hc hc') (f2 : fp (fun x j => (x = 395 ∧ j = 1) ∨ x = 396) hr hr') : RELn (n + 1) hc' hr' ∧ kR hc hc' ∧ kCc hr hr' := by
  obtain ⟨K, p, m, q, r, κ, G, R0, R1, I, Q, S, g, ro⟩ := I
  refine ⟨⟨K, p, m, q, r, κ, G, R0, R1, INq_0 I Q.2.2.2.2.2.2.2 (igH_fp f1 (fun x j z => by omega)) (fun x j x1 x2 hx => f2.2 x j (by omega)) (f1.2 48 4 (by omega)) (f2.2 395 25 (by omega)), ?_, ?_, by omega, ROq_n ro (h2_N f1.1) (h2_M f1.1)⟩, kR_fp f1 (fun x j z => by omega), kCc_fp f2 (fun x j z => by omega)⟩
  · exact RQ_g Q T (lrn_g Q.2.2.1 (f2.2 395 9 (by omega)) (fun j => by rw [h2_J f2.1])) (nmR_r (nmR_c Q.2.2.2.1 (f1.2 15 2 (by omega)) (fun j => f1.2 16 j (by omega))) (f2.2 395 7 (by omega)) (fun j => by rw [h2_J f2.1])) (by rw [f1.2 15 7 (by omega)]; exact Q.2.2.2.2.2.2.1) (fun x hx => fp2_sm f1 (fun j => by omega)) ⟨h2_T f1.1 _, h2_L f1.1 _, h2_T f1.1 _, h2_L f1.1 _⟩ (Nat.le_of_eq (h2_N f1.1).symm)
  · obtain ⟨s1, s2, s3, s4, s5, s6, s7⟩ := id S
    exact SCL_g S ⟨h2_T f1.1 _, h2_L f1.1 _⟩ ⟨by rw [f1.2 15 4 (by omega), f2.2 395 13 (by omega)]; exact s2.1, by rw [f1.2 15 5 (by omega), f2.2 395 14 (by omega)]; exact s2.2⟩ ⟨by rw [f1.2 8 11 (by omega), f2.2 395 56 (by omega)]; exact s3.1, by rw [f1.2 8 12 (by omega), f2.2 395 57 (by omega)]; exact s3.2.1, by rw [f1.2 8 13 (by omega), f2.2 395 58 (by omega)]; exact s3.2.2⟩ (f1.2 8 9 (by omega)) (f2.2 395 59 (by omega)) (fun c hc => by rw [f1.2 20 c (by omega), f2.2 418 c (by omega)]; exact s5 c hc) (f1.2 8 10 (by omega)) (f2.2 395 30 (by omega)) (f2.2 395 60 (by omega))
theorem op0 (a b c d e : Int) : OPq (c20 a b c d e) (c233 a b c d e) := fun n hc hr _ I => by
  obtain ⟨K, p, m, q, r, κ, G, R0, R1, I', Q, S, g, ro⟩ := id I
  obtain ⟨v, hc', hr', e1, e2, T, f1, f2⟩ := api0 Q.1 a b c d e
  exact ⟨v, hc', hr', e1, e2, op_tape I T f1 f2⟩
theorem op1 (a : Int) : OPq (c22 a) (c234 a) := fun n hc hr _ I => by
  obtain ⟨K, p, m, q, r, κ, G, R0, R1, I', Q, S, g, ro⟩ := id I
  obtain ⟨v, hc', hr', e1, e2, T, f1, f2⟩ := api1 Q.1 a
  exact ⟨v, hc', hr', e1, e2, op_tape I T f1 f2⟩
theorem op2 : OPq c23 c235 := fun n hc hr _ I => by
  obtain ⟨K, p, m, q, r, κ, G, R0, R1, I, Q, S, g, ro⟩ := I
  obtain ⟨wk, X, hw⟩ := Q.2.1
  obtain ⟨v, hc', hr', e1, e2, L, N, T, f1, y1, y2, -, y3, y4⟩ := api2 Q.1 X hw Q.2.2.1 Q.2.2.2.1 Q.2.2.2.2.1.1 Q.2.2.2.2.1.2
  refine ⟨v, hc', hr', e1, e2, ⟨K, p, m, q, r, κ, G, R0, R1, INq_0 I Q.2.2.2.2.2.2.2 (igH_fp f1 (fun x j z => by omega)) (fun x j x1 x2 hx => y3 x j (by omega)) (f1.2 48 4 (by omega)) (y3 395 25 (by omega)), ?_, ?_, by omega, ROq_n ro (h2_N f1.1) (h2_M f1.1)⟩, kR_fp f1 (fun x j z => by omega), ⟨⟨?_, ?_, ?_, ?_, y1⟩, fun x j hx => y3 x j (by omega)⟩⟩
  · exact RQ_g Q T (.inr L) N (by rw [f1.2 15 7 (by omega)]; exact Q.2.2.2.2.2.2.1) (fun x hx => fp2_sm f1 (fun j => by omega)) ⟨h2_T f1.1 _, h2_L f1.1 _, h2_T f1.1 _, h2_L f1.1 _⟩ (Nat.le_of_eq (h2_N f1.1).symm)
  · obtain ⟨s1, s2, s3, s4, s5, s6, s7⟩ := id S
    exact SCL_g S ⟨h2_T f1.1 _, h2_L f1.1 _⟩ ⟨by rw [f1.2 15 4 (by omega), y3 395 13 (by omega)]; exact s2.1, by rw [f1.2 15 5 (by omega), y3 395 14 (by omega)]; exact s2.2⟩ ⟨by rw [f1.2 8 11 (by omega), y3 395 56 (by omega)]; exact s3.1, by rw [f1.2 8 12 (by omega), y3 395 57 (by omega)]; exact s3.2.1, by rw [f1.2 8 13 (by omega), y3 395 58 (by omega)]; exact s3.2.2⟩ (f1.2 8 9 (by omega)) (y3 395 59 (by omega)) (fun c hc => by rw [f1.2 20 c (by omega), y3 418 c (by omega)]; exact s5 c hc) (f1.2 8 10 (by omega)) (y3 395 30 (by omega)) (y3 395 60 (by omega))
  · show hr'.2.2.2.1 = hr.2.2.2.1; rw [y2]
  · show hr'.2.2.2.2.1 = hr.2.2.2.2.1; rw [y2]
  · show hr'.2.2.2.2.2.1 = hr.2.2.2.2.2.1; rw [y2]
  · show hr'.2.2.2.2.2.2 = hr.2.2.2.2.2.2; rw [y2]
theorem op17 (a : Int) : OPq (c135 a) (c270 a) := fun n hc hr _ I => by
  obtain ⟨K, p, m, q, r, κ, G, R0, R1, I', Q, S, g, ro⟩ := id I
  obtain ⟨v, hc', hr', e1, e2, z⟩ := api17 Q.2.2.2.1.1 a
  rcases z with ⟨-, z1, z2⟩ | ⟨-, za, z1, z2⟩
  · subst z1
    subst z2
    exact ⟨v, hc', hr', e1, e2, REL_n I, kR_rf, kCc_rf⟩
  · have f1 : fp (fun x j => x = 8 ∧ j = 10) hc hc' := by rw [z1]; exact fp_sI ⟨rfl, rfl⟩
    have f2 : fp (fun x j => x = 395 ∧ j = 30) hr hr' := by rw [z2]; exact fp_sI ⟨rfl, rfl⟩
    refine ⟨v, hc', hr', e1, e2, ⟨K, p, m, q, r, κ, G, R0, R1, INq_0 I' Q.2.2.2.2.2.2.2 (igH_fp f1 (fun x j z => by omega)) (fun x j x1 x2 hx => f2.2 x j (by omega)) (f1.2 48 4 (by omega)) (f2.2 395 25 (by omega)), ?_, ?_, by omega, ROq_n ro (h2_N f1.1) (h2_M f1.1)⟩, kR_fp f1 (fun x j z => by omega), kCc_fp f2 (fun x j z => by omega)⟩
    · exact RQ_g Q (tpR_g Q.1 (f1.2 9 1 (by omega)) (fun j => f1.2 10 j (by omega)) (f2.2 395 1 (by omega)) (fun j => f2.2 396 j (by omega))) (lrn_g Q.2.2.1 (f2.2 395 9 (by omega)) (fun j => by rw [h2_J f2.1])) (nmR_r (nmR_c Q.2.2.2.1 (f1.2 15 2 (by omega)) (fun j => f1.2 16 j (by omega))) (f2.2 395 7 (by omega)) (fun j => by rw [h2_J f2.1])) (by rw [f1.2 15 7 (by omega)]; exact Q.2.2.2.2.2.2.1) (fun x hx => fp2_sm f1 (fun j => by omega)) ⟨h2_T f1.1 _, h2_L f1.1 _, h2_T f1.1 _, h2_L f1.1 _⟩ (Nat.le_of_eq (h2_N f1.1).symm)
    · obtain ⟨s1, s2, s3, s4, s5, s6, s7⟩ := id S
      have n40 := Q.2.2.2.1.1.2.2
      exact ⟨by rw [h2_T f1.1, h2_L f1.1]; exact s1, ⟨by rw [f1.2 15 4 (by omega), f2.2 395 13 (by omega)]; exact s2.1, by rw [f1.2 15 5 (by omega), f2.2 395 14 (by omega)]; exact s2.2⟩, ⟨by rw [f1.2 8 11 (by omega), f2.2 395 56 (by omega)]; exact s3.1, by rw [f1.2 8 12 (by omega), f2.2 395 57 (by omega)]; exact s3.2.1, by rw [f1.2 8 13 (by omega), f2.2 395 58 (by omega)]; exact s3.2.2⟩, by rw [f1.2 8 9 (by omega), f2.2 395 59 (by omega)]; exact s4, fun c hc => by rw [f1.2 20 c (by omega), f2.2 418 c (by omega)]; exact s5 c hc, ⟨by rw [z1, z2, hI_sI, if_pos ⟨rfl, rfl⟩, hI_sI, if_pos ⟨rfl, rfl⟩], by rw [z2, hI_sI, if_pos ⟨rfl, rfl⟩]; omega⟩, by rw [f2.2 395 60 (by omega)]; exact s7⟩
end OPS
