/-! call 27: back: all holds but for the former pond, once its statics are back -/
section BK7
variable {h hB h0 h' h1 h2 h3 h9 t tB t' t1 t9 : hS} {K : Nat → Int → Prop} {p P m m0 q κ k l pt : Nat} {r r0 : Int → Nat} {G : Int} {R0 R1 : Nat → Nat}
/-- the long acts stay where the statics of another pond change -/
theorem SLL_v (Ss : SL h) (La : LA h t) (LR : LRs h t K κ) (g : hT h' = hT h ∧ hL h' = hL h ∧ hN h' = hN h) (eR : ∀ x j, 48 < x → hR h' x j = hR h x j) (eR0 : ∀ j, hR h' 21 j = hR h 21 j) (Q0 : ∀ v : Int, 0 ≤ v → v < m0 → KD h (kd h p v)) (kk : ∀ x v, K x v → ∀ j : Int, 0 ≤ j → j < m0 → x < kd h p j ∨ kd h p j + 13 ≤ x) (eI : ∀ x j, 48 < x → (∀ v : Int, 0 ≤ v → v < m0 → x ≠ kd h p v + 5) → hI h' x j = hI h x j) (et : ∀ y j, (y = 399 ∨ (423 ≤ y ∧ y ≤ 437)) → hI t' y j = hI t y j) : SL h' ∧ LA h' t' ∧ LRs h' t' K κ := by
  obtain ⟨g1, g2, g3⟩ := g
  have tT : ∀ x, hT h' x = hT h x := fun x => by rw [g1]
  have tL : ∀ x, hL h' x = hL h x := fun x => by rw [g2]
  have s : ∀ x, 48 < x → (∀ v : Int, 0 ≤ v → v < m0 → x ≠ kd h p v + 5) → sm h h' x := fun x hx ok => ⟨fun j => eI x j hx ok, fun j => eR x j hx, tT x, tL x⟩
  have low : ∀ x, x < 448 → ∀ v : Int, 0 ≤ v → v < m0 → x ≠ kd h p v + 5 := fun x hx v v0 v1 z => by have := (Q0 v v0 v1).1; omega
  have kdd : ∀ {a : Nat}, KD h a → KD h' a ∧ ∀ o, o ≤ 12 → o ≠ 5 → sm h h' (a + o) := fun {a} Q => by
    have a8 := Q.1
    refine ⟨⟨Q.1, by rw [g3]; exact Q.2.1, by rw [tT]; exact Q.2.2.1, fun e he => ?_⟩, fun o ho h5 => s _ (by omega) (fun v v0 v1 z => ?_)⟩
    · obtain ⟨y1, y2, y3⟩ := Q.2.2.2 e he
      exact ⟨by rw [eR _ _ (by omega)]; exact y1, by rw [tT]; exact y2, by rw [tL]; exact y3⟩
    · by_cases c : a = kd h p v
      · omega
      · have := KD_d Q (Q0 v v0 v1) c
        omega
  have ee : ∀ y, 423 ≤ y → y ≤ 437 → ∀ j, hI t' y j = hI t y j := fun y h1 h2 j => et y j (.inr ⟨h1, h2⟩)
  refine ⟨fun l hl => ?_, fun l hl => ?_, fun l hl z => ?_⟩
  · obtain ⟨a1, a2, a3, a4⟩ := Ss l hl
    exact ⟨by rw [eR0]; exact a1, by rw [tT]; exact a2, by rw [eR _ _ (by omega)]; exact a3, by rw [tT]; exact a4⟩
  · obtain ⟨x1, x2, x3, x4, x5, x6⟩ := La l hl
    unfold LA1
    rw [(s (375 + 2 * l) (by omega) (low _ (by omega))).1, (s (375 + 2 * l) (by omega) (low _ (by omega))).1, (s (375 + 2 * l) (by omega) (low _ (by omega))).1, (s (375 + 2 * l) (by omega) (low _ (by omega))).1, (s (375 + 2 * l) (by omega) (low _ (by omega))).1, (s (375 + 2 * l) (by omega) (low _ (by omega))).1, eR (376 + 2 * l) _ (by omega), ee 423 (by omega) (by omega), ee 424 (by omega) (by omega), ee 425 (by omega) (by omega), ee 430 (by omega) (by omega), ee 431 (by omega) (by omega), ee 432 (by omega) (by omega), ee 437 (by omega) (by omega)]
    refine ⟨x1, x2, x3, x4, x5, fun z => ?_⟩
    obtain ⟨y1, y2, y3, y4, y5, y6⟩ := x6 z
    obtain ⟨k1, k2⟩ := kdd y5
    have s0 := k2 0 (by omega) (by omega)
    rw [Nat.add_zero] at s0
    exact ⟨y1, y2, y3, y4, k1, by rw [s0.1]; exact y6⟩
  · rw [ee 423 (by omega) (by omega)] at z
    obtain ⟨x, c, Q, X⟩ := LR l hl z
    obtain ⟨⟨q1, q2, q3, q4, q5, q6⟩, ⟨d1, d2, d3⟩, g1', g2', g3', n, k, ⟨n1, n2, n3⟩, n4, n5, n6, n7⟩ := Q
    have sx := s x (by omega) (fun v v0 v1 z => by have := kk x _ n7 v v0 v1; omega)
    have F9 := s (376 + 2 * l) (by omega) (low _ (by omega))
    refine ⟨x, c, ⟨⟨by rw [tT]; exact q1, by rw [eR _ _ (by omega)]; exact q2, q3, by rw [tT]; exact q4, by rw [tL]; exact q5, q6⟩, ⟨d1, by rw [eR _ _ (by omega)]; exact d2, by rw [(s _ (by omega) (low _ (by omega))).1]; exact d3⟩, by rw [ee 426 (by omega) (by omega)]; exact g1', by rw [F9.1, ee 427 (by omega) (by omega)]; exact g2', by rw [F9.1, ee 428 (by omega) (by omega)]; exact g3', n, k, ⟨n1, by rw [F9.1]; exact n2, by rw [ee 434 (by omega) (by omega)]; exact n3⟩, by rw [ee 433 (by omega) (by omega)]; exact n4, n5, ?_, by rw [ee 435 (by omega) (by omega)]; exact n7⟩, SFX_g X sx.1 sx.2.2.2 (F9.1 4) (ee 429 (by omega) (by omega) l) (ee 432 (by omega) (by omega) l) (fun j => et 399 j (.inl rfl))⟩
    rw [eR _ _ (by omega)]
    exact ACH_c n6 (fun a' Q' => kdd Q') (fun u u1 u2 => ⟨ee 435 (by omega) (by omega) _, ee 436 (by omega) (by omega) _, ee 437 (by omega) (by omega) _⟩)
theorem svH_sm (Q0 : ∀ v : Int, 0 ≤ v → v < m0 → KD h (kd h p v)) (a : svH p m0 h h') {x : Nat} (hx : x ≠ 48) (ok : ∀ v : Int, 0 ≤ v → v < m0 → x ≠ kd h p v + 5) : sm h h' x := ⟨fun j => a.2.2 x j ok, fun j => a.2.1 x j (by omega), by rw [a.1.2.1], by rw [a.1.2.2.1]⟩
theorem SV_RT (R : RT h t K P m q r) (Q : BKq h t K P m p m0 r0 G) (a : svH p m0 h h') (b : svT t t') : RT h' t' K P m q r := by
  obtain ⟨Pw2, T2, C2, hp2, FF, KO0, ⟨pP, k1, k2⟩, kk⟩ := Q
  obtain ⟨S, Pw, T, C, hp, D⟩ := R
  have W := Pw.1
  have hm := W.2.1
  have Q0 : ∀ v : Int, 0 ≤ v → v < m0 → KD h (kd h p v) := fun v v0 v1 => (Pw2.2.2.1 v v0 v1).1
  have low : ∀ x, x < 448 → ∀ v : Int, 0 ≤ v → v < m0 → x ≠ kd h p v + 5 := fun x hx v v0 v1 z => by have := (Q0 v v0 v1).1; omega
  have up : ∀ x, P ≤ x → ∀ v : Int, 0 ≤ v → v < m0 → x ≠ kd h p v + 5 := fun x hx v v0 v1 z => by have := (k1 v v0 v1).1; omega
  have p213 := Pw2.2.1.1
  have sP : ∀ x, P ≤ x → sm h h' x := fun x hx => svH_sm Q0 a (by omega) (up x hx)
  have w0 : ∀ v g : Int, 0 ≤ v → v < m → 0 ≤ g → g < 64 → wg t' 0 v g = wg t 0 v g := fun v g v0 v1 g0 g1 => b.2 400 _ (by omega)
  have hk : ∀ u : Int, kd h' P u = kd h P u := fun u => by
    unfold kd
    split
    · rfl
    · exact (sP (P + 1) (by omega)).2.1 _
  have ek : ∀ j : Int, 0 ≤ j → j < m → ∀ o, o ≤ 12 → sm h h' (kd h P j + o) := fun j j0 j1 o _ => sP _ (by have := k2 j j0 j1; omega)
  have ax : agx 0 0 m t t' := fun k f k0 k1 f0 f1 _ => w0 k f k0 k1 f0 f1
  have iL : ∀ x j, x < 448 → hI h' x j = hI h x j := fun x j hx => a.2.2 x j (low x hx)
  have rL : ∀ x j, x ≠ 48 → hR h' x j = hR h x j := fun x j hx => a.2.1 x j (by omega)
  refine ⟨⟨fun c c40 => ⟨by rw [rL 19 c (by omega)]; exact (S.1 c c40).1, SHc_g (S.1 c c40).2 a.1.2.1 a.1.2.2.1 (fun j _ => rL _ j (by omega)) (iL _ 0 (by omega))⟩, fun c c40 => ⟨by rw [rL 49 c (by omega)]; exact (S.2 c c40).1, SHc_g (S.2 c c40).2 a.1.2.1 a.1.2.2.1 (fun j _ => rL _ j (by omega)) (iL _ 0 (by omega))⟩⟩, PW_l2 Pw (sP P (Nat.le_refl _)) (sP (P + 1) (by omega)) ek (by rw [a.1.2.2.2.1]; exact Nat.le_refl _) w0 (b.2 400 _ (by omega)), TB_l2 W T hk (fun j j0 j1 o _ ho => ⟨(ek j j0 j1 o ho).1, (ek j j0 j1 o ho).2.1⟩) w0, ⟨by rw [iL 8 8 (by omega)]; exact C.1, by rw [b.2 395 33 (by omega)]; exact C.2.1, C.2.2.1, fun c c40 => ?_⟩, hp, fun x v hx => ?_⟩
  · obtain ⟨r1, r2, r3, r4⟩ := C.2.2.2 c c40
    rw [iL _ _ (by omega), b.2 403 c (by omega)]
    refine ⟨r1, r2, r3, fun z => ?_⟩
    obtain ⟨⟨z0, z1, z2⟩, kv⟩ := r4 z
    have e4 : hI t' 404 c = hI t 404 c := b.2 404 c (by omega)
    refine ⟨⟨by rw [e4]; exact z0, by rw [e4]; exact z1, by rw [rL _ _ (by omega), e4, hk]; exact z2⟩, fun n hn => ?_⟩
    rw [e4, fAt_x ax W (.inr ⟨z0, z1⟩), iL _ _ (by omega), iL _ _ (by omega), iL _ _ (by omega), b.2 405 _ (by omega), b.2 406 _ (by omega), b.2 407 _ (by omega)]
    exact kv n hn
  · obtain ⟨⟨d1, d2, d3⟩, d4⟩ := D x v hx
    exact ⟨⟨d1, by rw [a.1.2.2.2.1]; exact d2, by rw [a.1.2.1]; exact d3⟩, fun j j0 j1 => by rw [hk]; exact d4 j j0 j1⟩
theorem SV_all (I : INq K P m q r κ G R0 R1 h t) (h448 : 448 ≤ hN h) (Q : BKq h t K P m p m0 r0 G) (dj : ∀ k, k < κ → ∀ j : Int, 0 ≤ j → j < m0 → kd h p j + 13 ≤ R0 k ∨ R1 k ≤ kd h p j) (a : svH p m0 h h') (b : svT t t') (e7 : hR h' 48 7 = 0) (e29 : hI t' 395 29 = -1) : INq K P m q r κ G R0 R1 h' t' := by
  obtain ⟨⟨R, C, hk, ⟨f1, f2⟩, rn, n, e54⟩, ⟨Ss, La, LR⟩, PTh, Pk, ⟨G1, G2, G3, G4, G5⟩, ⟨x1, x2, x3⟩, rf, e87, -⟩ := I
  have R' := SV_RT R Q a b
  obtain ⟨Pw2, T2, C2, hp2, FF, KO0, ⟨pP, k1, k2⟩, kk⟩ := id Q
  have W := R.2.1.1
  have hm := W.2.1
  have Q0 : ∀ v : Int, 0 ≤ v → v < m0 → KD h (kd h p v) := fun v v0 v1 => (Pw2.2.2.1 v v0 v1).1
  have low : ∀ x, x < 448 → ∀ v : Int, 0 ≤ v → v < m0 → x ≠ kd h p v + 5 := fun x hx v v0 v1 z => by have := (Q0 v v0 v1).1; omega
  have up : ∀ x, P ≤ x → ∀ v : Int, 0 ≤ v → v < m0 → x ≠ kd h p v + 5 := fun x hx v v0 v1 z => by have := (k1 v v0 v1).1; omega
  have p213 := Pw2.2.1.1
  have sP : ∀ x, P ≤ x → sm h h' x := fun x hx => svH_sm Q0 a (by omega) (up x hx)
  have w0 : ∀ v g : Int, 0 ≤ v → v < m → 0 ≤ g → g < 64 → wg t' 0 v g = wg t 0 v g := fun v g v0 v1 g0 g1 => b.2 400 _ (by omega)
  have hkd : ∀ u : Int, kd h' P u = kd h P u := fun u => by
    unfold kd
    split
    · rfl
    · exact (sP (P + 1) (by omega)).2.1 _
  have iL : ∀ x j, x < 448 → hI h' x j = hI h x j := fun x j hx => a.2.2 x j (low x hx)
  have rL : ∀ x j, x ≠ 48 → hR h' x j = hR h x j := fun x j hx => a.2.1 x j (by omega)
  have tT : ∀ x, hT h' x = hT h x := fun x => by rw [a.1.2.1]
  have n26 : ∀ x, hT h x = 26 → ∀ v : Int, 0 ≤ v → v < m0 → x ≠ kd h p v + 5 := fun x hx v v0 v1 z => by
    have := (KD10 (Q0 v v0 v1)).2.1
    rw [← z] at this
    omega
  obtain ⟨t1', t2', t3', t4', t5', t6'⟩ := PTh
  refine ⟨⟨R', CT_s C (fun x x8 xN x1 ⟨v, hv⟩ => svH_sm Q0 a (by omega) (fun u u0 u1 z => by have := kk x v hv u u0 u1; omega)) (by rw [a.1.2.2.2.1]; exact Nat.le_refl _) (fun j => b.2 399 j (by omega)), hk, ⟨fun e z1 z2 => ⟨by rw [rL 23 e (by omega)]; exact (f1 e z1 z2).1, by rw [tT]; exact (f1 e z1 z2).2⟩, by rw [tT]; exact f2⟩, rnn_c rn (fun x j hx => iL x j (by omega)) (fun x j hx => b.2 x j (by omega)), by rw [iL 22 11 (by omega), b.2 395 60 (by omega)]; exact n, by rw [b.2 395 54 (by omega)]; exact e54⟩, SLL_v Ss La LR ⟨a.1.2.1, a.1.2.2.1, a.1.2.2.2.1⟩ (fun x j hx => rL x j (by omega)) (fun j => rL 21 j (by omega)) Q0 kk (fun x j _ ok => a.2.2 x j ok) (fun y j hy => b.2 y j (by omega)), ⟨by rw [iL 48 4 (by omega)]; exact t1', by rw [b.2 395 25 (by omega)]; exact t2', t3', fun j hj => ?_, fun j k hj hk' => ?_, ?_⟩, fun kq hkq => ?_, ⟨CF_x (fun k f k0 k1 f0 f1 _ => w0 k f k0 k1 f0 f1) W G1, G2, by rw [iL 48 9 (by omega)]; exact G3, by rw [b.2 395 27 (by omega)]; exact G4, fun j j0 j1 => by rw [w0 j 2 j0 j1 (by omega) (by omega)]; exact G5 j j0 j1⟩, ⟨by rw [a.1.2.1, a.1.2.2.1]; exact x1, fun c n hc hn => by rw [iL _ _ (by omega)]; exact x2 c n hc hn, fun j hj => by rw [b.2 407 j (by omega)]; exact x3 j hj⟩, ?_, by rw [rL 8 7 (by omega)]; exact e87, .inl ⟨e29, e7⟩⟩
  · obtain ⟨⟨y1, y2, y3⟩, y4⟩ := t4' j hj
    rw [rL 50 j (by omega), tT, a.1.2.2.2.1, b.2 402 j (by omega), a.2.2 _ 1 (n26 _ y3)]
    exact ⟨⟨y1, y2, y3⟩, y4⟩
  · rw [rL 50 j (by omega), rL 50 k (by omega)]
    exact t5' j k hj hk'
  · rw [b.2 395 28 (by omega), b.2 395 26 (by omega), iL 48 6 (by omega), a.2.1 48 5 (by omega), rL 50 _ (by omega)]
    exact t6'
  · obtain ⟨q1, q2, q3⟩ := Pk kq hkq
    have nq := q1.1
    have e50 : hR h' 50 kq = hR h 50 kq := rL 50 kq (by omega)
    refine ⟨PK_b q1 (fun y y0 y1 => ⟨tT y, fun _ => svH_sm Q0 a (by omega) (fun v v0 v1 z => ?_)⟩) (svH_sm Q0 a (by omega) (low 6 (by omega))) ?_ (b.2 401 kq (by omega)) (fun j => b.2 399 j (by omega)) (by rw [a.1.2.2.2.1]; exact nq.2.2) (fun _ _ z => z), by rw [e50, a.1.2.2.2.1]; exact q2, fun j j0 j1 => by rw [hkd]; exact q3 j j0 j1⟩
    · have := dj kq hkq v v0 v1
      omega
    · rw [e50]
      exact rL _ 0 (by omega)
  · unfold rfsR
    rw [iL 48 10 (by omega), iL 48 11 (by omega), iL 48 12 (by omega), b.2 395 82 (by omega), b.2 395 83 (by omega), b.2 395 84 (by omega)]
    exact rf
/-- the end: the long acts of those that have died -/
theorem bk_all (I : INq K p m0 q r0 κ G R0 R1 h t) (h448 : 448 ≤ hN h) (hk : k < κ) (hpt : hR h 50 k = pt) (p4 : 448 ≤ pt ∧ pt < hN h ∧ hT h pt = 26) (a : okH pt h h9) (b : okT k t t9) (U9 : RUNp K P m q r κ h9 t9) (dy : ∀ l, l < 10 → ((hI t 423 l = 1 ∧ ∃ c : Nat, c < 40 ∧ hI t 426 l = (c : Int) ∧ hI h9 (215 + 4 * c) 1 = 0) → hI t9 423 l = 0 ∧ hI t9 431 l = 3) ∧ (¬ (hI t 423 l = 1 ∧ ∃ c : Nat, c < 40 ∧ hI t 426 l = (c : Int) ∧ hI h9 (215 + 4 * c) 1 = 0) → hI t9 423 l = hI t 423 l ∧ hI t9 431 l = hI t 431 l)) (v1 : hI h9 pt 1 = 5) (v2 : hI t9 402 k = 5) (v3 : hI t9 395 28 = -1) (v5 : hR h9 48 5 = 0) (kb : ∀ kk, kk < κ → ∀ j : Int, 0 ≤ j → j < m → kd h9 P j + 13 ≤ R0 kk ∨ R1 kk ≤ kd h9 P j) (Gn : GNq h9 t9 m G) (X : XTq h9 t9) (e87 : hR h9 8 7 = P) (Lt : LTq h9 t9 K P m κ G R0 R1) : ∃ h3, c165 h9 = some h3 ∧ ENq h9 h3 10 ∧ INq K P m q r κ G R0 R1 h3 t9 := by
  obtain ⟨U, ⟨Ss, La, LR⟩, PTh, Pk, -, -, rf, -, -⟩ := I
  have g : ∀ x, x < 448 → (hT h9 x = hT h x ∧ hL h9 x = hL h x) ∧ _ := fun x hx => a.2 x (by omega)
  have st : stq h h9 := ⟨a.1.1, fun x y1 y2 y3 => ok_s a x y1 y2 (fun z => y3 (by rw [z]; exact p4.2.2)), fun j => (g 21 (by omega)).2.1 j (by omega)⟩
  obtain ⟨h3, e1, E, S3, L3, R3⟩ := ENDS (t7 := t9) Ss La LR st h448 (fun y j h1 h2 h3 => b.2 y j (by omega)) (fun j => b.2 399 j (by omega)) (fun c hc => (U9.1.1.1 c hc).2.1) (fun c hc => (U9.1.2.2.2.1.2.2.2 c hc).1) dy (fun x v hx => (U.1.2.2.2.2.2 x v hx).1)
  refine ⟨h3, e1, E, Q_tl U9 E ⟨S3, L3, R3⟩ ?_ (fun kk hkk => ?_) Gn X ?_ e87 Lt (by have := a.1.1; omega)⟩
  · exact PT_st (s := 5) PTh hk a.1.1 (fun x hx => (a.2 x hx).1.1) (fun j => (g 50 (by omega)).2.1 j (by omega)) ((a.2 48 (by omega)).2.2 4 (by omega)) (fun x x1 x2 x3 => (a.2 x x2).2.2 1 (by omega)) (by rw [hpt]; exact v1) (b.2 395 25 (by omega)) (fun j _ jk => b.2 402 j (by omega)) v2 v3 v5
  · obtain ⟨q1, q2, q3⟩ := Pk kk hkk
    have n := q1.1
    have e50 : hR h9 50 kk = hR h 50 kk := (g 50 (by omega)).2.1 kk (by omega)
    have s6 : sm h h9 6 := ⟨fun j => (a.2 6 (by omega)).2.2 j (by omega), fun j => (g 6 (by omega)).2.1 j (by omega), (g 6 (by omega)).1.1, (g 6 (by omega)).1.2⟩
    refine ⟨PK_b q1 (fun y y0 y1 => ⟨(a.2 y (by omega)).1.1, fun z => ok_s a y (by omega) (by omega) (fun w => z (by rw [w]; exact p4.2.2))⟩) s6 ?_ (b.2 401 kk (by omega)) (fun j => b.2 399 j (by omega)) (by have := a.1.1; omega) (fun _ _ z => z), by rw [e50]; exact ⟨q2.1, by have := a.1.1; omega⟩, kb kk hkk⟩
    rw [e50]
    exact (a.2 _ q2.2).2.1 0 (by omega)
  · unfold rfsR
    rw [(a.2 48 (by omega)).2.2 10 (by omega), (a.2 48 (by omega)).2.2 11 (by omega), (a.2 48 (by omega)).2.2 12 (by omega), b.2 395 82 (by omega), b.2 395 83 (by omega), b.2 395 84 (by omega)]
    exact rf
end BK7
