/-! the calls, one by one: create, put, forbid, apply -/
section OPT
variable {h h' hc hr hc' hr' t t' : hS} {K K' : Nat → Int → Prop} {p m q q' κ n : Nat} {r : Int → Nat} {G : Int} {R0 R1 : Nat → Nat} {S : Nat → Nat → Prop}
theorem PT_u (Q : PT h t κ) (s : ∀ x, x < hN h → (x = 48 ∨ x = 50 ∨ (448 ≤ x ∧ hT h x = 26)) → sm h h' x) (h448 : 448 ≤ hN h) (en : hN h ≤ hN h') (et : ∀ x j, (x = 402 ∨ (x = 395 ∧ (j = 25 ∨ j = 26 ∨ j = 28))) → hI t' x j = hI t x j) : PT h' t' κ := by
  obtain ⟨q1, q2, q3, q4, q5, q6⟩ := Q
  have s48 := s 48 (by omega) (by omega)
  have s50 := s 50 (by omega) (by omega)
  refine ⟨by rw [s48.1]; exact q1, by rw [et 395 25 (by omega)]; exact q2, q3, fun j hj => ?_, fun j k hj hk => ?_, ?_⟩
  · obtain ⟨⟨y1, y2, y3⟩, y4⟩ := q4 j hj
    have sx := s _ y2 (.inr (.inr ⟨y1, y3⟩))
    rw [s50.2.1, sx.2.2.1, sx.1, et 402 j (by omega)]
    exact ⟨⟨y1, by omega, y3⟩, y4⟩
  · rw [s50.2.1, s50.2.1]
    exact q5 j k hj hk
  · rw [et 395 28 (by omega), et 395 26 (by omega), s48.1, s48.2.1, s50.2.1]
    exact q6
theorem XT_u (X : XTq h t) (s52 : hT h' 52 = hT h 52 ∧ hL h' 52 = hL h 52) (s : ∀ c n : Nat, c < 40 → n < 40 → hI h' (217 + 4 * c) n = hI h (217 + 4 * c) n) (et : ∀ j, hI t' 407 j = hI t 407 j) : XTq h' t' := by
  obtain ⟨x1, x2, x3⟩ := X
  exact ⟨by rw [s52.1, s52.2]; exact x1, fun c n hc hn => by rw [s c n hc hn]; exact x2 c n hc hn, fun j hj => by rw [et]; exact x3 j hj⟩
theorem rf_u (X : rfsR h t) (s48 : ∀ j, 10 ≤ j → j ≤ 12 → hI h' 48 j = hI h 48 j) (et : ∀ j, 82 ≤ j → j ≤ 84 → hI t' 395 j = hI t 395 j) : rfsR h' t' := by
  unfold rfsR at *
  rw [s48 10 (by omega) (by omega), s48 11 (by omega) (by omega), s48 12 (by omega) (by omega), et 82 (by omega) (by omega), et 83 (by omega) (by omega), et 84 (by omega) (by omega)]
  exact X
/-- tape, names and faults stay -/
theorem RS_k (Q : RQ hc hr) (S : SCLq q hc hr) (s : ∀ x, x < 18 → x ≠ 8 → sm hc hc' x) (b : ∀ x j, (x = 396 ∨ (x = 395 ∧ j ≤ 24)) → hI hr' x j = hI hr x j) (bJ : ∀ x j, hJ hr' x j = hJ hr x j) (en : hN hc ≤ hN hc') (tl : tldR hc' hr') (e9 : hI hc' 8 9 = hI hr' 395 59 ∧ 0 ≤ hI hc' 8 9 ∧ hI hc' 8 9 ≤ 1000) (e20 : ∀ c : Nat, c < q' → hI hc' 20 c = hI hr' 418 c) (e10 : hI hc' 8 10 = hI hc 8 10) (e30 : hI hr' 395 30 = hI hr 395 30) (e60 : hI hr' 395 60 = 0) : RQ hc' hr' ∧ SCLq q' hc' hr' := by
  have i : ∀ x j, x < 18 → x ≠ 8 → hI hc' x j = hI hc x j := fun x j x1 x2 => (s x x1 x2).1 j
  refine ⟨RQ_g Q (tpR_g Q.1 (i 9 1 (by omega) (by omega)) (fun j => i 10 j (by omega) (by omega)) (b 395 1 (by omega)) (fun j => b 396 j (by omega))) (lrn_g Q.2.2.1 (b 395 9 (by omega)) (fun j => bJ 398 j)) (nmR_r (nmR_c Q.2.2.2.1 (i 15 2 (by omega) (by omega)) (fun j => i 16 j (by omega) (by omega))) (b 395 7 (by omega)) (fun j => bJ 397 j)) (by rw [i 15 7 (by omega) (by omega)]; exact Q.2.2.2.2.2.2.1) (fun x hx => s x (by omega) (by omega)) ⟨(s 16 (by omega) (by omega)).2.2.1, (s 16 (by omega) (by omega)).2.2.2, (s 17 (by omega) (by omega)).2.2.1, (s 17 (by omega) (by omega)).2.2.2⟩ en, ?_⟩
  obtain ⟨s1, s2, s3, s4, s5, s6, s7⟩ := S
  exact ⟨by rw [(s 6 (by omega) (by omega)).2.2.1, (s 6 (by omega) (by omega)).2.2.2]; exact s1, ⟨by rw [i 15 4 (by omega) (by omega), b 395 13 (by omega)]; exact s2.1, by rw [i 15 5 (by omega) (by omega), b 395 14 (by omega)]; exact s2.2⟩, tl, e9, e20, by rw [e10, e30]; exact s6, e60⟩
theorem kR_ch {D : Nat → Prop} (c : chg D h h') (e : ∀ x, D x → x < 395) : kR h h' := fun x j x1 x2 => ⟨(c.2.2.2.2.2 x (fun z => by have := e x z; omega) j).1, by rw [c.1]⟩
theorem ch_s {D : Nat → Prop} (c : chg D h h') {x : Nat} (hx : ¬ D x) : sm h h' x := ⟨fun j => (c.2.2.2.2.2 x hx j).1, fun j => (c.2.2.2.2.2 x hx j).2, by rw [c.2.1], by rw [c.2.2.1]⟩
/-- create -/
theorem op8 (a : Int) : OPq (c100 a) (c236 a) := fun n hc hr _ I => by
  obtain ⟨K, p, m, q, r, κ, G, R0, R1, I', Q, Sc, g, ro⟩ := id I
  obtain ⟨U, ⟨Ss, La, LR⟩, PTh, Pk, Gn, X, rf, e87, Lt⟩ := id I'
  obtain ⟨Sh, Pw, T, C, hp, D⟩ := id U.1
  have h448 := Q.2.2.2.2.2.2.2
  obtain ⟨v, hc', hr', q', e1, e2, C', cs, ch, e8, er8, e20, S', f, fb⟩ := api8b Sh Pw (CL_of Gn.1) C e87 hp a
  rcases cs with ⟨-, z1, z2⟩ | ⟨z0, q40, z1, z2, z3⟩
  · subst z1
    subst z2
    exact ⟨v, hc', hr', e1, e2, REL_n I, kR_rf, kCc_rf⟩
  · subst z0
    have s : ∀ x, ¬ (x = 8 ∨ x = 20 ∨ (215 + 4 * q ≤ x ∧ x < 215 + 4 * q + 4)) → sm hc hc' x := fun x hx => ch_s ch hx
    have N' : hN hc' = hN hc := ch.2.2.2.1
    have M' : hM hc' = hM hc := ch.2.2.2.2.1
    have dead := (C.2.2.2 q q40).2.2.1 (Nat.le_refl _)
    have cne : ∀ c, c < 40 → hI hc (215 + 4 * c) 1 = 1 → c ≠ q := fun c _ z w => by rw [w] at z; omega
    have R' : RT hc' hr' K p m (q + 1) r := RT_n U.1 S' C' (Nat.le_of_eq N'.symm) (fun x _ hx => s x (by omega)) (fun j => f.2 400 j (by omega))
    have U' := RUN_n (t' := hr') U R' h448 (Nat.le_of_eq N'.symm) (fun x _ hx => s x (by omega)) (fun x j hx => f.2 x j (by omega))
    have live := ((C'.2.2.2 q q40).2.2.2 z3).2
    have X' : XTq hc' hr' := by
      obtain ⟨x1, x2, x3⟩ := X
      refine ⟨by rw [(s 52 (by omega)).2.2.1, (s 52 (by omega)).2.2.2]; exact x1, fun c n hcc hn => ?_, fun j hj => ?_⟩
      · by_cases w : c = q
        · subst w
          have := (live n hn).2.1
          rw [show 215 + 4 * c + 2 = 217 + 4 * c by omega] at this
          exact this
        · rw [(s (217 + 4 * c) (by omega)).1]
          exact x2 c n hcc hn
      · by_cases w : 40 * q ≤ j ∧ j < 40 * q + 40
        · have y := live (j - 40 * q) (by omega)
          rw [show 40 * q + (j - 40 * q) = j by omega] at y
          rw [y.2.2.1]
          exact y.2.1
        · rw [fb 407 j (.inr rfl) hj w]
          exact x3 j hj
    have kh : kpH p m hc hc' := kpH_low (fun x _ hx => s x (by omega)) h448 (Nat.le_of_eq N'.symm)
    have kt : kpT hr hr' := kpT_low (fun x j hx => f.2 x j (by omega))
    have In : INq K p m (q + 1) r κ G R0 R1 hc' hr' := INq_k I' kh kt U' ⟨SL_g Ss (s 21 (by omega)).2.1 (fun x x1 x2 => ⟨(s x (by omega)).2.2.1, (s x (by omega)).2.1 0⟩), fun l hl => LA1_u (La l hl) (fun x _ x1 _ => s x (by omega)) (s _ (by omega)) (s _ (by omega)) (Nat.le_of_eq N'.symm) (fun y j hy => f.2 y j (by omega)), LRs_u LR (fun x v hx => (D x v hx).1) (fun x _ x1 _ => s x (by omega)) (fun l hl => s _ (by omega)) (fun c c40 z => by rw [(s (215 + 4 * c) (by have := cne c c40 z; omega)).1]; exact z) (Nat.le_of_eq N'.symm) (fun y j hy => f.2 y j (by omega))⟩ (PT_u PTh (fun x _ hx => s x (by omega)) h448 (Nat.le_of_eq N'.symm) (fun x j hx => f.2 x j (by omega))) X' (rf_u rf (fun j _ _ => (s 48 (by omega)).1 j) (fun j _ _ => f.2 395 j (by omega))) (by rw [er8]; exact e87)
    obtain ⟨s1, s2, s3, s4, s5, s6, s7⟩ := id Sc
    obtain ⟨Q', Sc'⟩ := RS_k (q' := q + 1) (hc' := hc') (hr' := hr') Q Sc (fun x x1 x2 => s x (by omega)) (fun x j hx => f.2 x j (by omega)) (fun x j => by rw [h2_J f.1]) (Nat.le_of_eq N'.symm) ⟨by rw [e8 11 (by omega), f.2 395 56 (by omega)]; exact s3.1, by rw [e8 12 (by omega), f.2 395 57 (by omega)]; exact s3.2.1, by rw [e8 13 (by omega), f.2 395 58 (by omega)]; exact s3.2.2⟩ (by rw [e8 9 (by omega), f.2 395 59 (by omega)]; exact s4) (fun c hcc => by
      by_cases w : c = q
      · rw [w, z1, z2]
      · rw [e20 c w, f.2 418 c (by omega)]
        exact s5 c (by omega)) (e8 10 (by omega)) (f.2 395 30 (by omega)) (by rw [f.2 395 60 (by omega)]; exact s7)
    exact ⟨v, hc', hr', e1, e2, ⟨K, p, m, q + 1, r, κ, G, R0, R1, In, Q', Sc', by omega, ROq_n ro N' M'⟩, kR_ch ch (fun x z => by omega), kCc_fp f (fun x j z => by omega)⟩
/-- put -/
theorem op13 (a b c : Int) : OPq (c109 a b c) (c246 a b c) := fun n hc hr _ I => by
  obtain ⟨K, p, m, q, r, κ, G, R0, R1, I', Q, Sc, g, ro⟩ := I
  obtain ⟨U, ⟨Ss, La, LR⟩, PTh, Pk, Gn, X, rf, e87, Lt⟩ := id I'
  obtain ⟨Sh, Pw, T, C, hp, D⟩ := id U.1
  have h448 := Q.2.2.2.2.2.2.2
  obtain ⟨v, hc', hr', e1, e2, C', f1, f2⟩ := api13 Sh Pw T C a b c
  have nS : ∀ x, ¬ (216 ≤ x ∧ x < 375 ∧ x % 4 = 0) → ∀ _ : Nat, ¬ ∃ c, c < 40 ∧ x = 215 + 4 * c + 1 := fun x hx _ ⟨c, c1, c2⟩ => hx (by omega)
  have s : ∀ x, ¬ (216 ≤ x ∧ x < 375 ∧ x % 4 = 0) → sm hc hc' x := fun x hx => fp2_sm f1 (nS x hx)
  have N' : hN hc' = hN hc := h2_N f1.1
  have S' : SH hc' := ⟨fun c c40 => ⟨by rw [h2_R f1.1]; exact (Sh.1 c c40).1, SHc_g (Sh.1 c c40).2 (funext (h2_T f1.1)) (funext (h2_L f1.1)) (fun j _ => h2_R f1.1 _ j) ((s _ (by omega)).1 0)⟩, fun c c40 => ⟨by rw [h2_R f1.1]; exact (Sh.2 c c40).1, SHc_g (Sh.2 c c40).2 (funext (h2_T f1.1)) (funext (h2_L f1.1)) (fun j _ => h2_R f1.1 _ j) ((s _ (by omega)).1 0)⟩⟩
  have R' : RT hc' hr' K p m q r := RT_n U.1 S' C' (Nat.le_of_eq N'.symm) (fun x _ hx => s x (by omega)) (fun j => f2.2 400 j (by omega))
  have U' := RUN_n (t' := hr') U R' h448 (Nat.le_of_eq N'.symm) (fun x _ hx => s x (by omega)) (fun x j hx => f2.2 x j (by omega))
  have kh : kpH p m hc hc' := kpH_low (fun x _ hx => s x (by omega)) h448 (Nat.le_of_eq N'.symm)
  have kt : kpT hr hr' := kpT_low (fun x j hx => f2.2 x j (by omega))
  have In : INq K p m q r κ G R0 R1 hc' hr' := INq_k I' kh kt U' ⟨SL_g Ss (s 21 (by omega)).2.1 (fun x x1 x2 => ⟨(s x (by omega)).2.2.1, (s x (by omega)).2.1 0⟩), fun l hl => LA1_u (La l hl) (fun x _ x1 _ => s x (by omega)) (s _ (by omega)) (s _ (by omega)) (Nat.le_of_eq N'.symm) (fun y j hy => f2.2 y j (by omega)), LRs_u LR (fun x v hx => (D x v hx).1) (fun x _ x1 _ => s x (by omega)) (fun l hl => s _ (by omega)) (fun c c40 z => by rw [(s (215 + 4 * c) (by omega)).1]; exact z) (Nat.le_of_eq N'.symm) (fun y j hy => f2.2 y j (by omega))⟩ (PT_u PTh (fun x _ hx => s x (by omega)) h448 (Nat.le_of_eq N'.symm) (fun x j hx => f2.2 x j (by omega))) (XT_u X ⟨(s 52 (by omega)).2.2.1, (s 52 (by omega)).2.2.2⟩ (fun c n _ _ => (s _ (by omega)).1 n) (fun j => f2.2 407 j (by omega))) (rf_u rf (fun j _ _ => (s 48 (by omega)).1 j) (fun j _ _ => f2.2 395 j (by omega))) (by rw [h2_R f1.1]; exact e87)
  obtain ⟨s1, s2, s3, s4, s5, s6, s7⟩ := id Sc
  have i8 : ∀ j, hI hc' 8 j = hI hc 8 j := (s 8 (by omega)).1
  obtain ⟨Q', Sc'⟩ := RS_k (q' := q) (hc' := hc') (hr' := hr') Q Sc (fun x x1 x2 => s x (by omega)) (fun x j hx => f2.2 x j (by omega)) (fun x j => by rw [h2_J f2.1]) (Nat.le_of_eq N'.symm) ⟨by rw [i8, f2.2 395 56 (by omega)]; exact s3.1, by rw [i8, f2.2 395 57 (by omega)]; exact s3.2.1, by rw [i8, f2.2 395 58 (by omega)]; exact s3.2.2⟩ (by rw [i8, f2.2 395 59 (by omega)]; exact s4) (fun c hcc => by rw [(s 20 (by omega)).1, f2.2 418 c (by omega)]; exact s5 c hcc) (i8 10) (f2.2 395 30 (by omega)) (by rw [f2.2 395 60 (by omega)]; exact s7)
  exact ⟨v, hc', hr', e1, e2, ⟨K, p, m, q, r, κ, G, R0, R1, In, Q', Sc', by omega, ROq_n ro N' (h2_M f1.1)⟩, kR_fp f1 (fun x j ⟨c, c1, c2⟩ => by omega), kCc_fp f2 (fun x j z => by omega)⟩
/-- forbid -/
theorem op23 (a x : Int) (hx : x = 0 ∨ x = 1) : OPq (c172 a x) (c295 a x) := fun n hc hr _ I => by
  obtain ⟨K, p, m, q, r, κ, G, R0, R1, I', Q, Sc, g, ro⟩ := id I
  obtain ⟨U, ⟨Ss, La, LR⟩, PTh, Pk, Gn, X, rf, e87, Lt⟩ := id I'
  have D := U.1.2.2.2.2.2
  have h448 := Q.2.2.2.2.2.2.2
  obtain ⟨v, hc', hr', e1, e2, z⟩ := api23 Ss La a x hx
  rcases z with ⟨z1, z2⟩ | ⟨⟨a0, a1⟩, z1, z2⟩
  · subst z1
    subst z2
    exact ⟨v, hc', hr', e1, e2, REL_n I, kR_rf, kCc_rf⟩
  · obtain ⟨b, rfl⟩ : ∃ b : Nat, a = (b : Int) := ⟨a.toNat, by omega⟩
    rw [Int.toNat_natCast] at z1 z2
    have f1 : fp (fun x j => x = 375 + 2 * b ∧ j = 3) hc hc' := by rw [z1]; exact fp_sI ⟨rfl, rfl⟩
    have f2 : fp (fun x j => x = 425 ∧ j = b) hr hr' := by rw [z2]; exact fp_sI ⟨rfl, rfl⟩
    have s : ∀ x, x ≠ 375 + 2 * b → sm hc hc' x := fun x hx => fp2_sm f1 (fun j w => hx w.1)
    have N' : hN hc' = hN hc := h2_N f1.1
    have U' : RUNp K p m q r κ hc' hr' := RUN_c U ⟨h2_J f1.1, funext (h2_T f1.1), funext (h2_L f1.1), N', h2_M f1.1, fun y hy j => ⟨(s y (by omega)).1 j, (s y (by omega)).2.1 j⟩⟩ (fun y j hy => f2.2 y j (by omega)) (fun j _ => h2_R f1.1 23 j) (rnn_c U.2.2.2.2.1 (fun y j hy => f1.2 y j (by omega)) (fun y j hy => f2.2 y j (by omega))) (f1.2 22 11 (by omega))
    have kh : kpH p m hc hc' := kpH_low (fun y _ hy => s y (by omega)) h448 (Nat.le_of_eq N'.symm)
    have kt : kpT hr hr' := kpT_low (fun y j hy => f2.2 y j (by omega))
    have La' : LA hc' hr' := fun l hl => by
      have Q1 := La l hl
      obtain ⟨x1, x2, x3, x4, x5, x6⟩ := id Q1
      have sF : sm hc hc' (376 + 2 * l) := s _ (by omega)
      have o5 : ∀ j, j ≠ 3 → hI hc' (375 + 2 * l) j = hI hc (375 + 2 * l) j := fun j hj => f1.2 _ j (by omega)
      have ee : ∀ y, y ≠ 425 → ∀ j, hI hr' y j = hI hr y j := fun y hy j => f2.2 y j (by omega)
      unfold LA1
      rw [o5 1 (by omega), o5 2 (by omega), o5 4 (by omega), o5 5 (by omega), o5 6 (by omega), sF.2.1, ee 423 (by omega), ee 424 (by omega), ee 430 (by omega), ee 431 (by omega), ee 432 (by omega), ee 437 (by omega)]
      refine ⟨x1, x2, x3, x4, x5, fun w => ?_⟩
      obtain ⟨⟨y1, y1'⟩, y2, y3, y4, y5, y6⟩ := x6 w
      obtain ⟨k1, k2⟩ := KD_g (h := hc) (h' := hc') (fun y _ y1 _ => s y (by omega)) (Nat.le_of_eq N'.symm) y5
      have s0 := k2 0 (by omega)
      rw [Nat.add_zero] at s0
      refine ⟨?_, y2, y3, y4, k1, by rw [s0.1]; exact y6⟩
      by_cases lb : l = b
      · subst lb
        rw [z1, z2, hI_sI, if_pos ⟨rfl, rfl⟩, hI_sI, if_pos ⟨rfl, rfl⟩]
        exact ⟨rfl, hx⟩
      · rw [f1.2 _ 3 (by omega), f2.2 425 l (by omega)]
        exact ⟨y1, y1'⟩
    have In : INq K p m q r κ G R0 R1 hc' hr' := INq_k I' kh kt U' ⟨SL_g Ss (fun j => h2_R f1.1 21 j) (fun y _ _ => ⟨h2_T f1.1 y, h2_R f1.1 y 0⟩), La', LRs_u LR (fun y v hy => (D y v hy).1) (fun y _ y1 _ => s y (by omega)) (fun l hl => s _ (by omega)) (fun c c40 w => by rw [(s (215 + 4 * c) (by omega)).1]; exact w) (Nat.le_of_eq N'.symm) (fun y j hy => f2.2 y j (by omega))⟩ (PT_u PTh (fun y _ hy => s y (by omega)) h448 (Nat.le_of_eq N'.symm) (fun y j hy => f2.2 y j (by omega))) (XT_u X ⟨(s 52 (by omega)).2.2.1, (s 52 (by omega)).2.2.2⟩ (fun c n _ _ => (s _ (by omega)).1 n) (fun j => f2.2 407 j (by omega))) (rf_u rf (fun j _ _ => (s 48 (by omega)).1 j) (fun j _ _ => f2.2 395 j (by omega))) (by rw [h2_R f1.1]; exact e87)
    obtain ⟨s1, s2, s3, s4, s5, s6, s7⟩ := id Sc
    have i8 : ∀ j, hI hc' 8 j = hI hc 8 j := (s 8 (by omega)).1
    obtain ⟨Q', Sc'⟩ := RS_k (q' := q) (hc' := hc') (hr' := hr') Q Sc (fun y y1 y2 => s y (by omega)) (fun y j hy => f2.2 y j (by omega)) (fun y j => by rw [h2_J f2.1]) (Nat.le_of_eq N'.symm) ⟨by rw [i8, f2.2 395 56 (by omega)]; exact s3.1, by rw [i8, f2.2 395 57 (by omega)]; exact s3.2.1, by rw [i8, f2.2 395 58 (by omega)]; exact s3.2.2⟩ (by rw [i8, f2.2 395 59 (by omega)]; exact s4) (fun c hcc => by rw [(s 20 (by omega)).1, f2.2 418 c (by omega)]; exact s5 c hcc) (i8 10) (f2.2 395 30 (by omega)) (by rw [f2.2 395 60 (by omega)]; exact s7)
    exact ⟨v, hc', hr', e1, e2, ⟨K, p, m, q, r, κ, G, R0, R1, In, Q', Sc', by omega, ROq_n ro N' (h2_M f1.1)⟩, kR_fp f1 (fun y j w => by omega), kCc_fp f2 (fun y j w => by omega)⟩
/-- apply -/
theorem op24 (a : Int) : OPq (c173 a) (c296 a) := fun n hc hr _ I => by
  obtain ⟨K, p, m, q, r, κ, G, R0, R1, I', Q, Sc, g, ro⟩ := id I
  obtain ⟨U, ⟨Ss, La, LR⟩, PTh, Pk, Gn, X, rf, e87, Lt⟩ := id I'
  have D := U.1.2.2.2.2.2
  have h448 := Q.2.2.2.2.2.2.2
  obtain ⟨v, hc', hr', e1, e2, PT', z⟩ := api24b PTh a
  rcases z with ⟨z1, z2⟩ | ⟨⟨a0, a1⟩, ch, e48, r48, rx, ix, f⟩
  · subst z1
    subst z2
    exact ⟨v, hc', hr', e1, e2, REL_n I, kR_rf, kCc_rf⟩
  · have p4 := (PTh.2.2.2.1 a.toNat (by omega)).1
    generalize hR hc 50 a.toNat = pt at *
    have N' : hN hc' = hN hc := ch.2.2.2.1
    have T' : ∀ x, hT hc' x = hT hc x := fun x => by rw [ch.2.1]
    have L' : ∀ x, hL hc' x = hL hc x := fun x => by rw [ch.2.2.1]
    have s : ∀ x, x ≠ 48 → x ≠ pt → sm hc hc' x := fun x h1 h2 => ch_s ch (fun w => by omega)
    have ne : ∀ x, hT hc x ≠ 26 → x ≠ pt := fun x hx w => hx (by rw [w]; exact p4.2.2)
    have qh : qcH hc hc' := ⟨⟨Nat.le_of_eq N'.symm, Nat.le_of_eq ch.2.2.2.2.1.symm⟩, JQ_eq ch.1 (Nat.le_of_eq N'.symm), fun x hx => ⟨⟨T' x, L' x⟩, fun j hj => ?_, fun j hj => ?_⟩⟩
    · have qt : qcT hr hr' := ⟨f.1, fun x j hx => f.2 x j (by omega)⟩
      have U' := RUN_q U qh qt h448 (by rw [f.2 395 54 (by omega)]; exact U.2.2.2.2.2.2)
      have kh : kpH p m hc hc' := ⟨Nat.le_of_eq N'.symm, fun x x1 x2 => ⟨T' x, fun j => rx x j (by omega), fun w _ => s x (by omega) (ne x w)⟩, ⟨s 213 (by omega) (by omega), s 214 (by omega) (by omega), s 6 (by omega) (by omega)⟩, fun j => rx 50 j (by omega), ⟨e48 9 (by omega), r48 7 (by omega), r48 8 (by omega)⟩⟩
      have kt : kpT hr hr' := kpT_low (fun x j hx => f.2 x j (by omega))
      have In : INq K p m q r κ G R0 R1 hc' hr' := INq_k I' kh kt U' ⟨SL_g Ss (fun j => rx 21 j (by omega)) (fun x x1 x2 => ⟨T' x, rx x 0 (by omega)⟩), fun l hl => LA1_u (La l hl) (fun x _ x1 x3 => s x (by omega) (ne x x3)) (s _ (by omega) (by omega)) (s _ (by omega) (by omega)) (Nat.le_of_eq N'.symm) (fun y j hy => f.2 y j (by omega)), LRs_u LR (fun x v hx => (D x v hx).1) (fun x _ x1 x3 => s x (by omega) (ne x x3)) (fun l hl => s _ (by omega) (by omega)) (fun c c40 w => by rw [(s (215 + 4 * c) (by omega) (by omega)).1]; exact w) (Nat.le_of_eq N'.symm) (fun y j hy => f.2 y j (by omega))⟩ PT' (XT_u X ⟨T' 52, L' 52⟩ (fun c n _ _ => (s _ (by omega) (by omega)).1 n) (fun j => f.2 407 j (by omega))) (rf_u rf (fun j _ _ => e48 j (by omega)) (fun j _ _ => f.2 395 j (by omega))) (by rw [rx 8 7 (by omega)]; exact e87)
      obtain ⟨s1, s2, s3, s4, s5, s6, s7⟩ := id Sc
      have i8 : ∀ j, hI hc' 8 j = hI hc 8 j := (s 8 (by omega) (by omega)).1
      obtain ⟨Q', Sc'⟩ := RS_k (q' := q) (hc' := hc') (hr' := hr') Q Sc (fun y y1 y2 => s y (by omega) (by omega)) (fun y j hy => f.2 y j (by omega)) (fun y j => by rw [h2_J f.1]) (Nat.le_of_eq N'.symm) ⟨by rw [i8, f.2 395 56 (by omega)]; exact s3.1, by rw [i8, f.2 395 57 (by omega)]; exact s3.2.1, by rw [i8, f.2 395 58 (by omega)]; exact s3.2.2⟩ (by rw [i8, f.2 395 59 (by omega)]; exact s4) (fun c hcc => by rw [(s 20 (by omega) (by omega)).1, f.2 418 c (by omega)]; exact s5 c hcc) (i8 10) (f.2 395 30 (by omega)) (by rw [f.2 395 60 (by omega)]; exact s7)
      exact ⟨v, hc', hr', e1, e2, ⟨K, p, m, q, r, κ, G, R0, R1, In, Q', Sc', by omega, ROq_n ro N' ch.2.2.2.2.1⟩, fun x j x1 x2 => ⟨(s x (by omega) (by omega)).1 j, by rw [ch.1]⟩, kCc_fp f (fun y j w => by omega)⟩
    · by_cases w : x = 48
      · rw [w]; exact r48 j (by omega)
      · exact rx x j w
    · by_cases w : x = 48
      · rw [w]; exact e48 j (by omega)
      · by_cases w2 : x = pt
        · refine ix x j (fun z => hj ?_) w
          rw [w2]
          exact .inr (.inr (.inr (.inr (.inr (.inr ⟨p4.1, p4.2.2, z⟩)))))
        · exact (s x w w2).1 j
end OPT
