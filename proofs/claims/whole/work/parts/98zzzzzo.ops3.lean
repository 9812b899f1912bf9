/-! the calls, one by one: begin, act, beat, back -/
section OPU
variable {h h' h1 h2 hc hr hc' hr' t t' t1 : hS} {K K' : Nat → Int → Prop} {p m q q' κ n : Nat} {r : Int → Nat} {G : Int} {R0 R1 : Nat → Nat}
theorem kpT_tr (a : kpT t t1) (b : kpT t1 t') : kpT t t' := ⟨fun j => (b.1 j).trans (a.1 j), fun j => (b.2.1 j).trans (a.2.1 j), ⟨b.2.2.1.1.trans a.2.2.1.1, b.2.2.1.2.trans a.2.2.1.2⟩, fun v g v0 v1 g0 g1 n => (b.2.2.2.1 v g v0 v1 g0 g1 n).trans (a.2.2.2.1 v g v0 v1 g0 g1 n), fun v g v0 v1 g0 g1 => (b.2.2.2.2.1 v g v0 v1 g0 g1).trans (a.2.2.2.2.1 v g v0 v1 g0 g1), b.2.2.2.2.2.trans a.2.2.2.2.2⟩
/-- begin -/
theorem op21 (a b c : Int) : OPq (c168 a b c) (c293 a b c) := fun n hc hr _ I => by
  obtain ⟨K, p, m, q, r, κ, G, R0, R1, I', Q, Sc, g, ro⟩ := I
  obtain ⟨U, ⟨Ss, La, LR⟩, PTh, Pk, Gn, X, rf, e87, Lt⟩ := id I'
  have h448 := Q.2.2.2.2.2.2.2
  obtain ⟨v, hc', hr', e1, e2, U', Ss', La', LR', ch, f⟩ := api21 U Ss La LR a b c
  have s : ∀ x, ¬ (375 ≤ x ∧ x < 395) → sm hc hc' x := fun x hx => ch_s ch hx
  have N' : hN hc' = hN hc := ch.2.2.2.1
  have In : INq K p m q r κ G R0 R1 hc' hr' := INq_k I' (kpH_low (fun x _ hx => s x (by omega)) h448 (Nat.le_of_eq N'.symm)) (kpT_low (fun x j hx => f.2 x j (by omega))) U' ⟨Ss', La', LR'⟩ (PT_u PTh (fun x _ hx => s x (by omega)) h448 (Nat.le_of_eq N'.symm) (fun x j hx => f.2 x j (by omega))) (XT_u X ⟨(s 52 (by omega)).2.2.1, (s 52 (by omega)).2.2.2⟩ (fun c n _ _ => (s _ (by omega)).1 n) (fun j => f.2 407 j (by omega))) (rf_u rf (fun j _ _ => (s 48 (by omega)).1 j) (fun j _ _ => f.2 395 j (by omega))) (by rw [(s 8 (by omega)).2.1]; exact e87)
  obtain ⟨s1, s2, s3, s4, s5, s6, s7⟩ := id Sc
  have i8 : ∀ j, hI hc' 8 j = hI hc 8 j := (s 8 (by omega)).1
  obtain ⟨Q', Sc'⟩ := RS_k (q' := q) (hc' := hc') (hr' := hr') Q Sc (fun x x1 x2 => s x (by omega)) (fun x j hx => f.2 x j (by omega)) (fun x j => by rw [h2_J f.1]) (Nat.le_of_eq N'.symm) ⟨by rw [i8, f.2 395 56 (by omega)]; exact s3.1, by rw [i8, f.2 395 57 (by omega)]; exact s3.2.1, by rw [i8, f.2 395 58 (by omega)]; exact s3.2.2⟩ (by rw [i8, f.2 395 59 (by omega)]; exact s4) (fun c hcc => by rw [(s 20 (by omega)).1, f.2 418 c (by omega)]; exact s5 c hcc) (i8 10) (f.2 395 30 (by omega)) (by rw [f.2 395 60 (by omega)]; exact s7)
  exact ⟨v, hc', hr', e1, e2, ⟨K, p, m, q, r, κ, G, R0, R1, In, Q', Sc', by omega, ROq_n ro N' ch.2.2.2.2.1⟩, kR_ch ch (fun x z => by omega), kCc_fp f (fun x j z => by omega)⟩
/-- act -/
theorem op15 (a b c : Int) : OPq (c112 a b c) (c250 a b c) := fun n hc hr _ I => by
  obtain ⟨K, p, m, q, r, κ, G, R0, R1, I', Q, Sc, g, ro⟩ := I
  obtain ⟨U, ⟨Ss, La, LR⟩, PTh, Pk, Gn, X, rf, e87, Lt⟩ := id I'
  have h448 := Q.2.2.2.2.2.2.2
  obtain ⟨s1, s2, s3, s4, s5, s6, s7⟩ := id Sc
  obtain ⟨v, hc', hr', e1, e2, U', tl, ⟨h1, h2, f1, N, f2⟩, ⟨t1, r1, f3⟩, e60⟩ := api15 U s7 a b c
  have b12 : BTc p m h1 h2 := BTc_N (.inl rfl) N
  have nF : ∀ x, x ≠ 24 → ¬ (28 ≤ x ∧ x ≤ 47) → ∀ e, e ≤ 20 → x ≠ FF 24 e := fun x x1 x2 e he => by
    unfold FF
    split <;> omega
  obtain ⟨⟨n1, n2, n3, n4, n5⟩, nR, nI⟩ := id N
  have hp := U.1.2.2.2.2.1
  have Q0 : ∀ u : Int, 0 ≤ u → u < m → KD hc (kd hc p u) := fun u u0 u1 => (U.1.2.1.2.2.1 u u0 u1).1
  have k1 : ∀ u, kd h1 p u = kd hc p u := fun u => kd_2 f1.1 u
  have T' : hT hc' = hT hc := by funext x; rw [h2_T f2.1, n2, h2_T f1.1]
  have L' : hL hc' = hL hc := by funext x; rw [h2_L f2.1, n3, h2_L f1.1]
  have N' : hN hc' = hN hc := by rw [h2_N f2.1, n4, h2_N f1.1]
  have M' : hM hc' = hM hc := by rw [h2_M f2.1, n5, h2_M f1.1]
  have J' : hJ hc' = hJ hc := by rw [h2_J f2.1, n1, h2_J f1.1]
  have R' : ∀ x j, x ≠ 24 → ¬ (28 ≤ x ∧ x ≤ 47) → ¬ (x = 23 ∧ j = 0) → hR hc' x j = hR hc x j := fun x j x1 x2 x3 => by rw [h2_R f2.1, nR x j (nF x x1 x2) x3, h2_R f1.1]
  have i' : ∀ x j, x ≠ 24 → ¬ (28 ≤ x ∧ x ≤ 47) → ¬ (x = 8 ∧ 11 ≤ j ∧ j ≤ 13) → ¬ ((x = 22 ∧ j ≠ 11) ∨ x = 25 ∨ x = 26 ∨ (215 ≤ x ∧ x < 375 ∧ (x - 215) % 4 ≠ 0 ∧ (x - 215) % 4 ≠ 2)) → (∀ u : Int, 0 ≤ u → u < m → x ≠ kd hc p u + 5) → hI hc' x j = hI hc x j := fun x j x1 x2 x3 x4 x5 => by
    rw [f2.2 x j (by omega), nI x j (nF x x1 x2) (fun z => by
      rcases z with z | z | z | z | ⟨u, u0, u1, z⟩
      · exact x4 (.inl z)
      · exact x4 (.inr (.inl z))
      · exact x4 (.inr (.inr (.inl z)))
      · exact x4 (.inr (.inr (.inr z)))
      · rw [k1] at z
        exact x5 u u0 u1 z), f1.2 x j (by omega)]
  have low : ∀ x, x < 448 → ∀ u : Int, 0 ≤ u → u < m → x ≠ kd hc p u + 5 := fun x hx u u0 u1 z => by have := (Q0 u u0 u1).1; omega
  have s : ∀ x, x < 448 → ¬ (x = 8 ∨ (22 ≤ x ∧ x ≤ 47) ∨ (215 ≤ x ∧ x < 375)) → sm hc hc' x := fun x hx hn => ⟨fun j => i' x j (by omega) (by omega) (by omega) (by omega) (low x hx), fun j => R' x j (by omega) (by omega) (by omega), by rw [T'], by rw [L']⟩
  have n26 : ∀ x, hT hc x = 26 → ∀ u : Int, 0 ≤ u → u < m → x ≠ kd hc p u + 5 := fun x hx u u0 u1 z => by
    have := (KD10 (Q0 u u0 u1)).2.1
    rw [← z] at this
    omega
  have hi : ∀ x, 448 ≤ x → (∀ u : Int, 0 ≤ u → u < m → x ≠ kd hc p u + 5) → sm hc hc' x := fun x hx hk => ⟨fun j => i' x j (by omega) (by omega) (by omega) (by omega) hk, fun j => R' x j (by omega) (by omega) (by omega), by rw [T'], by rw [L']⟩
  have tt : ∀ x j, ¬ ((x = 395 ∧ (j = 39 ∨ j = 40 ∨ j = 41 ∨ j = 42 ∨ j = 52 ∨ j = 54 ∨ j = 55 ∨ j = 66 ∨ (56 ≤ j ∧ j ≤ 58))) ∨ x = 417 ∨ (419 ≤ x ∧ x ≤ 422) ∨ x = 405 ∨ x = 406 ∨ x = 400 ∨ (408 ≤ x ∧ x ≤ 416)) → hI hr' x j = hI hr x j := fun x j hx => by rw [f3.2 x j (by omega), r1.2 x j (by omega)]
  have kh : kpH p m hc hc' := ⟨Nat.le_of_eq N'.symm, fun x x1 x2 => ⟨by rw [T'], fun j => R' x j (by omega) (by omega) (by omega), fun _ hk => hi x x1 hk⟩, ⟨s 213 (by omega) (by omega), s 214 (by omega) (by omega), s 6 (by omega) (by omega)⟩, fun j => R' 50 j (by omega) (by omega) (by omega), ⟨(s 48 (by omega) (by omega)).1 9, (s 48 (by omega) (by omega)).2.1 7, (s 48 (by omega) (by omega)).2.1 8⟩⟩
  have kt : kpT hr hr' := kpT_tr (BT_kt (t := hr) (t' := t1) ⟨r1.1, fun x j hx => r1.2 x j (by omega)⟩) (kpT_low (fun x j hx => f3.2 x j (by omega)))
  -- the long acts
  obtain ⟨Sa, LaA, LRa⟩ := SLL_s (h' := h1) (t' := hr) Ss La LR ⟨funext (h2_T f1.1), funext (h2_L f1.1), h2_N f1.1⟩ (fun x j => h2_R f1.1 x j) (fun x j hx => f1.2 x j (by omega)) (fun _ _ _ => rfl)
  have Rt1 : RT h1 hr K p m q r := RT_8 U.1 ⟨h2_J f1.1, funext (h2_T f1.1), funext (h2_L f1.1), h2_N f1.1, h2_M f1.1, fun x hx j => ⟨f1.2 x j (by omega), h2_R f1.1 x j⟩⟩ (f1.2 8 8 (by omega)) (fun _ _ _ => rfl)
  have z7 : ∀ x j, 375 ≤ x → x < 395 → hI h2 x j = hI h1 x j ∧ hR h2 x j = hR h1 x j := fun x j x1 x2 => ⟨nI x j (nF x (by omega) (by omega)) (fun z => by
    rcases z with z | z | z | z | ⟨u, u0, u1, z⟩
    · omega
    · omega
    · omega
    · omega
    · rw [k1] at z
      exact low x (by omega) u u0 u1 z), nR x j (nF x (by omega) (by omega)) (by omega)⟩
  have Sb := SL_b Sa b12 (fun l hl => (z7 _ 0 (by omega) (by omega)).2)
  have LaB : LA h2 hr' := fun l hl => LA1_b Rt1 (LaA l hl) b12 (fun j => (z7 _ j (by omega) (by omega)).1) (z7 _ 1 (by omega) (by omega)).2 (fun y y1 y2 => tt y l (by omega)) (tt 437 _ (by omega))
  have LRb := LRs_b Rt1 LRa b12 (t' := hr') (fun _ => True) (fun l hl _ j => z7 _ j (by omega) (by omega)) (fun l hl _ y y1 y2 => tt y l (by omega)) (fun l hl _ y j y1 y2 y3 y4 => tt y j (by omega)) (fun j => tt 399 j (by omega)) (fun l hl z => absurd trivial z)
  have LL := SLL_s (h' := hc') (t' := hr') Sb LaB LRb ⟨funext (h2_T f2.1), funext (h2_L f2.1), h2_N f2.1⟩ (fun x j => h2_R f2.1 x j) (fun x j hx => f2.2 x j (by omega)) (fun _ _ _ => rfl)
  have In : INq K p m q r κ G R0 R1 hc' hr' := INq_k I' kh kt U' LL (PT_u PTh (fun x x1 hx => by
    rcases hx with z | z | ⟨z1, z2⟩
    · exact s x (by omega) (by omega)
    · exact s x (by omega) (by omega)
    · exact hi x z1 (n26 x z2)) h448 (Nat.le_of_eq N'.symm) (fun x j hx => tt x j (by omega))) (XT_u X ⟨by rw [T'], by rw [L']⟩ (fun c n _ _ => i' _ n (by omega) (by omega) (by omega) (by omega) (low _ (by omega))) (fun j => tt 407 j (by omega))) (rf_u rf (fun j _ _ => (s 48 (by omega) (by omega)).1 j) (fun j _ _ => tt 395 j (by omega))) (by rw [R' 8 7 (by omega) (by omega) (by omega)]; exact e87)
  have i8 : ∀ j, ¬ (11 ≤ j ∧ j ≤ 13) → hI hc' 8 j = hI hc 8 j := fun j hj => i' 8 j (by omega) (by omega) (by omega) (by omega) (low 8 (by omega))
  obtain ⟨Q', Sc'⟩ := RS_k (q' := q) (hc' := hc') (hr' := hr') Q Sc (fun x x1 x2 => s x (by omega) (by omega)) (fun x j hx => tt x j (by omega)) (fun x j => by rw [h2_J f3.1, h2_J r1.1]) (Nat.le_of_eq N'.symm) tl (by rw [i8 9 (by omega), tt 395 59 (by omega)]; exact s4) (fun c hcc => by rw [(s 20 (by omega) (by omega)).1, tt 418 c (by omega)]; exact s5 c hcc) (i8 10 (by omega)) (tt 395 30 (by omega)) e60
  refine ⟨v, hc', hr', e1, e2, ⟨K, p, m, q, r, κ, G, R0, R1, In, Q', Sc', by omega, ROq_n ro N' M'⟩, fun x j x1 x2 => ⟨i' x j (by omega) (by omega) (by omega) (by omega) (low x (by omega)), by rw [J']⟩, ⟨⟨?_, ?_, ?_, ?_, ?_⟩, fun x j hx => tt x j (by omega)⟩⟩
  · funext x; rw [h2_T f3.1, h2_T r1.1]
  · funext x; rw [h2_L f3.1, h2_L r1.1]
  · rw [h2_N f3.1, h2_N r1.1]
  · rw [h2_M f3.1, h2_M r1.1]
  · funext x j; rw [h2_R f3.1, h2_R r1.1]
/-- beat -/
theorem op18 : OPq c136 c271 := fun n hc hr n5 I => by
  obtain ⟨K, p, m, q, r, κ, G, R0, R1, I', Q, Sc, g, ro⟩ := id I
  have h448 := Q.2.2.2.2.2.2.2
  obtain ⟨s1, s2, s3, s4, s5, s6, s7⟩ := id Sc
  by_cases z : hI hc 8 9 = 1000
  · obtain ⟨e1, e2⟩ := api18_no z s4.1
    exact ⟨-1, hc, hr, e1, e2, REL_n I, kR_rf, kCc_rf⟩
  · obtain ⟨v, hc', hr', p', m', r', G', e1, e2, In, eG, ⟨z1, z2, z3, z4⟩, ⟨⟨c1, c2⟩, cJ, c3⟩, f, rm⟩ := api18 I' h448 (by omega) ⟨s4.1, s4.2.1, by omega⟩ s6
    have s : ∀ x, x < 18 → x ≠ 8 → sm hc hc' x := fun x x1 x2 => by
      obtain ⟨⟨y1, y2⟩, y3, y4⟩ := c3 x (by omega)
      exact ⟨fun j => y4 j (by omega), fun j => y3 j (by omega), y1, y2⟩
    have i8 : ∀ j, j ≠ 9 → hI hc' 8 j = hI hc 8 j := fun j hj => (c3 8 (by omega)).2.2 j (by omega)
    have q40 := I'.1.1.2.2.2.1.2.2.1
    obtain ⟨Q', Sc'⟩ := RS_k (q' := q) (hc' := hc') (hr' := hr') Q Sc s (fun x j hx => f.2 x j (by omega)) (fun x j => by rw [h2_J f.1]) c1 ⟨by rw [i8 11 (by omega), f.2 395 56 (by omega)]; exact s3.1, by rw [i8 12 (by omega), f.2 395 57 (by omega)]; exact s3.2.1, by rw [i8 13 (by omega), f.2 395 58 (by omega)]; exact s3.2.2⟩ ⟨z1.trans z2.symm, by omega, by omega⟩ (fun c hcc => z4 c (by omega)) (i8 10 (by omega)) (f.2 395 30 (by omega)) z3
    refine ⟨v, hc', hr', e1, e2, ⟨K, p', m', q, r', κ, G', R0, R1, In, Q', Sc', by omega, ?_⟩, fun x j x1 x2 => ⟨(c3 x x2).2.2 j (by omega), cJ.2 x (by omega) j⟩, kCc_fp f (fun x j z => by omega)⟩
    rcases rm with ⟨w1, w2⟩ | ⟨w1, w2, w3, w4⟩
    · exact ROq_n ro w1 w2
    · unfold ROq wtq at *
      rw [if_neg w1] at ro
      rw [if_pos w2]
      omega
/-- back -/
theorem op27 : OPq c177 c299 := fun n hc hr n5 I => by
  obtain ⟨K, p, m, q, r, κ, G, R0, R1, I', Q, Sc, g, ro⟩ := id I
  have h448 := Q.2.2.2.2.2.2.2
  obtain ⟨s1, s2, s3, s4, s5, s6, s7⟩ := id Sc
  obtain ⟨v, hc', hr', p', m', r', e1, e2, In, ⟨⟨c1, c2⟩, cJ, c3⟩, f, N', M'⟩ := api27 I' h448
  have s : ∀ x, x < 18 → x ≠ 8 → sm hc hc' x := fun x x1 x2 => by
    obtain ⟨⟨y1, y2⟩, y3, y4⟩ := c3 x (by omega)
    exact ⟨fun j => y4 j (by omega), fun j => y3 j (by omega), y1, y2⟩
  have i8 : ∀ j, hI hc' 8 j = hI hc 8 j := fun j => (c3 8 (by omega)).2.2 j (by omega)
  obtain ⟨Q', Sc'⟩ := RS_k (q' := q) (hc' := hc') (hr' := hr') Q Sc s (fun x j hx => f.2 x j (by omega)) (fun x j => by rw [h2_J f.1]) c1 ⟨by rw [i8, f.2 395 56 (by omega)]; exact s3.1, by rw [i8, f.2 395 57 (by omega)]; exact s3.2.1, by rw [i8, f.2 395 58 (by omega)]; exact s3.2.2⟩ (by rw [i8, f.2 395 59 (by omega)]; exact s4) (fun c hcc => by rw [(c3 20 (by omega)).2.2 c (by omega), f.2 418 c (by omega)]; exact s5 c hcc) (i8 10) (f.2 395 30 (by omega)) (by rw [f.2 395 60 (by omega)]; exact s7)
  exact ⟨v, hc', hr', e1, e2, ⟨K, p', m', q, r', κ, G, R0, R1, In, Q', Sc', by omega, ROq_n ro N' M'⟩, fun x j x1 x2 => ⟨(c3 x x2).2.2 j (by omega), cJ.2 x (by omega) j⟩, kCc_fp f (fun x j z => by omega)⟩
end OPU
