/-! the calls, one by one: pond -/
section OPV
variable {h h' h1 h2 hc hr hc' hr' t t' t1 : hS} {K K' : Nat → Int → Prop} {p m q q' κ n : Nat} {r : Int → Nat} {G : Int} {R0 R1 : Nat → Nat}
/-- a text that is not taken -/
theorem op_fail (I : RELn n hc hr) (fx : FX hc hc') (fy : FY2 hr hr') (jq : JQr hc hc') (tp : tpR hc' hr') (lr : hI hr' 395 9 = 0 ∨ lrn hr') (nm : nmR hc' hr') (fl : fltR hc' hr') (q7 : 0 ≤ hI hc' 15 7) (rN : hN hc' ≤ hN hc + 1165 ∧ hM hc' ≤ hM hc + 13000) : RELn (n + 1) hc' hr' ∧ kR hc hc' ∧ kCc hr hr' := by
  obtain ⟨K, p, m, q, r, κ, G, R0, R1, I, Q, Sc, g, ro⟩ := I
  have h448 := Q.2.2.2.2.2.2.2
  have k6 := I.1.2.2.1
  obtain ⟨⟨n1, n2⟩, fc⟩ := fx
  obtain ⟨y1, y2, y3, y4⟩ := fy
  have ih : igH κ hc hc' := ⟨n1, fun x hx _ => by
    obtain ⟨z1, z2, z3, z4⟩ := fc x hx
    exact ⟨⟨z1, z2⟩, fun j hj => z3 j (by omega), fun j hj => z4 j (by omega)⟩⟩
  have it : igT κ hr hr' := fun x j x1 x2 hx => y3 x j (by omega)
  have i : ∀ x j, x < 448 → ¬ (x = 11 ∨ x = 12 ∨ x = 13 ∨ x = 16 ∨ x = 17 ∨ (x = 9 ∧ (j = 5 ∨ j = 1)) ∨ (x = 15 ∧ 2 ≤ j ∧ j ≤ 10)) → hI hc' x j = hI hc x j := fun x j hx hj => (fc x (by omega)).2.2.2 j hj
  have s : ∀ x, x < 448 → ¬ (9 ≤ x ∧ x ≤ 13) → ¬ (15 ≤ x ∧ x ≤ 17) → sm hc hc' x := fun x hx h1 h2 => by
    obtain ⟨z1, z2, z3, z4⟩ := fc x (by omega)
    exact ⟨fun j => z4 j (by omega), fun j => z3 j (by omega), z1, z2⟩
  refine ⟨⟨K, p, m, q, r, κ, G, R0, R1, INq_0 I h448 ih it (i 48 4 (by omega) (by omega)) (y3 395 25 (by omega)), ?_, ?_, by omega, ?_⟩, fun x j x1 x2 => ⟨i x j (by omega) (by omega), jq.2 x (by omega) j⟩, ⟨⟨?_, ?_, ?_, ?_, y1⟩, fun x j hx => y3 x j (by omega)⟩⟩
  · exact RQ_g Q tp lr nm q7 (fun x hx => s x (by omega) (by omega) (by omega)) ⟨(fc 16 (by omega)).1, (fc 16 (by omega)).2.1, (fc 17 (by omega)).1, (fc 17 (by omega)).2.1⟩ n1
  · obtain ⟨s1, s2, s3, s4, s5, s6, s7⟩ := id Sc
    exact SCL_g Sc ⟨(fc 6 (by omega)).1, (fc 6 (by omega)).2.1⟩ fl ⟨by rw [i 8 11 (by omega) (by omega), y3 395 56 (by omega)]; exact s3.1, by rw [i 8 12 (by omega) (by omega), y3 395 57 (by omega)]; exact s3.2.1, by rw [i 8 13 (by omega) (by omega), y3 395 58 (by omega)]; exact s3.2.2⟩ (i 8 9 (by omega) (by omega)) (y3 395 59 (by omega)) (fun c hcc => by rw [i 20 c (by omega) (by omega), y3 418 c (by omega)]; exact s5 c hcc) (i 8 10 (by omega) (by omega)) (y3 395 30 (by omega)) (y3 395 60 (by omega))
  · unfold ROq wtq at *
    rw [y3 395 28 (by omega)]
    omega
  · show hr'.2.2.2.1 = hr.2.2.2.1; rw [y2]
  · show hr'.2.2.2.2.1 = hr.2.2.2.2.1; rw [y2]
  · show hr'.2.2.2.2.2.1 = hr.2.2.2.2.2.1; rw [y2]
  · show hr'.2.2.2.2.2.2 = hr.2.2.2.2.2.2; rw [y2]
theorem SHc_p {a c : Nat} (S : SHc h a c) (e : ∀ o, o ≤ 3 → hT h' (a + o) = hT h (a + o) ∧ hL h' (a + o) = hL h (a + o)) (eR : ∀ j, hR h' a j = hR h a j) (e0 : hI h' a 0 = hI h a 0) : SHc h' a c := by
  obtain ⟨a1, a2, a3, a4, a5, a6, a7⟩ := S
  have s0 := e 0 (by omega)
  rw [Nat.add_zero] at s0
  have s1 := e 1 (by omega)
  have s2 := e 2 (by omega)
  have s3 := e 3 (by omega)
  exact ⟨by rw [s0.1]; exact a1, by rw [eR]; exact a2, by rw [eR]; exact a3, by rw [eR]; exact a4, by rw [s1.1, s2.1, s3.1]; exact a5, by rw [s1.2, s2.2, s3.2]; exact a6, by rw [e0]; exact a7⟩
/-- pond -/
theorem op3 : OPq c41 c183 := fun n hc hr n5 I => by
  obtain ⟨K, p, m, q, r, κ, G, R0, R1, I', Q, Sc, g, ro⟩ := id I
  obtain ⟨U, ⟨Ss, La, LR⟩, PTh, Pk, Gn, X, rf, e87, Lt⟩ := id I'
  have Sh := U.1.1
  have h448 := Q.2.2.2.2.2.2.2
  obtain ⟨v, hc', hr', e1, e2, ⟨tp, lr, nm, fl, q7⟩, cs, nB, mB⟩ := pond_eb Q (fun c c40 => ⟨(Sh.1 c c40).1, (Sh.1 c c40).2.1⟩) (fun c c10 => ⟨(Ss c c10).1, (Ss c c10).2.1⟩)
  have jq : JQr hc hc' := j_c41 JQ_rf _ e1
  rcases cs with ⟨-, fx, fy⟩ | ⟨mk, K', -, PZh, sep, gens, fl7⟩
  · exact ⟨v, hc', hr', e1, e2, op_fail I fx fy jq tp (.inr lr) nm fl q7 ⟨nB, mB⟩⟩
  · obtain ⟨⟨r87, -⟩, Pw, T, Cf, -, C0, ⟨q8, q33, dead⟩, ll, ⟨w10, w30⟩, ⟨x1, x2, x3, x4, x5, x6, x7, x8, x9⟩, ⟨⟨n1, n2⟩, fc⟩, y1, y2, y3, y4⟩ := PZh
    have hcT : ∀ x, x < 448 → hT hc' x = hT hc x := fun x hx => (fc x (by omega)).1
    have hcL : ∀ x, x < 448 → hL hc' x = hL hc x := fun x hx => (fc x (by omega)).2.1
    have hcR : ∀ x j, x < 448 → ¬ ((x = 15 ∧ (j = 11 ∨ j = 12)) ∨ (x = 8 ∧ j = 7) ∨ (x = 48 ∧ (j = 5 ∨ j = 7 ∨ j = 8))) → hR hc' x j = hR hc x j := fun x j hx hj => (fc x (by omega)).2.2.1 j hj
    have hcI : ∀ x j, x < 448 → ¬ (x = 11 ∨ x = 12 ∨ x = 13 ∨ x = 16 ∨ x = 17 ∨ (x = 9 ∧ (j = 5 ∨ j = 1)) ∨ (x = 15 ∧ 2 ≤ j ∧ j ≤ 10) ∨ (x = 8 ∧ (j = 8 ∨ j = 10)) ∨ (x = 48 ∧ (j = 4 ∨ j = 9)) ∨ (j = 1 ∧ 215 ≤ x ∧ x < 375) ∨ ((j = 1 ∨ j = 2) ∧ 375 ≤ x ∧ x < 395)) → hI hc' x j = hI hc x j := fun x j hx hj => (fc x (by omega)).2.2.2 j hj
    have SH' : SH hc' := ⟨fun c c40 => ⟨by rw [hcR 19 c (by omega) (by omega)]; exact (Sh.1 c c40).1, SHc_p (Sh.1 c c40).2 (fun o ho => ⟨hcT _ (by omega), hcL _ (by omega)⟩) (fun j => hcR _ j (by omega) (by omega)) (hcI _ 0 (by omega) (by omega))⟩, fun c c40 => ⟨by rw [hcR 49 c (by omega) (by omega)]; exact (Sh.2 c c40).1, SHc_p (Sh.2 c c40).2 (fun o ho => ⟨hcT _ (by omega), hcL _ (by omega)⟩) (fun j => hcR _ j (by omega) (by omega)) (hcI _ 0 (by omega) (by omega))⟩⟩
    have CR' : CR hc' hr' (hN hc) mk 0 := ⟨by rw [q8]; rfl, by rw [q33]; rfl, by omega, fun c c40 => ⟨.inl (dead c c40), fun z => by omega, fun _ => dead c c40, fun z => by have := dead c c40; omega⟩⟩
    have RT' : RT hc' hr' K' (hN hc) mk 0 rN := ⟨SH', Pw, T, CR', .inr h448, fun x v hx => by
      obtain ⟨c1, c2, c3, -⟩ := C0 x v hx
      exact ⟨⟨c1, c2, c3⟩, fun j j0 j1 => sep x v hx j j0 j1⟩⟩
    obtain ⟨-, -, -, ⟨f1, f2⟩, rn, n11, e54⟩ := U
    have ty : ∀ x j, ¬ (x = 399 ∨ (x = 400 ∧ j < 1538) ∨ (x = 395 ∧ ((1 ≤ j ∧ j ≤ 5) ∨ j = 7 ∨ j = 9 ∨ (11 ≤ j ∧ j ≤ 14) ∨ (16 ≤ j ∧ j ≤ 22) ∨ (24 ≤ j ∧ j ≤ 30) ∨ j = 33)) ∨ x = 423 ∨ x = 424) → hI hr' x j = hI hr x j := y3
    have U' : RUNp K' (hN hc) mk 0 rN 0 hc' hr' := ⟨RT', C0, by omega, ⟨fun e z1 z2 => ⟨by rw [hcR 23 e (by omega) (by omega)]; exact (f1 e z1 z2).1, by rw [hcT _ (by omega)]; exact (f1 e z1 z2).2⟩, by rw [hcT 24 (by omega)]; exact f2⟩, rnn_c rn (fun x j hx => hcI x j (by omega) (by omega)) (fun x j hx => ty x j (by omega)), by rw [hcI 22 11 (by omega) (by omega), ty 395 60 (by omega)]; exact n11, by rw [ty 395 54 (by omega)]; exact e54⟩
    have SL' : SL hc' := SL_g Ss (fun j => hcR 21 j (by omega) (by omega)) (fun x z1 z2 => ⟨hcT x (by omega), hcR x 0 (by omega) (by omega)⟩)
    have LA' : LA hc' hr' := fun l hl => by
      obtain ⟨⟨l1, l2⟩, l3, l4⟩ := ll l hl
      exact ⟨by rw [l1, l4], .inl l4, by rw [l2, l3], .inl l3, fun z => by omega, fun z => by omega⟩
    have LR' : LRs hc' hr' K' 0 := fun l hl z => by have := (ll l hl).2.1; omega
    have PT' : PT hc' hr' 0 := ⟨by rw [x1]; rfl, by rw [x2]; rfl, by omega, fun j hj => by omega, fun j k hj => by omega, .inl ⟨x4, x3⟩⟩
    have GN' : GNq hc' hr' mk 0 := ⟨Cf, by omega, x8, x9, fun j j0 j1 => by
      have k5 := (Pw.2.2.1 j j0 j1).2.2.2.1
      rw [gens j j0 j1] at k5
      omega⟩
    have X' : XTq hc' hr' := XT_u X ⟨hcT 52 (by omega), hcL 52 (by omega)⟩ (fun c n hcc hn => fl7 c n hcc) (fun j => ty 407 j (by omega))
    have In : INq K' (hN hc) mk 0 rN 0 0 R0 R1 hc' hr' := ⟨U', ⟨SL', LA', LR'⟩, PT', fun k hk => by omega, GN', X', rf_u rf (fun j _ _ => hcI 48 j (by omega) (by omega)) (fun j _ _ => ty 395 j (by omega)), r87, .inl ⟨x7, x5⟩⟩
    obtain ⟨s1, s2, s3, s4, s5, s6, s7⟩ := id Sc
    refine ⟨v, hc', hr', e1, e2, ⟨K', hN hc, mk, 0, rN, 0, 0, R0, R1, In, ?_, ?_, by omega, ?_⟩, fun x j z1 z2 => ⟨hcI x j (by omega) (by omega), jq.2 x (by omega) j⟩, ⟨⟨?_, ?_, ?_, ?_, y1⟩, fun x j hx => ty x j (by omega)⟩⟩
    · refine RQ_g Q tp (.inr lr) nm q7 (fun x hx => ⟨fun j => hcI x j (by omega) (by omega), fun j => hcR x j (by omega) (by omega), hcT x (by omega), hcL x (by omega)⟩) ⟨hcT 16 (by omega), hcL 16 (by omega), hcT 17 (by omega), hcL 17 (by omega)⟩ n1
    · exact ⟨by rw [hcT 6 (by omega), hcL 6 (by omega)]; exact s1, fl, ⟨by rw [hcI 8 11 (by omega) (by omega), ty 395 56 (by omega)]; exact s3.1, by rw [hcI 8 12 (by omega) (by omega), ty 395 57 (by omega)]; exact s3.2.1, by rw [hcI 8 13 (by omega) (by omega), ty 395 58 (by omega)]; exact s3.2.2⟩, by rw [hcI 8 9 (by omega) (by omega), ty 395 59 (by omega)]; exact s4, fun c hcc => by omega, ⟨w10.trans w30.symm, .inl w30⟩, by rw [ty 395 60 (by omega)]; exact s7⟩
    · unfold ROq wtq at *
      rw [if_pos x4]
      omega
    · show hr'.2.2.2.1 = hr.2.2.2.1; rw [y2]
    · show hr'.2.2.2.2.1 = hr.2.2.2.2.1; rw [y2]
    · show hr'.2.2.2.2.2.1 = hr.2.2.2.2.2.1; rw [y2]
    · show hr'.2.2.2.2.2.2 = hr.2.2.2.2.2.2; rw [y2]
end OPV
