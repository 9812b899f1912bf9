/-! all that holds between the calls -/
/-- a patch waits -/
def wtq (t : hS) : Nat := if hI t 395 28 = -1 then 0 else 1
/-- single numbers -/
def SCLq (q : Nat) (hc hr : hS) : Prop := (hT hc 6 = 19 ∧ hL hc 6 = 0) ∧ fltR hc hr ∧ tldR hc hr ∧ (hI hc 8 9 = hI hr 395 59 ∧ 0 ≤ hI hc 8 9 ∧ hI hc 8 9 ≤ 1000) ∧ (∀ c : Nat, c < q → hI hc 20 c = hI hr 418 c) ∧ (hI hc 8 10 = hI hr 395 30 ∧ (hI hr 395 30 = -1 ∨ (0 ≤ hI hr 395 30 ∧ hI hr 395 30 < 40))) ∧ hI hr 395 60 = 0
/-- what is left of the room behind n calls -/
def ROq (n : Nat) (hc hr : hS) : Prop := hN hc + 1170 * wtq hr ≤ 448 + 1171 * n ∧ hM hc + 14090 * wtq hr ≤ 87100 + 14090 * n
/-- behind n calls -/
def RELn (n : Nat) (hc hr : hS) : Prop := ∃ (K : Nat → Int → Prop) (p m q : Nat) (r : Int → Nat) (κ : Nat) (G : Int) (R0 R1 : Nat → Nat), INq K p m q r κ G R0 R1 hc hr ∧ RQ hc hr ∧ SCLq q hc hr ∧ G ≤ (n : Int) ∧ ROq n hc hr
/-- the class leaves the other side's cells alone -/
def kR (h h' : hS) : Prop := ∀ x j, 395 ≤ x → x < 448 → hI h' x j = hI h x j ∧ hJ h' x j = hJ h x j
/-- the other side leaves the class's cells alone -/
def kCc (h h' : hS) : Prop := (hT h' = hT h ∧ hL h' = hL h ∧ hN h' = hN h ∧ hM h' = hM h ∧ hR h' = hR h) ∧ ∀ x j, ¬ (395 ≤ x ∧ x < 448) → hI h' x j = hI h x j
section RLN
variable {h h' hc hr hc' hr' t t' : hS} {K K' : Nat → Int → Prop} {p m q q' κ κ' n : Nat} {r : Int → Nat} {G : Int} {R0 R1 : Nat → Nat}
theorem igH_rf : igH κ h h := ⟨Nat.le_refl _, fun _ _ _ => ⟨⟨rfl, rfl⟩, fun _ _ => rfl, fun _ _ => rfl⟩⟩
theorem igT_rf : igT κ t t := fun _ _ _ _ _ => rfl
theorem INq_i (I : INq K p m q r κ G R0 R1 h t) (h448 : 448 ≤ hN h) (a : igH κ h h') (b : igT κ t t') (hK : ∀ x v, K x v → K' x v) (hK' : ∀ x v, K' x v → K x v ∨ (hN h ≤ x ∧ x < hN h' ∧ hT h' x = 1)) (e : κ ≤ κ') (k6 : κ' ≤ 6) (C' : CT h' t' K' κ') : RUNp K' p m q r κ' h' t' ∧ (SL h' ∧ LA h' t' ∧ LRs h' t' K' κ') ∧ PKs h' t' K' p m κ R0 R1 ∧ GNq h' t' m G ∧ XTq h' t' ∧ rfsR h' t' ∧ hR h' 8 7 = p ∧ LTq h' t' K' p m κ G R0 R1 := by
  obtain ⟨⟨R, C, hk, ⟨f1, f2⟩, rn, n, e54⟩, ⟨Ss, La, LR⟩, PTh, Pk, ⟨G1, G2, G3, G4, G5⟩, ⟨x1, x2, x3⟩, rf, e87, Lt⟩ := I
  have W := R.2.1.1
  have hm := W.2.1
  have pN := R.2.1.2.1.2.1
  have hp := R.2.2.2.2.1
  have s : ∀ x, 18 ≤ x → x < 395 → x ≠ 20 → x ≠ 48 → x ≠ 50 → sm h h' x := fun x x1 x2 x3 x4 x5 => ig_s a (by omega) (by omega)
  refine ⟨⟨RT_i R h448 a b hK hK', C', k6, ⟨fun z z1 z2 => ⟨?_, ?_⟩, ?_⟩, rnn_c rn (fun x j hx => (s x (by omega) (by omega) (by omega) (by omega) (by omega)).1 j) (fun x j hx => b x j (by omega) (by omega) (by omega)), ?_, ?_⟩, LL_i Ss La LR h448 (fun x v hx => ⟨(R.2.2.2.2.2 x v hx).1.1, (R.2.2.2.2.2 x v hx).1.2.1⟩) e a b hK, PKs_i Pk h448 hp pN a b hK, ⟨CF_x (fun k f k0 k1 f0 f1 _ => ig_w b (.inl rfl) k0 (by omega) f0 f1) W G1, G2, ?_, ?_, fun j j0 j1 => ?_⟩, ⟨?_, fun c n hc hn => ?_, fun j hj => ?_⟩, ?_, ?_, LT_i R.2.1 hp Lt h448 a b hK (fun x v hx => (hK' x v hx).elim .inl (fun z => .inr z.1))⟩
  · rw [(s 23 (by omega) (by omega) (by omega) (by omega) (by omega)).2.1]; exact (f1 z z1 z2).1
  · rw [(s (27 + z) (by omega) (by omega) (by omega) (by omega) (by omega)).2.2.1]; exact (f1 z z1 z2).2
  · rw [(s 24 (by omega) (by omega) (by omega) (by omega) (by omega)).2.2.1]; exact f2
  · rw [(s 22 (by omega) (by omega) (by omega) (by omega) (by omega)).1, b 395 60 (by omega) (by omega) (by omega)]; exact n
  · rw [b 395 54 (by omega) (by omega) (by omega)]; exact e54
  · rw [(a.2 48 (by omega) (by omega)).2.2 9 (by omega)]; exact G3
  · rw [b 395 27 (by omega) (by omega) (by omega)]; exact G4
  · rw [ig_w b (.inl rfl) j0 (by omega) (by omega) (by omega)]; exact G5 j j0 j1
  · have s52 := s 52 (by omega) (by omega) (by omega) (by omega) (by omega)
    rw [s52.2.2.1, s52.2.2.2]; exact x1
  · rw [(s (217 + 4 * c) (by omega) (by omega) (by omega) (by omega) (by omega)).1]; exact x2 c n hc hn
  · rw [b 407 j (by omega) (by omega) (by omega)]; exact x3 j hj
  · unfold rfsR
    have s48 := (a.2 48 (by omega) (by omega)).2.2
    rw [s48 10 (by omega), s48 11 (by omega), s48 12 (by omega), b 395 82 (by omega) (by omega) (by omega), b 395 83 (by omega) (by omega) (by omega), b 395 84 (by omega) (by omega) (by omega)]
    exact rf
  · rw [(a.2 8 (by omega) (by omega)).2.1 7 (by omega)]; exact e87
theorem PT_i (Q : PT h t κ) (h448 : 448 ≤ hN h) (a : igH κ h h') (b : igT κ t t') (e4 : hI h' 48 4 = hI h 48 4) (e25 : hI t' 395 25 = hI t 395 25) : PT h' t' κ := by
  obtain ⟨q1, q2, q3, q4, q5, q6⟩ := Q
  have e50 : ∀ j, j < κ → hR h' 50 j = hR h 50 j := fun j hj => (a.2 50 (by omega) (by omega)).2.1 j (by omega)
  refine ⟨by rw [e4]; exact q1, by rw [e25]; exact q2, q3, fun j hj => ?_, fun j k hj hk => ?_, ?_⟩
  · obtain ⟨⟨y1, y2, y3⟩, y4⟩ := q4 j hj
    have s := ig_s a y2 (.inr (.inr y1))
    rw [e50 j hj, s.2.2.1, s.1, b 402 j (by omega) (by omega) (by omega)]
    exact ⟨⟨y1, by have := a.1; omega, y3⟩, y4⟩
  · rw [e50 j hj, e50 k hk]
    exact q5 j k hj hk
  · rw [b 395 28 (by omega) (by omega) (by omega), b 395 26 (by omega) (by omega) (by omega), (a.2 48 (by omega) (by omega)).2.2 6 (by omega), (a.2 48 (by omega) (by omega)).2.1 5 (by omega)]
    rcases q6 with z | ⟨z1, z2, z3, z4⟩
    · exact .inl z
    · exact .inr ⟨z1, z2, by rw [e50 _ (by omega)]; exact z3, z4⟩
theorem INq_0 (I : INq K p m q r κ G R0 R1 h t) (h448 : 448 ≤ hN h) (a : igH κ h h') (b : igT κ t t') (e4 : hI h' 48 4 = hI h 48 4) (e25 : hI t' 395 25 = hI t 395 25) : INq K p m q r κ G R0 R1 h' t' := by
  obtain ⟨x1, x2, x3, x4, x5, x6, x7, x8⟩ := INq_i (K' := K) I h448 a b (fun _ _ z => z) (fun _ _ z => .inl z) (Nat.le_refl _) I.1.2.2.1 (CT_i I.1.2.1 a b)
  exact ⟨x1, x2, PT_i I.2.2.1 h448 a b e4 e25, x3, x4, x5, x6, x7, x8⟩
/-- where the live kinds' shared values and the creatures change -/
theorem INq_k (I : INq K p m q r κ G R0 R1 h t) (kh : kpH p m h h') (kt : kpT t t') (U : RUNp K p m q' r κ h' t') (L : SL h' ∧ LA h' t' ∧ LRs h' t' K κ) (PT' : PT h' t' κ) (X : XTq h' t') (rf : rfsR h' t') (e87 : hR h' 8 7 = p) : INq K p m q' r κ G R0 R1 h' t' := by
  have R := I.1.1
  exact ⟨U, L, PT', PKs_k R.2.1 R.2.2.2.2.1 I.2.2.2.1 kh kt, GN_k R.2.1.1 I.2.2.2.2.1 kh kt, X, rf, e87, LT_k R.2.1 R.2.2.2.2.1 I.2.2.2.2.2.2.2.2 kh kt⟩
theorem tpR_g (T : tpR hc hr) (e1 : hI hc' 9 1 = hI hc 9 1) (e2 : ∀ j, hI hc' 10 j = hI hc 10 j) (e3 : hI hr' 395 1 = hI hr 395 1) (e4 : ∀ j, hI hr' 396 j = hI hr 396 j) : tpR hc' hr' := by
  obtain ⟨a, b, c⟩ := T
  refine ⟨by rw [e1, e3]; exact a, by rw [e1]; exact b, fun i hi => ?_⟩
  rw [e1] at hi
  rw [e2, e4]
  exact c i hi
theorem RQ_g (Q : RQ hc hr) (tp : tpR hc' hr') (lr : hI hr' 395 9 = 0 ∨ lrn hr') (nm : nmR hc' hr') (q7 : 0 ≤ hI hc' 15 7) (s : ∀ x, (x = 4 ∨ x = 5 ∨ x = 14) → sm hc hc' x) (t16 : hT hc' 16 = hT hc 16 ∧ hL hc' 16 = hL hc 16 ∧ hT hc' 17 = hT hc 17 ∧ hL hc' 17 = hL hc 17) (en : hN hc ≤ hN hc') : RQ hc' hr' := by
  obtain ⟨-, ⟨wk, ⟨⟨s1, s2, s3, s4, s5, s6⟩, c2, c3, c4⟩, hw⟩, -, -, t1, t2, -, n⟩ := Q
  have z4 := s 4 (by omega)
  have z5 := s 5 (by omega)
  have z14 := s 14 (by omega)
  exact ⟨tp, ⟨wk, ⟨⟨by rw [z4.2.2.1]; exact s1, by rw [z4.1]; exact s2, by rw [z4.2.1]; exact s3, by rw [z5.2.2.1]; exact s4, by rw [z5.2.2.2]; exact s5, fun i hi => by rw [z5.1]; exact s6 i hi⟩, by rw [z14.2.2.1]; exact c2, by rw [z14.2.2.2]; exact c3, fun i => by rw [z14.1]; exact c4 i⟩, hw⟩, lr, nm, by rw [t16.1, t16.2.1]; exact t1, by rw [t16.2.2.1, t16.2.2.2]; exact t2, q7, by omega⟩
theorem lrn_g (L : hI hr 395 9 = 0 ∨ lrn hr) (e9 : hI hr' 395 9 = hI hr 395 9) (e : ∀ j, hJ hr' 398 j = hJ hr 398 j) : hI hr' 395 9 = 0 ∨ lrn hr' := by
  rcases L with z | ⟨z1, z2⟩
  · exact .inl (by rw [e9]; exact z)
  · exact .inr ⟨by rw [e9]; exact z1, fun i hi => by rw [e]; exact z2 i hi⟩
theorem SCL_g (S : SCLq q hc hr) (e6 : hT hc' 6 = hT hc 6 ∧ hL hc' 6 = hL hc 6) (f : fltR hc' hr') (tl : tldR hc' hr') (e9 : hI hc' 8 9 = hI hc 8 9) (e59 : hI hr' 395 59 = hI hr 395 59) (e20 : ∀ c : Nat, c < q' → hI hc' 20 c = hI hr' 418 c) (e10 : hI hc' 8 10 = hI hc 8 10) (e30 : hI hr' 395 30 = hI hr 395 30) (e60 : hI hr' 395 60 = hI hr 395 60) : SCLq q' hc' hr' := by
  obtain ⟨s1, s2, s3, s4, s5, s6, s7⟩ := S
  exact ⟨by rw [e6.1, e6.2]; exact s1, f, tl, by rw [e9, e59]; exact s4, e20, by rw [e10, e30]; exact s6, by rw [e60]; exact s7⟩
theorem REL_r (I : RELn n hc hr) (k : kR hr hr') : RELn n hc hr' := by
  obtain ⟨K, p, m, q, r, κ, G, R0, R1, I, Q, S, g, ro⟩ := I
  have k5 : ∀ x j, 395 ≤ x → x < 448 → hI hr' x j = hI hr x j := fun x j x1 x2 => (k x j x1 x2).1
  have kJ : ∀ x j, 395 ≤ x → x < 448 → hJ hr' x j = hJ hr x j := fun x j x1 x2 => (k x j x1 x2).2
  refine ⟨K, p, m, q, r, κ, G, R0, R1, INq_0 I Q.2.2.2.2.2.2.2 igH_rf (fun x j x1 x2 _ => k5 x j x1 x2) rfl (k5 395 25 (by omega) (by omega)), ?_, ?_, g, ?_⟩
  · exact RQ_g Q (tpR_g Q.1 rfl (fun _ => rfl) (k5 395 1 (by omega) (by omega)) (fun j => k5 396 j (by omega) (by omega))) (lrn_g Q.2.2.1 (k5 395 9 (by omega) (by omega)) (fun j => kJ 398 j (by omega) (by omega))) (nmR_r Q.2.2.2.1 (k5 395 7 (by omega) (by omega)) (fun j => kJ 397 j (by omega) (by omega))) Q.2.2.2.2.2.2.1 (fun _ _ => sm_rf) ⟨rfl, rfl, rfl, rfl⟩ (Nat.le_refl _)
  · obtain ⟨s1, s2, s3, s4, s5, s6, s7⟩ := id S
    have kk : ∀ j, hI hr' 395 j = hI hr 395 j := fun j => k5 395 j (by omega) (by omega)
    exact SCL_g S ⟨rfl, rfl⟩ ⟨by rw [kk]; exact s2.1, by rw [kk]; exact s2.2⟩ ⟨by rw [kk]; exact s3.1, by rw [kk]; exact s3.2.1, by rw [kk]; exact s3.2.2⟩ rfl (kk 59) (fun c hc => by rw [k5 418 c (by omega) (by omega)]; exact s5 c hc) rfl (kk 30) (kk 60)
  · unfold ROq wtq at ro ⊢
    rw [k5 395 28 (by omega) (by omega)]
    exact ro
theorem REL_c (I : RELn n hc hr) (k : kCc hc hc') : RELn n hc' hr := by
  obtain ⟨K, p, m, q, r, κ, G, R0, R1, I, Q, S, g, ro⟩ := I
  obtain ⟨⟨k1, k2, k3, k4, k5⟩, k6⟩ := k
  have s : ∀ x, ¬ (395 ≤ x ∧ x < 448) → sm hc hc' x := fun x hx => ⟨fun j => k6 x j hx, fun j => by rw [k5], by rw [k1], by rw [k2]⟩
  refine ⟨K, p, m, q, r, κ, G, R0, R1, INq_0 I Q.2.2.2.2.2.2.2 ⟨by rw [k3]; exact Nat.le_refl _, fun x _ hx => ⟨⟨(s x hx).2.2.1, (s x hx).2.2.2⟩, fun j _ => (s x hx).2.1 j, fun j _ => (s x hx).1 j⟩⟩ igT_rf (k6 48 4 (by omega)) rfl, ?_, ?_, g, ?_⟩
  · exact RQ_g Q (tpR_g Q.1 (k6 9 1 (by omega)) (fun j => k6 10 j (by omega)) rfl (fun _ => rfl)) Q.2.2.1 (nmR_c Q.2.2.2.1 (k6 15 2 (by omega)) (fun j => k6 16 j (by omega))) (by rw [k6 15 7 (by omega)]; exact Q.2.2.2.2.2.2.1) (fun x hx => s x (by omega)) ⟨by rw [k1], by rw [k2], by rw [k1], by rw [k2]⟩ (Nat.le_of_eq k3.symm)
  · obtain ⟨s1, s2, s3, s4, s5, s6, s7⟩ := id S
    exact SCL_g S ⟨by rw [k1], by rw [k2]⟩ ⟨by rw [k6 15 4 (by omega)]; exact s2.1, by rw [k6 15 5 (by omega)]; exact s2.2⟩ ⟨by rw [k6 8 11 (by omega)]; exact s3.1, by rw [k6 8 12 (by omega)]; exact s3.2.1, by rw [k6 8 13 (by omega)]; exact s3.2.2⟩ (k6 8 9 (by omega)) rfl (fun c hc => by rw [k6 20 c (by omega)]; exact s5 c hc) (k6 8 10 (by omega)) rfl rfl
  · unfold ROq at ro ⊢
    rw [k3, k4]
    exact ro
theorem REL_n (I : RELn n hc hr) : RELn (n + 1) hc hr := by
  obtain ⟨K, p, m, q, r, κ, G, R0, R1, I, Q, S, g, ro⟩ := I
  refine ⟨K, p, m, q, r, κ, G, R0, R1, I, Q, S, by omega, ?_⟩
  unfold ROq at ro ⊢
  omega
/-- a call that both sides do alike -/
def OPq (C R : hS → Option (Int × hS)) : Prop := ∀ (n : Nat) (hc hr : hS), n < 512 → RELn n hc hr → ∃ v hc' hr', C hc = some (v, hc') ∧ R hr = some (v, hr') ∧ RELn (n + 1) hc' hr' ∧ kR hc hc' ∧ kCc hr hr'
theorem OP_t {C R : hS → Option (Int × hS)} (O : OPq C R) (n5 : n < 512) (I : RELn n h h) : ∃ h', (C h).bind (fun p => (R p.2).bind (fun q => some (decide (p.1 = q.1), q.2))) = some (true, h') ∧ RELn (n + 1) h' h' := by
  obtain ⟨v, hc', hr', e1, -, -, k, -⟩ := O n h h n5 I
  obtain ⟨v2, hc2, hr2, f1, f2, I2, -, k2⟩ := O n h hc' n5 (REL_r I k)
  have e : (v2, hc2) = (v, hc') := Option.some.inj (f1.symm.trans e1)
  obtain ⟨rfl, rfl⟩ : v2 = v ∧ hc2 = hc' := ⟨congrArg Prod.fst e, congrArg Prod.snd e⟩
  refine ⟨hr2, ?_, REL_c I2 k2⟩
  refine bnd f1 ?_
  refine bnd f2 ?_
  rw [decide_eq_true rfl]
theorem RD_t {C R : hS → Option Int} (O : ∀ hc hr, RELn n hc hr → ∃ v, C hc = some v ∧ R hr = some v) (I : RELn n h h) : ∃ h', (C h).bind (fun p => (R h).bind (fun q => some (decide (p = q), h))) = some (true, h') ∧ RELn (n + 1) h' h' := by
  obtain ⟨v, e1, e2⟩ := O h h I
  refine ⟨h, ?_, REL_n I⟩
  refine bnd e1 ?_
  refine bnd e2 ?_
  rw [decide_eq_true rfl]
end RLN
