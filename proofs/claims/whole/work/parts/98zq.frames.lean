/-! acts that are open: frames beside levels -/
def FF (F0 e : Nat) : Nat := if e = 0 then F0 else 27 + e
/-- what a run of level d changes in the class -/
def RCc (p m F0 d : Nat) (h h' : hS) : Prop := (hJ h' = hJ h ∧ hT h' = hT h ∧ hL h' = hL h ∧ hN h' = hN h ∧ hM h' = hM h) ∧ (∀ x j, (∀ e, d ≤ e → e ≤ 20 → e ≠ 0 → x ≠ FF F0 e) → hR h' x j = hR h x j) ∧ ∀ x j, (∀ e, d ≤ e → e ≤ 20 → x ≠ FF F0 e) → ¬ ((x = 22 ∧ j ≠ 6 ∧ j ≠ 11) ∨ x = 25 ∨ x = 26 ∨ (215 ≤ x ∧ x < 375 ∧ (x - 215) % 4 ≠ 0 ∧ (x - 215) % 4 ≠ 2) ∨ ∃ u : Int, 0 ≤ u ∧ u < m ∧ x = kd h p u + 5) → hI h' x j = hI h x j
/-- what it changes on the other side -/
def RCr (d : Nat) (t t' : hS) : Prop := fp (fun x j => (x = 395 ∧ (j = 39 ∨ j = 40 ∨ j = 41 ∨ j = 42 ∨ j = 52 ∨ j = 54 ∨ j = 55 ∨ j = 66)) ∨ x = 417 ∨ (419 ≤ x ∧ x ≤ 422) ∨ x = 405 ∨ x = 406 ∨ (x = 400 ∧ j < 769 ∧ 35 ≤ (j + 63) % 64 ∧ (j + 63) % 64 < 39) ∨ (408 ≤ x ∧ x ≤ 413 ∧ d < j) ∨ (x = 410 ∧ j = d) ∨ (414 ≤ x ∧ x ≤ 416 ∧ 12 * (d + 1) ≤ j)) t t'
/-- the code of the act n of the kind at a -/
def cdo (h : hS) (a n : Nat) : Nat := hR h (a + 7) (hI h (a + 12) n).toNat
/-- the nearest kind above a that has the act n -/
def nxk (h : hS) (a n : Nat) : Nat := if hR h a 1 = 0 then 0 else hR h (hR h a 1 + 11) n
/-- from the kind at a on: k acts of the name n, beside the rows B N G from j on -/
def ACH (h : hS) (K : Nat → Int → Prop) (n : Nat) (B N G : Nat → Int) : Nat → Nat → Nat → Prop
  | 0, _, _ => False
  | k + 1, a, j => (KD h a ∧ (0 ≤ hI h (a + 12) n ∧ hI h (a + 12) n < 8) ∧ (hR h a 1 = 0 ∨ KD h (hR h a 1))) ∧ K (cdo h a n) (B j) ∧ hI h a 0 = N j ∧ hI h a 2 = G j ∧ ((k = 0 ∧ nxk h a n = 0) ∨ (nxk h a n ≠ 0 ∧ ACH h K n B N G k (nxk h a n) (j + 1)))
/-- the frame F beside level e: its code x, its creature c -/
def FRQ (hc hr : hS) (K : Nat → Int → Prop) (e F x c : Nat) : Prop := FCT hc F x ∧ (c < 40 ∧ hR hc F 0 = 215 + 4 * c ∧ hI hc (215 + 4 * c) 1 = 1) ∧ hI hr 408 e = (c : Int) ∧ hI hc F 6 = hI hr 409 e ∧ hI hc F 5 = hI hr 410 e ∧ ∃ n j k : Nat, (n < 40 ∧ hI hc F 2 = (n : Int) ∧ hI hr 413 e = (n : Int)) ∧ hI hr 412 e = (j : Int) ∧ hI hr 411 e = ((j + k : Nat) : Int) ∧ j + k ≤ 12 ∧ ACH hc K n (fun i => hI hr 414 (12 * e + i)) (fun i => hI hr 415 (12 * e + i)) (fun i => hI hr 416 (12 * e + i)) k (hR hc F 1) j ∧ K x (hI hr 414 (12 * e + j))
/-- where the first frame may lie -/
def F0k (F0 : Nat) : Prop := F0 = 24 ∨ (375 ≤ F0 ∧ F0 < 395)
section FRM
variable {h h' h1 t t' t1 : hS} {K : Nat → Int → Prop} {p m q κ F0 d d' e n k a j : Nat} {r : Int → Nat} {B N G B' N' G' : Nat → Int}
theorem FF_b (f : F0k F0) (e20 : e ≤ 20) : FF F0 e = 24 ∨ (28 ≤ FF F0 e ∧ FF F0 e ≤ 47) ∨ (375 ≤ FF F0 e ∧ FF F0 e < 395) := by
  unfold FF
  unfold F0k at f
  split <;> omega
theorem FF_ne (f : F0k F0) (n : e ≠ d) (e20 : e ≤ 20) (d20 : d ≤ 20) : FF F0 e ≠ FF F0 d := by
  unfold FF
  unfold F0k at f
  split <;> split <;> omega
theorem RCc_rf : RCc p m F0 d h h := ⟨⟨rfl, rfl, rfl, rfl, rfl⟩, fun _ _ _ => rfl, fun _ _ _ _ => rfl⟩
theorem RCc_kd (a : RCc p m F0 d h h') (f : F0k F0) (hp : p = 213 ∨ 448 ≤ p) (u : Int) : kd h' p u = kd h p u := by
  unfold kd
  split
  · rfl
  · exact a.2.1 _ _ (fun e _ e20 z => by have := FF_b (e := e) f e20; omega)
theorem RCc_tr (f : F0k F0) (hp : p = 213 ∨ 448 ≤ p) (a : RCc p m F0 d h h1) (b : RCc p m F0 d h1 h') : RCc p m F0 d h h' := by
  have hk := RCc_kd a f hp
  obtain ⟨⟨a1, a2, a3, a4, a5⟩, a6, a7⟩ := a
  obtain ⟨⟨b1, b2, b3, b4, b5⟩, b6, b7⟩ := b
  refine ⟨⟨b1.trans a1, b2.trans a2, b3.trans a3, b4.trans a4, b5.trans a5⟩, fun x j q => (b6 x j q).trans (a6 x j q), fun x j q w => (b7 x j q (fun z => w ?_)).trans (a7 x j q w)⟩
  rcases z with z | z | z | z | ⟨u, u0, u1, z⟩
  · exact .inl z
  · exact .inr (.inl z)
  · exact .inr (.inr (.inl z))
  · exact .inr (.inr (.inr (.inl z)))
  · exact .inr (.inr (.inr (.inr ⟨u, u0, u1, by rw [← hk]; exact z⟩)))
theorem RCc_mn (a : RCc p m F0 d' h h') (hd : d ≤ d') : RCc p m F0 d h h' := ⟨a.1, fun x j q => a.2.1 x j (fun e e1 => q e (by omega)), fun x j q w => a.2.2 x j (fun e e1 => q e (by omega)) w⟩
theorem RCr_rf : RCr d t t := fp_rf
theorem RCr_tr (a : RCr d t t1) (b : RCr d t1 t') : RCr d t t' := fp_tr a b
theorem RCr_mn (a : RCr d' t t') (hd : d ≤ d') : RCr d t t' := ⟨a.1, fun x j q => a.2 x j (fun z => q (by omega))⟩
theorem RCr_fe {nc : Nat} (a : fe nc t t') : RCr d t t' := ⟨a.1, fun x j q => a.2 x j (by omega)⟩
theorem RCr_n (a : RCr d t t') (tx i j : Nat) : ntx t' tx i j = ntx t tx i j := a.2 399 _ (by omega)
theorem RCc_ce {x : Nat} (C : FCT h (FF F0 d) x) (f : F0k F0) (d20 : d ≤ 20) (a : ceF (FF F0 d) h h') : RCc p m F0 d h h' := by
  have e2 := a.1
  refine ⟨⟨?_, ?_, ?_, ?_, ?_⟩, fun x j _ => ?_, fun x j q w => a.2 x j (fun z => ?_)⟩
  · show h'.2.2.1 = h.2.2.1; rw [e2]
  · show h'.2.2.2.1 = h.2.2.2.1; rw [e2]
  · show h'.2.2.2.2.1 = h.2.2.2.2.1; rw [e2]
  · show h'.2.2.2.2.2.1 = h.2.2.2.2.2.1; rw [e2]
  · show h'.2.2.2.2.2.2 = h.2.2.2.2.2.2; rw [e2]
  · show h'.2.1 x j = h.2.1 x j; rw [e2]
  · have := q d (Nat.le_refl _) d20
    rcases z with z | z | z
    · exact w (.inl (by omega))
    · exact w (.inr (.inl z))
    · exact this z.1
/-- a kind's own cells stay, but for its statics' values -/
theorem KD_rc (R : RT h t K p m q r) (f : F0k F0) (c : RCc p m F0 d h h') (Q : KD h a) : KD h' a ∧ ∀ o, o ≤ 12 → o ≠ 5 → sm h h' (a + o) := by
  obtain ⟨-, P, -, -, hp, -⟩ := R
  obtain ⟨⟨c1, c2, c3, c4, c5⟩, c6, c7⟩ := c
  have hR' : ∀ x j, 448 ≤ x → hR h' x j = hR h x j := fun x j hx => c6 x j (fun e _ e20 z => by have := FF_b (e := e) f e20; omega)
  refine ⟨⟨Q.1, by rw [c4]; exact Q.2.1, by rw [c2]; exact Q.2.2.1, fun e he => ?_⟩, fun o ho h5 => ⟨fun j => c7 _ j (fun e _ e20 z => by have := FF_b (e := e) f e20; have := Q.1; omega) (fun z => ?_), fun j => hR' _ j (by have := Q.1; omega), by rw [c2], by rw [c3]⟩⟩
  · have := Q.2.2.2 e he
    rw [hR' a e.1 Q.1, c2, c3]
    exact this
  · have := Q.1
    rcases z with z | z | z | z | ⟨u, u0, u1, z⟩
    · omega
    · omega
    · omega
    · omega
    · have Qu := (P.2.2.1 u u0 u1).1
      by_cases e : a = kd h p u
      · omega
      · have := KD_d Q Qu e
        omega
theorem ACH_c : ∀ {k a j : Nat}, ACH h K n B N G k a j → (∀ a, KD h a → KD h' a ∧ ∀ o, o ≤ 12 → o ≠ 5 → sm h h' (a + o)) → (∀ i, j ≤ i → i < j + k → B' i = B i ∧ N' i = N i ∧ G' i = G i) → ACH h' K n B' N' G' k a j
  | 0, _, _, Q, _, _ => Q
  | k + 1, a, j, ⟨⟨q1, q2, q3⟩, q4, q5, q6, q7⟩, e, er => by
    obtain ⟨e1, e2⟩ := e a q1
    have s0 := e2 0 (by omega) (by omega)
    rw [Nat.add_zero] at s0
    have s7 := e2 7 (by omega) (by omega)
    have s12 := e2 12 (by omega) (by omega)
    obtain ⟨r1, r2, r3⟩ := er j (Nat.le_refl _) (by omega)
    have hc : cdo h' a n = cdo h a n := by unfold cdo; rw [s7.2.1, s12.1]
    have hn : nxk h' a n = nxk h a n := by
      unfold nxk
      rw [s0.2.1]
      by_cases z : hR h a 1 = 0
      · rw [if_pos z, if_pos z]
      · rw [if_neg z, if_neg z]
        exact ((e _ (q3.resolve_left z)).2 11 (by omega) (by omega)).2.1 n
    refine ⟨⟨e1, by rw [s12.1]; exact q2, ?_⟩, by rw [hc, r1]; exact q4, by rw [s0.1, r2]; exact q5, by rw [s0.1, r3]; exact q6, ?_⟩
    · rw [s0.2.1]
      rcases q3 with z | z
      · exact .inl z
      · exact .inr (e _ z).1
    · rw [hn]
      rcases q7 with z | ⟨z, z2⟩
      · exact .inl z
      · exact .inr ⟨z, ACH_c z2 e (fun i h1 h2 => er i (by omega) (by omega))⟩
theorem ACH_k : ∀ {k a j : Nat}, ACH h K n B N G k a j → 1 ≤ k
  | 0, _, _, Q => False.elim Q
  | k + 1, _, _, _ => by omega
/-- a level below stays -/
theorem FRQ_lo {x c : Nat} (R : RT h t K p m q r) (f : F0k F0) (a : RCc p m F0 d h h') (b : RCr d t t') (Q : FRQ h t K e (FF F0 e) x c) (he : e < d) (d20 : d ≤ 20) : FRQ h' t' K e (FF F0 e) x c := by
  obtain ⟨⟨c1, c2, c3, c4, c5, c6⟩, ⟨d1, d2, d3⟩, g1, g2, g3, n, j, k, ⟨n1, n2, n3⟩, n4, n5, n6, n7, n8⟩ := Q
  have hF := FF_b (e := e) f (by omega)
  have nF : ∀ e', d ≤ e' → e' ≤ 20 → FF F0 e ≠ FF F0 e' := fun e' h1 h2 => FF_ne f (by omega) (by omega) h2
  obtain ⟨⟨a1, a2, a3, a4, a5⟩, a6, a7⟩ := id a
  have hk : ∀ u : Int, 0 ≤ u → u < m → 448 ≤ kd h p u := fun u u0 u1 => (R.2.1.2.2.1 u u0 u1).1.1
  have iF : ∀ j, hI h' (FF F0 e) j = hI h (FF F0 e) j := fun j => a7 _ j nF (fun z => by
    rcases z with z | z | z | z | ⟨u, u0, u1, z⟩
    · omega
    · omega
    · omega
    · omega
    · have := hk u u0 u1; omega)
  have rF : ∀ j, hR h' (FF F0 e) j = hR h (FF F0 e) j := fun j => a6 _ j (fun e1 e2 e3 _ => nF e1 e2 e3)
  refine ⟨⟨by rw [a2]; exact c1, by rw [rF]; exact c2, c3, by rw [a2]; exact c4, by rw [a3]; exact c5, c6⟩, ⟨d1, by rw [rF]; exact d2, ?_⟩, by rw [b.2 408 e (by omega)]; exact g1, by rw [iF, b.2 409 e (by omega)]; exact g2, by rw [iF, b.2 410 e (by omega)]; exact g3, n, j, k, ⟨n1, by rw [iF]; exact n2, by rw [b.2 413 e (by omega)]; exact n3⟩, by rw [b.2 412 e (by omega)]; exact n4, by rw [b.2 411 e (by omega)]; exact n5, n6, ?_, ?_⟩
  · rw [a7 (215 + 4 * c) 1 (fun e' _ e20 z => by have := FF_b (e := e') f e20; omega) (fun z => by
      rcases z with z | z | z | z | ⟨u, u0, u1, z⟩
      · omega
      · omega
      · omega
      · omega
      · have := hk u u0 u1; omega)]
    exact d3
  · rw [rF]
    refine ACH_c n7 (fun a2 Q2 => KD_rc R f a Q2) (fun i h1 h2 => ⟨b.2 414 _ (by omega), b.2 415 _ (by omega), b.2 416 _ (by omega)⟩)
  · rw [b.2 414 _ (by have := ACH_k n7; omega)]
    exact n8
theorem CT_rc (R : RT h t K p m q r) (f : F0k F0) (a : RCc p m F0 d h h') (b : RCr d t t') (C : CT h t K κ) : CT h' t' K κ := fun x v hx => by
  obtain ⟨c1, c2, c3, tx, fn, D, c4, c5, c6, c7, c8⟩ := C x v hx
  obtain ⟨⟨a1, a2, a3, a4, a5⟩, a6, a7⟩ := a
  refine ⟨c1, by omega, by rw [a2]; exact c3, tx, fn, D, c4, BK_c1 c5 (fun i _ j _ => RCr_n b tx i j), c6, by rw [a3]; exact c7, fun i z hz => ?_⟩
  rw [a7 x i (fun e _ e20 z => by have := FF_b (e := e) f e20; omega) (fun z => by
    rcases z with z | z | z | z | ⟨u, u0, u1, z⟩
    · omega
    · omega
    · omega
    · omega
    · have := (R.2.2.2.2.2 x v hx).2 u u0 u1; omega)]
  exact c8 i z hz
end FRM
