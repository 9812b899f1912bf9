/-! the quiet point: a patch has been made (2) -/
/-- a patch was made: the rest of the class -/
def okH (pt : Nat) (h h' : hS) : Prop := (hN h ≤ hN h' ∧ hM h ≤ hM h') ∧ ∀ x, x < hN h → (hT h' x = hT h x ∧ hL h' x = hL h x) ∧ (∀ j, ¬ (x = 24 ∨ x = 51 ∨ (53 ≤ x ∧ x < 213) ∨ (215 ≤ x ∧ x < 375) ∨ (x = 48 ∧ (j = 5 ∨ j = 7 ∨ j = 8)) ∨ (x = 8 ∧ j = 7)) → hR h' x j = hR h x j) ∧ ∀ j, ¬ ((x = 22 ∧ (j = 5 ∨ j = 7 ∨ j = 8 ∨ j = 9)) ∨ x = 25 ∨ x = 24 ∨ x = 52 ∨ (53 ≤ x ∧ x < 213) ∨ (x = 48 ∧ j = 9) ∨ (x = pt ∧ j = 1) ∨ (215 ≤ x ∧ x < 375)) → hI h' x j = hI h x j
def okT (k : Nat) (t t' : hS) : Prop := fp (fun x j => (x = 395 ∧ (j = 27 ∨ j = 28 ∨ j = 29 ∨ j = 39 ∨ j = 52 ∨ j = 54)) ∨ x = 400 ∨ (x = 402 ∧ j = k) ∨ (403 ≤ x ∧ x ≤ 407) ∨ (408 ≤ x ∧ x ≤ 410 ∧ j = 0) ∨ x = 417 ∨ x = 423 ∨ x = 431 ∨ (438 ≤ x ∧ x ≤ 447)) t t'
section QU6
variable {h h' h0 h1 h2 h3 h6 h8 h9 hZ hY t t' t1 t2 t5 t6 t7 t9 tZ tY : hS} {K : Nat → Int → Prop} {p P m m0 q κ k pt S A qq N0 tx pk : Nat} {r r0 : Int → Nat} {G s fi : Int} {R0 R1 : Nat → Nat} {us Lc : List Nat}
theorem ok_H (e0 : h0 = sR h 48 5 0) (a : mdH (hN h0) pt h0 h8) (e9 : h9 = sR h8 8 7 P) : okH pt h h9 := by
  have n0 : hN h0 = hN h ∧ hM h0 = hM h := by rw [e0]; exact ⟨rfl, rfl⟩
  obtain ⟨a1, a2⟩ := a
  rw [n0.1, n0.2] at a1
  rw [n0.1] at a2
  refine ⟨by rw [e9]; exact a1, fun x hx => ?_⟩
  obtain ⟨⟨b1, b2⟩, b3, b4⟩ := a2 x hx
  refine ⟨⟨by rw [e9]; exact b1.trans (by rw [e0]; rfl), by rw [e9]; exact b2.trans (by rw [e0]; rfl)⟩, fun j hj => ?_, fun j hj => ?_⟩
  · rw [e9, hR_sR, if_neg (by omega), b3 j (by omega), e0, hR_sR, if_neg (by omega)]
  · rw [e9, hI_sR, b4 j (by omega), e0, hI_sR]
theorem ok_T (a : mdT t t7) (e9 : t9 = sI (sI t7 402 k 2) 395 28 (-1)) : okT k t t9 := ⟨by rw [e9]; exact a.1, fun x j hx => by rw [e9, hI_sI, if_neg (by omega), hI_sI, if_neg (by omega), a.2 x j (by omega)]⟩
theorem ok_s (a : okH pt h h9) (x : Nat) (x1 : 375 ≤ x) (x2 : x < hN h) (x3 : x ≠ pt) : sm h h9 x := by
  obtain ⟨⟨b1, b2⟩, b3, b4⟩ := a.2 x x2
  exact ⟨fun j => b4 j (by omega), fun j => b3 j (by omega), b1, b2⟩
theorem ok_QP (a : okH pt h h9) (E : ENq h9 h3 10) (h448 : 448 ≤ hN h) (p4 : 448 ≤ pt) (jq : JQr h h9) : QPc h h3 := by
  obtain ⟨⟨c1, c2, c3, c4, c5⟩, c6, c7, -⟩ := E
  have i3 : ∀ x j, ¬ (375 ≤ x ∧ x < 395) → hI h3 x j = hI h9 x j := fun x j hx => c7 x j (fun w => by obtain ⟨l, w1, w2, -⟩ := w; omega)
  refine ⟨⟨by rw [c4]; exact a.1.1, by rw [c5]; exact a.1.2⟩, JQ_tr jq (JQ_eq c1 (by rw [c4]; exact Nat.le_refl _)), fun x hx => ?_⟩
  obtain ⟨⟨a1, a2⟩, a3, a4⟩ := a.2 x (by omega)
  refine ⟨⟨by rw [c2]; exact a1, by rw [c3]; exact a2⟩, fun j hj => by rw [c6]; exact a3 j (by omega), fun j hj => ?_⟩
  rw [i3 x j (by omega)]
  exact a4 j (by omega)
theorem ok_Qt (a : okT k t t9) : QPt t t9 := ⟨a.1, fun x j hx => a.2 x j (by omega)⟩
/-- the machine runs on in the new pond -/
theorem ok_RUN (U : RUNp K p m0 q r0 κ h t) (h448 : 448 ≤ hN h) (a : okH pt h h9) (b : okT k t t9) (p4 : hT h pt = 26) (p448 : 448 ≤ pt) (RT9 : RT h9 t9 K P m q r) (e54 : hI t9 395 54 = 0) : RUNp K P m q r κ h9 t9 := by
  obtain ⟨R, C, hk, ⟨f1, f2⟩, rn, n, -⟩ := U
  have g : ∀ x, x < 448 → (hT h9 x = hT h x ∧ hL h9 x = hL h x) ∧ _ := fun x hx => a.2 x (by omega)
  exact ⟨RT9, CT_s C (fun x x1 x2 x3 _ => ok_s a x (by omega) x2 (fun z => by rw [z] at x3; omega)) a.1.1 (fun j => b.2 399 j (by omega)), hk, ⟨fun e e1 e2 => ⟨by rw [(g 23 (by omega)).2.1 e (by omega)]; exact (f1 e e1 e2).1, by rw [(g (27 + e) (by omega)).1.1]; exact (f1 e e1 e2).2⟩, by rw [(g 24 (by omega)).1.1]; exact f2⟩, rnn_c rn (fun x j hx => (a.2 x (by omega)).2.2 j (by omega)) (fun x j hx => b.2 x j (by omega)), by rw [(a.2 22 (by omega)).2.2 11 (by omega), b.2 395 60 (by omega)]; exact n, e54⟩
/-- all that the quiet point needs, behind a patch that was made -/
theorem ok_all (I : INq K p m0 q r0 κ G R0 R1 h t) (h448 : 448 ≤ hN h) (hk : k < κ) (hpt : hR h 50 k = pt) (p4 : 448 ≤ pt ∧ pt < hN h ∧ hT h pt = 26) (a : okH pt h h9) (b : okT k t t9) (U9 : RUNp K P m q r κ h9 t9) (dy : ∀ l, l < 10 → ((hI t 423 l = 1 ∧ ∃ c : Nat, c < 40 ∧ hI t 426 l = (c : Int) ∧ hI h9 (215 + 4 * c) 1 = 0) → hI t9 423 l = 0 ∧ hI t9 431 l = 3) ∧ (¬ (hI t 423 l = 1 ∧ ∃ c : Nat, c < 40 ∧ hI t 426 l = (c : Int) ∧ hI h9 (215 + 4 * c) 1 = 0) → hI t9 423 l = hI t 423 l ∧ hI t9 431 l = hI t 431 l)) (v1 : hI h9 pt 1 = 2) (v2 : hI t9 402 k = 2) (v3 : hI t9 395 28 = -1) (v5 : hR h9 48 5 = 0) (kb : ∀ j : Int, 0 ≤ j → j < m → hN h ≤ kd h9 P j) (Gn : GNq h9 t9 m (G + 1)) (X : XTq h9 t9) (e87 : hR h9 8 7 = P) (Lt : LTq h9 t9 K P m κ (G + 1) R0 R1) : ∃ h3, c165 h9 = some h3 ∧ ENq h9 h3 10 ∧ INq K P m q r κ (G + 1) R0 R1 h3 t9 := by
  obtain ⟨U, ⟨Ss, La, LR⟩, PTh, Pk, -, -, rf, -, -⟩ := I
  have g : ∀ x, x < 448 → (hT h9 x = hT h x ∧ hL h9 x = hL h x) ∧ _ := fun x hx => a.2 x (by omega)
  have st : stq h h9 := ⟨a.1.1, fun x y1 y2 y3 => ok_s a x y1 y2 (fun z => y3 (by rw [z]; exact p4.2.2)), fun j => (g 21 (by omega)).2.1 j (by omega)⟩
  obtain ⟨h3, e1, E, S3, L3, R3⟩ := ENDS (t7 := t9) Ss La LR st h448 (fun y j h1 h2 h3 => b.2 y j (by omega)) (fun j => b.2 399 j (by omega)) (fun c hc => (U9.1.1.1 c hc).2.1) (fun c hc => (U9.1.2.2.2.1.2.2.2 c hc).1) dy (fun x v hx => (U.1.2.2.2.2.2 x v hx).1)
  refine ⟨h3, e1, E, Q_tl U9 E ⟨S3, L3, R3⟩ ?_ (fun kk hkk => ?_) Gn X ?_ e87 Lt (by have := a.1.1; omega)⟩
  · exact PT_st (s := 2) PTh hk a.1.1 (fun x hx => (a.2 x hx).1.1) (fun j => (g 50 (by omega)).2.1 j (by omega)) ((a.2 48 (by omega)).2.2 4 (by omega)) (fun x x1 x2 x3 => (a.2 x x2).2.2 1 (by omega)) (by rw [hpt]; exact v1) (b.2 395 25 (by omega)) (fun j _ jk => b.2 402 j (by omega)) v2 v3 v5
  · obtain ⟨q1, q2, q3⟩ := Pk kk hkk
    have n := q1.1
    have e50 : hR h9 50 kk = hR h 50 kk := (g 50 (by omega)).2.1 kk (by omega)
    have s6 : sm h h9 6 := ⟨fun j => (a.2 6 (by omega)).2.2 j (by omega), fun j => (g 6 (by omega)).2.1 j (by omega), (g 6 (by omega)).1.1, (g 6 (by omega)).1.2⟩
    refine ⟨PK_b q1 (fun y y0 y1 => ⟨(a.2 y (by omega)).1.1, fun z => ok_s a y (by omega) (by omega) (fun w => z (by rw [w]; exact p4.2.2))⟩) s6 ?_ (b.2 401 kk (by omega)) (fun j => b.2 399 j (by omega)) (by have := a.1.1; omega) (fun _ _ z => z), by rw [e50]; exact ⟨q2.1, by have := a.1.1; omega⟩, fun j j0 j1 => .inr (by have := kb j j0 j1; omega)⟩
    rw [e50]
    exact (a.2 _ q2.2).2.1 0 (by omega)
  · unfold rfsR
    rw [(a.2 48 (by omega)).2.2 10 (by omega), (a.2 48 (by omega)).2.2 11 (by omega), (a.2 48 (by omega)).2.2 12 (by omega), b.2 395 82 (by omega), b.2 395 83 (by omega), b.2 395 84 (by omega)]
    exact rf
end QU6
