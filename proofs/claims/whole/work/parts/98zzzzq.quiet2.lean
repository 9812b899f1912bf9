/-! the quiet point: no patch is made -/
section QU2
variable {h h' h1 h2 h3 t t' t1 : hS} {K : Nat → Int → Prop} {p P m q κ : Nat} {r : Int → Nat} {G : Int} {R0 R1 : Nat → Nat}
theorem qc_kp (Pw : PW h t K p 0 m r) (a : qcH h h2) (E : ENq h2 h3 10) (h448 : 448 ≤ hN h) : kpH p m h h3 := by
  obtain ⟨⟨c1, c2, c3, c4, c5⟩, c6, c7, -⟩ := E
  have i3 : ∀ x j, ¬ (375 ≤ x ∧ x < 395) → hI h3 x j = hI h2 x j := fun x j hx => c7 x j (fun w => by obtain ⟨l, w1, w2, -⟩ := w; omega)
  have sl : ∀ x, x < hN h → ((448 ≤ x ∧ hT h x ≠ 26) ∨ (213 ≤ x ∧ x < 375)) → sm h h3 x := fun x hx z => by
    obtain ⟨s1, s2, s3, s4⟩ := qc_s a x hx (by omega)
    exact ⟨fun j => by rw [i3 x j (by omega)]; exact s1 j, fun j => by rw [c6]; exact s2 j, by rw [c2]; exact s3, by rw [c3]; exact s4⟩
  have g : ∀ x, x < 448 → (hT h2 x = hT h x ∧ hL h2 x = hL h x) ∧ _ := fun x hx => a.2.2 x (by omega)
  refine ⟨by rw [c4]; exact a.1.1, fun x x1 x2 => ⟨?_, fun j => ?_, fun x3 _ => sl x x2 (.inl ⟨x1, x3⟩)⟩, ⟨sl 213 (by omega) (by omega), sl 214 (by omega) (by omega), ?_⟩, fun j => ?_, ?_, ?_, ?_⟩
  · rw [c2]; exact (a.2.2 x x2).1.1
  · rw [c6]; exact (a.2.2 x x2).2.1 j (by omega)
  · exact ⟨fun j => by rw [i3 6 j (by omega)]; exact (g 6 (by omega)).2.2 j (by omega), fun j => by rw [c6]; exact (g 6 (by omega)).2.1 j (by omega), by rw [c2]; exact (g 6 (by omega)).1.1, by rw [c3]; exact (g 6 (by omega)).1.2⟩
  · rw [c6]; exact (g 50 (by omega)).2.1 j (by omega)
  · rw [i3 48 9 (by omega)]; exact (g 48 (by omega)).2.2 9 (by omega)
  · rw [c6]; exact (g 48 (by omega)).2.1 7 (by omega)
  · rw [c6]; exact (g 48 (by omega)).2.1 8 (by omega)
theorem qc_kt (b : qcT t t') : kpT t t' := ⟨fun j => b.2 399 j (by omega), fun j => b.2 401 j (by omega), ⟨b.2 395 27 (by omega), b.2 395 29 (by omega)⟩, fun v g v0 v1 g0 g1 _ => b.2 400 _ (by omega), fun v g v0 v1 g0 g1 => b.2 400 _ (by omega), b.2 400 _ (by omega)⟩
theorem PT_E (Q : PT h2 t κ) (E : ENq h2 h3 10) : PT h3 t κ := by
  obtain ⟨q1, q2, q3, q4, q5, q6⟩ := Q
  obtain ⟨⟨c1, c2, c3, c4, c5⟩, c6, c7, -⟩ := E
  have i3 : ∀ x j, ¬ (375 ≤ x ∧ x < 395) → hI h3 x j = hI h2 x j := fun x j hx => c7 x j (fun w => by obtain ⟨l, w1, w2, -⟩ := w; omega)
  refine ⟨by rw [i3 48 4 (by omega)]; exact q1, q2, q3, fun k hk => ?_, fun j k hj hk => ?_, ?_⟩
  · obtain ⟨⟨x1, x2, x3⟩, x4⟩ := q4 k hk
    rw [c6, c4, c2, i3 _ 1 (by omega)]
    exact ⟨⟨x1, x2, x3⟩, x4⟩
  · rw [c6, c6]
    exact q5 j k hj hk
  · rw [c6, c6, i3 48 6 (by omega)]
    exact q6
/-- behind a quiet point at which none was made -/
theorem Q_gen (I : INq K p m q r κ G R0 R1 h t) (h448 : 448 ≤ hN h) (a : qcH h h2) (b : qcT t t1) (e87 : hR h2 8 7 = p) (pt : PT h2 t1 κ) (rf : rfsR h2 t1) (e54 : hI t1 395 54 = 0) : ∃ h3, c165 h2 = some h3 ∧ INq K p m q r κ G R0 R1 h3 t1 ∧ ENq h2 h3 10 := by
  obtain ⟨U, ⟨Ss, La, LR⟩, -, Pk, Gn, ⟨x1, x2, x3⟩, -, -, Lt⟩ := I
  have Pw := U.1.2.1
  have U2 := RUN_q U a b h448 e54
  have g : ∀ x, x < 448 → (hT h2 x = hT h x ∧ hL h2 x = hL h x) ∧ _ := fun x hx => a.2.2 x (by omega)
  have st : stq h h2 := ⟨a.1.1, fun x y1 y2 y3 => qc_s a x y2 (by omega), fun j => (g 21 (by omega)).2.1 j (by omega)⟩
  have lc : ∀ c, c < 40 → hI h2 (215 + 4 * c) 1 = hI h (215 + 4 * c) 1 := fun c hc => (qc_s a _ (by omega) (by omega)).1 1
  obtain ⟨h3, e1, E, S3, L3, R3⟩ := ENDS (t7 := t1) Ss La LR st h448 (fun y j h1 h2 h3 => b.2 y j (by omega)) (fun j => b.2 399 j (by omega)) (fun c hc => by rw [(qc_s a _ (by omega) (by omega)).2.2.1]; exact (U.1.1.1 c hc).2.1) (fun c hc => by rw [lc c hc]; exact (U.1.2.2.2.1.2.2.2 c hc).1) (fun l hl => ⟨fun w => by
    obtain ⟨w1, c, w2, w3, w4⟩ := w
    obtain ⟨x, c', F, -⟩ := LR l hl w1
    obtain ⟨-, ⟨d1, d2, d3⟩, g1, -⟩ := F
    obtain rfl : c' = c := by omega
    rw [lc c' w2, d3] at w4
    omega, fun _ => ⟨b.2 423 l (by omega), b.2 431 l (by omega)⟩⟩) (fun x v hx => (U.1.2.2.2.2.2 x v hx).1)
  obtain ⟨⟨c1, c2, c3, c4, c5⟩, c6, c7, -⟩ := id E
  have i3 : ∀ x j, ¬ (375 ≤ x ∧ x < 395) → hI h3 x j = hI h2 x j := fun x j hx => c7 x j (fun w => by obtain ⟨l, w1, w2, -⟩ := w; omega)
  have ch : chg (fun x => (20 ≤ x ∧ x ≤ 47) ∨ (375 ≤ x ∧ x < 395)) h2 h3 := ⟨c1, c2, c3, c4, c5, fun x hx j => ⟨i3 x j (by omega), c6 x j⟩⟩
  have U3 : RUNp K p m q r κ h3 t1 := RUN_c U2 ch (fun _ _ _ => rfl) (fun j _ => c6 23 j) (rnn_c U2.2.2.2.2.1 (fun x j hx => i3 x j (by omega)) (fun _ _ _ => rfl)) (i3 22 11 (by omega))
  have kh := qc_kp Pw a E h448
  have kt := qc_kt b
  have hp := U.1.2.2.2.2.1
  refine ⟨h3, e1, ⟨U3, ⟨S3, L3, R3⟩, PT_E pt E, PKs_k Pw hp Pk kh kt, GN_k Pw.1 Gn kh kt, ⟨⟨by rw [c2]; exact (g 52 (by omega)).1.1.trans x1.1, by rw [c3]; exact (g 52 (by omega)).1.2.trans x1.2⟩, fun c n hc hn => ?_, fun j hj => ?_⟩, ?_, by rw [c6]; exact e87, LT_k Pw hp Lt kh kt⟩, E⟩
  · rw [i3 _ _ (by omega), (qc_s a _ (by omega) (by omega)).1]
    exact x2 c n hc hn
  · rw [b.2 407 j (by omega)]
    exact x3 j hj
  · unfold rfsR
    rw [i3 48 10 (by omega), i3 48 11 (by omega), i3 48 12 (by omega)]
    exact rf
end QU2
