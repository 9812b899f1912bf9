/-! the quiet point: none waits, it is forbidden, or making it stops -/
/-- what the quiet point leaves alone -/
def QPc (h h' : hS) : Prop := (hN h ≤ hN h' ∧ hM h ≤ hM h') ∧ JQr h h' ∧ ∀ x, x < 448 → (hT h' x = hT h x ∧ hL h' x = hL h x) ∧ (∀ j, ¬ (x = 24 ∨ x = 48 ∨ x = 51 ∨ (53 ≤ x ∧ x < 213) ∨ (215 ≤ x ∧ x < 375) ∨ (x = 8 ∧ j = 7)) → hR h' x j = hR h x j) ∧ ∀ j, ¬ ((x = 22 ∧ (j = 5 ∨ j = 7 ∨ j = 8 ∨ j = 9)) ∨ x = 24 ∨ x = 25 ∨ (x = 48 ∧ j ≠ 4) ∨ x = 52 ∨ (53 ≤ x ∧ x < 213) ∨ (215 ≤ x ∧ x < 395)) → hI h' x j = hI h x j
def QPt (t t' : hS) : Prop := fp (fun x j => (x = 395 ∧ (j = 26 ∨ j = 27 ∨ j = 28 ∨ j = 29 ∨ j = 39 ∨ j = 52 ∨ j = 54 ∨ j = 82 ∨ j = 83 ∨ j = 84)) ∨ x = 400 ∨ (402 ≤ x ∧ x ≤ 407) ∨ (408 ≤ x ∧ x ≤ 410 ∧ j = 0) ∨ x = 417 ∨ x = 423 ∨ x = 431 ∨ (438 ≤ x ∧ x ≤ 447)) t t'
section QU3
variable {h h' h0 h1 h2 h3 t t' t1 t2 : hS} {K : Nat → Int → Prop} {p P m q κ k : Nat} {r : Int → Nat} {G s : Int} {R0 R1 : Nat → Nat}
theorem QPc_q (a : qcH h h2) (E : ENq h2 h3 10) (h448 : 448 ≤ hN h) : QPc h h3 := by
  obtain ⟨⟨c1, c2, c3, c4, c5⟩, c6, c7, -⟩ := E
  have i3 : ∀ x j, ¬ (375 ≤ x ∧ x < 395) → hI h3 x j = hI h2 x j := fun x j hx => c7 x j (fun w => by obtain ⟨l, w1, w2, -⟩ := w; omega)
  refine ⟨⟨by rw [c4]; exact a.1.1, by rw [c5]; exact a.1.2⟩, JQ_tr a.2.1 (JQ_eq c1 (by rw [c4]; exact Nat.le_refl _)), fun x hx => ?_⟩
  obtain ⟨⟨a1, a2⟩, a3, a4⟩ := a.2.2 x (by omega)
  refine ⟨⟨by rw [c2]; exact a1, by rw [c3]; exact a2⟩, fun j hj => by rw [c6]; exact a3 j (by omega), fun j hj => ?_⟩
  rw [i3 x j (by omega)]
  exact a4 j (by omega)
theorem QPt_q (b : qcT t t') : QPt t t' := ⟨b.1, fun x j hx => b.2 x j (by omega)⟩
theorem PT_st (Q : PT h t κ) (hk : k < κ) (n : hN h ≤ hN h2) (eT : ∀ x, x < hN h → hT h2 x = hT h x) (e50 : ∀ j, hR h2 50 j = hR h 50 j) (e484 : hI h2 48 4 = hI h 48 4) (e1 : ∀ x, 448 ≤ x → x < hN h → x ≠ hR h 50 k → hI h2 x 1 = hI h x 1) (ek : hI h2 (hR h 50 k) 1 = s) (t25 : hI t2 395 25 = hI t 395 25) (t402 : ∀ j, j < κ → j ≠ k → hI t2 402 j = hI t 402 j) (tk : hI t2 402 k = s) (c : hI t2 395 28 = -1) (d : hR h2 48 5 = 0) : PT h2 t2 κ := by
  obtain ⟨q1, q2, q3, q4, q5, q6⟩ := Q
  refine ⟨by rw [e484]; exact q1, by rw [t25]; exact q2, q3, fun j hj => ?_, fun i j hi hj => by rw [e50, e50]; exact q5 i j hi hj, .inl ⟨c, d⟩⟩
  obtain ⟨⟨x1, x2, x3⟩, x4⟩ := q4 j hj
  rw [e50]
  refine ⟨⟨x1, by omega, by rw [eT _ x2]; exact x3⟩, ?_⟩
  by_cases z : j = k
  · rw [z, ek, tk]
  · rw [e1 _ x1 x2 (fun w => z (q5 j k hj hk w)), t402 j hj z]
    exact x4
theorem qc_87 (p : Nat) : qcH h (sR h 8 7 p) := ⟨⟨Nat.le_refl _, Nat.le_refl _⟩, JQ_eq rfl (Nat.le_refl _), fun x hx => ⟨⟨rfl, rfl⟩, fun j hj => by rw [hR_sR, if_neg (by omega)], fun j _ => by rw [hI_sR]⟩⟩
/-- none waits -/
theorem Q_no (I : INq K p m q r κ G R0 R1 h t) (h448 : 448 ≤ hN h) (e28 : hI t 395 28 = -1) (e5 : hR h 48 5 = 0) (fb : Int) : ∃ h', (c139 p fb h).bind (fun v26 => (some (sR v26.2 8 7 v26.1)).bind (fun h27 => c165 h27)) = some h' ∧ c273 t = some t ∧ INq K p m q r κ G R0 R1 h' t ∧ QPc h h' ∧ hN h' = hN h ∧ hM h' = hM h := by
  obtain ⟨h3, e1, I3, E⟩ := Q_gen (h2 := sR h 8 7 p) (t1 := t) I h448 (qc_87 p) fp_rf (by rw [hR_sR, if_pos ⟨rfl, rfl⟩]) (by
    obtain ⟨q1, q2, q3, q4, q5, q6⟩ := I.2.2.1
    have r : ∀ x j, ¬ (x = 8 ∧ j = 7) → hR (sR h 8 7 p) x j = hR h x j := fun x j hx => by rw [hR_sR, if_neg hx]
    refine ⟨q1, q2, q3, fun k hk => ?_, fun j k hj hk => ?_, .inl ⟨e28, by rw [r 48 5 (by omega)]; exact e5⟩⟩
    · rw [r 50 k (by omega), hI_sR]
      exact q4 k hk
    · rw [r 50 j (by omega), r 50 k (by omega)]
      exact q5 j k hj hk) (by
    have := I.2.2.2.2.2.2.1
    exact this) I.1.2.2.2.2.2.2
  refine ⟨h3, ?_, ?_, I3, QPc_q (qc_87 p) E h448, E.1.2.2.2.1, E.1.2.2.2.2⟩
  · refine bnd (show c139 p fb h = some (p, h) from ?_) ?_
    · unfold c139
      rw [e5]
      refine bnd hnul_0 ?_
      rw [if_pos rfl]
    · refine bnd rfl ?_
      exact e1
  · unfold c273
    rw [if_pos e28]
/-- a patch waits: the patch k -/
theorem Q_w (I : INq K p m q r κ G R0 R1 h t) (z : ¬ (hI t 395 28 = -1 ∧ hR h 48 5 = 0)) : ∃ k, k < κ ∧ hI t 395 28 = (k : Int) ∧ hR h 48 5 = hR h 50 k ∧ (448 ≤ hR h 50 k ∧ hR h 50 k < hN h ∧ hT h (hR h 50 k) = 26) ∧ hI h 48 6 = hI t 395 26 ∧ 0 ≤ hI h 48 6 ∧ hI h 48 6 ≤ 8 := by
  obtain ⟨q1, q2, q3, q4, q5, q6⟩ := I.2.2.1
  rcases q6 with w | ⟨w1, w2, w3, w4, w5, w6⟩
  · exact absurd w z
  · refine ⟨(hI t 395 28).toNat, by omega, by omega, w3, (q4 _ (by omega)).1, w4, w5, w6⟩
/-- it is forbidden -/
theorem Q_fb (I : INq K p m q r κ G R0 R1 h t) (h448 : 448 ≤ hN h) (z : ¬ (hI t 395 28 = -1 ∧ hR h 48 5 = 0)) (fb : fbI t 10 ≠ 0) : ∃ h' t', (c139 p (fbI t 10) h).bind (fun v26 => (some (sR v26.2 8 7 v26.1)).bind (fun h27 => c165 h27)) = some h' ∧ c273 t = some t' ∧ INq K p m q r κ G R0 R1 h' t' ∧ QPc h h' ∧ QPt t t' ∧ hN h' = hN h ∧ hM h' = hM h := by
  obtain ⟨k, hk, e28, e5, ⟨k1, k2, k3⟩, e6, b0, b8⟩ := Q_w I z
  have PTh := I.2.2.1
  have k6 := PTh.2.2.1
  have rf := I.2.2.2.2.2.2.1
  have e54 := I.1.2.2.2.2.2.2
  obtain ⟨pt, hpt⟩ : ∃ pt, hR h 50 k = pt := ⟨_, rfl⟩
  rw [hpt] at e5 k1 k2 k3
  obtain ⟨v, hv⟩ : ∃ v, hI h 48 6 = v := ⟨_, rfl⟩
  rw [hv] at e6 b0 b8
  have wv : wadd v 1 = v + 1 := wadd_e (by omega) (by omega)
  have n5 : hnul (hR h 48 5) = some false := by rw [e5]; exact hnul_8 (by omega)
  have nb : ¬ (false = true) := by decide
  have b13 : lp (fun s => c273_b13 t s.1 s.2) hF0 (0, 0) = some (fbI t 10) := b13_l 10 0 hF0 (by omega) (hF0_lt (by omega))
  obtain ⟨h23, e23⟩ : ∃ h23, h23 = sI h 48 6 (v + 1) := ⟨_, rfl⟩
  obtain ⟨t14, e14⟩ : ∃ t14, t14 = sI t 395 26 (v + 1) := ⟨_, rfl⟩
  have i23 : hI h23 48 6 = v + 1 := by rw [e23, hI_sI, if_pos ⟨rfl, rfl⟩]
  have i14 : hI t14 395 26 = v + 1 := by rw [e14, hI_sI, if_pos ⟨rfl, rfl⟩]
  have o14 : ∀ x j, ¬ (x = 395 ∧ j = 26) → hI t14 x j = hI t x j := fun x j hx => by rw [e14, hI_sI, if_neg hx]
  have topC : ∀ R, (if hI h23 48 6 < 8 then some (p, h23) else (pI h23 pt 26 1 3).bind (fun h25 => (some (sR h25 48 5 0)).bind (fun h26 => some (p, h26)))) = R → c139 p (fbI t 10) h = R := fun R eR => by
    unfold c139
    refine bnd n5 ?_
    rw [if_neg nb, if_neg fb, hv, wv, ← e23]
    refine bnd rfl ?_
    rw [e5]
    exact eR
  have topT : ∀ R, (if 8 ≤ hI t14 395 26 then (wIs t14 402 6 (k : Int) 3).bind (fun h16 => c273_j111 h16) else some t14) = R → c273 t = R := fun R eR => by
    unfold c273
    rw [if_neg (by omega)]
    refine bnd b13 ?_
    rw [if_neg fb, ← e6, wv, ← e14, e28]
    refine bnd rfl ?_
    exact eR
  by_cases c : v + 1 < 8
  · obtain ⟨h2, eh2⟩ : ∃ h2, h2 = sR h23 8 7 p := ⟨_, rfl⟩
    have i2 : ∀ x j, ¬ (x = 48 ∧ j = 6) → hI h2 x j = hI h x j := fun x j hx => by rw [eh2, hI_sR, e23, hI_sI, if_neg hx]
    have r2 : ∀ x j, ¬ (x = 8 ∧ j = 7) → hR h2 x j = hR h x j := fun x j hx => by rw [eh2, hR_sR, if_neg hx, e23, hR_sI]
    have q2 : qcH h h2 := ⟨⟨by rw [eh2, e23]; exact Nat.le_refl _, by rw [eh2, e23]; exact Nat.le_refl _⟩, by rw [eh2, e23]; exact JQ_eq rfl (Nat.le_refl _), fun x hx => ⟨⟨by rw [eh2, e23]; rfl, by rw [eh2, e23]; rfl⟩, fun j hj => r2 x j (by omega), fun j hj => i2 x j (by omega)⟩⟩
    have p2 : PT h2 t14 κ := by
      obtain ⟨q1, q2, q3, q4, q5, q6⟩ := PTh
      refine ⟨by rw [i2 48 4 (by omega)]; exact q1, by rw [o14 395 25 (by omega)]; exact q2, q3, fun j hj => ?_, fun j k hj hk => ?_, .inr ⟨by rw [o14 395 28 (by omega), e28]; omega, by rw [o14 395 28 (by omega), e28]; omega, ?_, ?_, ?_, ?_⟩⟩
      · obtain ⟨⟨x1, x2, x3⟩, x4⟩ := q4 j hj
        rw [r2 50 j (by omega), i2 _ 1 (by omega), o14 402 j (by omega), eh2, e23]
        exact ⟨⟨x1, x2, x3⟩, x4⟩
      · rw [r2 50 j (by omega), r2 50 k (by omega)]
        exact q5 j k hj hk
      · rw [r2 48 5 (by omega), r2 50 _ (by omega), o14 395 28 (by omega), e28, Int.toNat_natCast, e5, hpt]
      · rw [i14, eh2, hI_sR, i23]
      · rw [eh2, hI_sR, i23]; omega
      · rw [eh2, hI_sR, i23]; omega
    obtain ⟨h3, e1, I3, E⟩ := Q_gen (h2 := h2) (t1 := t14) I h448 q2 ⟨by rw [e14]; rfl, fun x j hx => o14 x j (by omega)⟩ (by rw [eh2, hR_sR, if_pos ⟨rfl, rfl⟩]) p2 (by
      unfold rfsR
      rw [i2 48 10 (by omega), i2 48 11 (by omega), i2 48 12 (by omega), o14 395 82 (by omega), o14 395 83 (by omega), o14 395 84 (by omega)]
      exact rf) (by rw [o14 395 54 (by omega)]; exact e54)
    refine ⟨h3, t14, ?_, topT _ (by rw [if_neg (by omega)]), I3, QPc_q q2 E h448, QPt_q ⟨by rw [e14]; rfl, fun x j hx => o14 x j (by omega)⟩, by rw [E.1.2.2.2.1, eh2, e23]; rfl, by rw [E.1.2.2.2.2, eh2, e23]; rfl⟩
    refine bnd (topC _ (by rw [if_pos (by omega)])) ?_
    rw [← eh2]
    refine bnd rfl ?_
    exact e1
  · obtain ⟨h2, eh2⟩ : ∃ h2, h2 = sR (sR (sI h23 pt 1 3) 48 5 0) 8 7 p := ⟨_, rfl⟩
    obtain ⟨t2, et2⟩ : ∃ t2, t2 = sI (sI t14 402 k 3) 395 28 (-1) := ⟨_, rfl⟩
    have i2 : ∀ x j, ¬ (x = 48 ∧ j = 6) → ¬ (x = pt ∧ j = 1) → hI h2 x j = hI h x j := fun x j hx hy => by rw [eh2, hI_sR, hI_sR, hI_sI, if_neg hy, e23, hI_sI, if_neg hx]
    have r2 : ∀ x j, ¬ (x = 8 ∧ j = 7) → ¬ (x = 48 ∧ j = 5) → hR h2 x j = hR h x j := fun x j hx hy => by rw [eh2, hR_sR, if_neg hx, hR_sR, if_neg hy, hR_sI, e23, hR_sI]
    have o2 : ∀ x j, ¬ (x = 395 ∧ (j = 26 ∨ j = 28)) → ¬ (x = 402 ∧ j = k) → hI t2 x j = hI t x j := fun x j hx hy => by rw [et2, hI_sI, if_neg (by omega), hI_sI, if_neg hy, o14 x j (by omega)]
    have T2 : ∀ x, hT h2 x = hT h x := fun x => by rw [eh2, e23]; rfl
    have q2 : qcH h h2 := ⟨⟨by rw [eh2, e23]; exact Nat.le_refl _, by rw [eh2, e23]; exact Nat.le_refl _⟩, by rw [eh2, e23]; exact JQ_eq rfl (Nat.le_refl _), fun x hx => ⟨⟨T2 x, by rw [eh2, e23]; rfl⟩, fun j hj => r2 x j (by omega) (by omega), fun j hj => i2 x j (by omega) (fun w => hj (.inr (.inr (.inr (.inr (.inr (.inr ⟨by omega, by rw [w.1]; exact k3, w.2⟩)))))))⟩⟩
    have b2 : qcT t t2 := ⟨by rw [et2, e14]; rfl, fun x j hx => o2 x j (by omega) (by omega)⟩
    have p2 : PT h2 t2 κ := PT_st (s := 3) PTh hk (by rw [eh2, e23]; exact Nat.le_refl _) (fun x _ => T2 x) (fun j => r2 50 j (by omega) (by omega)) (i2 48 4 (by omega) (by omega)) (fun x x1 _ x3 => i2 x 1 (by omega) (fun w => x3 (w.1.trans hpt.symm))) (by rw [hpt, eh2, hI_sR, hI_sR, hI_sI, if_pos ⟨rfl, rfl⟩]) (o2 395 25 (by omega) (by omega)) (fun j _ jk => o2 402 j (by omega) (by omega)) (by rw [et2, hI_sI, if_neg (by omega), hI_sI, if_pos ⟨rfl, rfl⟩]) (by rw [et2, hI_sI, if_pos ⟨rfl, rfl⟩]) (by rw [eh2, hR_sR, if_neg (by omega), hR_sR, if_pos ⟨rfl, rfl⟩])
    obtain ⟨h3, e1, I3, E⟩ := Q_gen (h2 := h2) (t1 := t2) I h448 q2 b2 (by rw [eh2, hR_sR, if_pos ⟨rfl, rfl⟩]) p2 (by
      unfold rfsR
      rw [i2 48 10 (by omega) (by omega), i2 48 11 (by omega) (by omega), i2 48 12 (by omega) (by omega), o2 395 82 (by omega) (by omega), o2 395 83 (by omega) (by omega), o2 395 84 (by omega) (by omega)]
      exact rf) (by rw [o2 395 54 (by omega) (by omega)]; exact e54)
    refine ⟨h3, t2, ?_, topT _ ?_, I3, QPc_q q2 E h448, QPt_q b2, by rw [E.1.2.2.2.1, eh2, e23]; rfl, by rw [E.1.2.2.2.2, eh2, e23]; rfl⟩
    · refine bnd (topC (some (p, sR (sI h23 pt 1 3) 48 5 0)) ?_) ?_
      · rw [if_neg (by omega)]
        refine bnd (pI_s (by rw [e23]; exact k3)) ?_
        rfl
      · rw [← eh2]
        refine bnd rfl ?_
        exact e1
    · rw [if_pos (by omega)]
      refine bnd (wIs_s (by omega) (by omega)) ?_
      rw [Int.toNat_natCast]
      unfold c273_j111
      rw [← et2]
      rfl
end QU3
