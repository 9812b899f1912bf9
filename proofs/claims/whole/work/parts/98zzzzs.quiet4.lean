/-! the quiet point: a patch is made, or making it stops -/
section QU4
variable {h h' h0 h1 h2 h3 h6 hZ hY t t' t1 t2 t5 t6 t7 tZ tY : hS} {K : Nat → Int → Prop} {p P m m0 q κ k pt S A qq N0 tx pk : Nat} {r r0 : Int → Nat} {G s fi : Int} {R0 R1 : Nat → Nat} {us Lc : List Nat}
theorem qc_5 : qcH h (sR h 48 5 0) := ⟨⟨Nat.le_refl _, Nat.le_refl _⟩, JQ_eq rfl (Nat.le_refl _), fun x hx => ⟨⟨rfl, rfl⟩, fun j hj => by rw [hR_sR, if_neg (by omega)], fun j _ => by rw [hI_sR]⟩⟩
theorem PR_i (I : INq K p m q r κ G R0 R1 h t) (G1 : G ≤ 50000) (hk : k < κ) (h448 : 448 ≤ hN h) (hpt : hR h 50 k = pt) (T26 : hT h pt = 26) : ∃ (S A qq N0 : Nat) (us Lc : List Nat) (f : Nat), PRq (sR h 48 5 0) t K p m q r G k pt S A qq N0 us Lc f := by
  obtain ⟨U, -, PTh, Pk, Gn, ⟨x1, x2, x3⟩, -, -, -⟩ := I
  obtain ⟨q1, ⟨q2, q3⟩, -⟩ := Pk k hk
  rw [hpt] at q2 q3
  have s0 : ∀ x, x ≠ 48 → sm h (sR h 48 5 0) x := fun x hx => ⟨fun _ => rfl, fun j => by rw [hR_sR, if_neg (fun z => hx z.1)], rfl, rfl⟩
  have r0 : ∀ x j, ¬ (x = 48 ∧ j = 5) → hR (sR h 48 5 0) x j = hR h x j := fun x j hx => by rw [hR_sR, if_neg hx]
  have n1 := q1.1
  have Q0 : PKq (sR h 48 5 0) t K k (R0 k) (R1 k) := PK_b q1 (fun y y0 y1 => ⟨rfl, fun _ => s0 y (by omega)⟩) (s0 6 (by omega)) (by rw [r0 50 k (by omega), hpt, r0 pt 0 (by omega)]) rfl (fun _ => rfl) n1.2.2 (fun _ _ z => z)
  obtain ⟨S, A, qq, us, Lc, f, y1, y2, y3, y4, y5, y6, y7, y8, y9, y10, y11⟩ := PK_r Q0 h448
  rw [r0 50 k (by omega), hpt] at y1
  have k6 := PTh.2.2.1
  exact ⟨S, A, qq, R0 k, us, Lc, f, RT_q U.1 qc_5 fp_rf h448, Gn.1, ⟨⟨T26, y1⟩, ⟨q2, q3⟩, y2, y3, y4, y5, y6⟩, ⟨by omega, y7, y8, y9, y10, y11⟩, ⟨Gn.2.1, G1, Gn.2.2.1, Gn.2.2.2.1, Gn.2.2.2.2⟩, U.2.2.2.2.2.2, U.2.2.2.1.2, x1, x2, h448, x3⟩
/-- c139, when none is forbidden -/
theorem c139_m {R : Option (Nat × hS)} (n5 : hR h 48 5 = pt) (p8 : 8 ≤ pt) (T18 : hT h p = 18) (eR : mkX p pt (fun hx => (pI hx pt 26 1 4).bind (fun h8 => some (p, h8))) (fun P h6 => (lp (fun s => c139_b96 s.1 s.2) hF0 (0, h6)).bind (fun r18 => (some (sI r18 48 9 (wadd (hI r18 48 9) 1))).bind (fun h19 => (pI h19 pt 26 1 2).bind (fun h20 => (some (sR h20 48 7 pt)).bind (fun h21 => (some (sR h21 48 8 p)).bind (fun h22 => some (P, h22))))))) (sR h 48 5 0) = R) : c139 p 0 h = R := by
  unfold c139
  refine bnd (show hnul (hR h 48 5) = some false by rw [n5]; exact hnul_8 p8) ?_
  rw [if_neg (by decide), if_pos rfl, n5]
  refine bnd rfl ?_
  refine bnd (kT_s (show hT (sR h 48 5 0) p = 18 from T18)) ?_
  exact eR
theorem c273_m {R : Option hS} (e28 : hI t 395 28 = (k : Int)) (fb : fbI t 10 = 0) (eR : (c274 (k : Int) t).bind (fun v10 => if v10.1 = 0 then c273_j110 (k : Int) 4 v10.2 else c273_j110 (k : Int) 2 v10.2) = R) : c273 t = R := by
  have b13 : lp (fun s => c273_b13 t s.1 s.2) hF0 (0, 0) = some (fbI t 10) := b13_l 10 0 hF0 (by omega) (hF0_lt (by omega))
  unfold c273
  rw [if_neg (by omega)]
  refine bnd b13 ?_
  rw [if_pos fb, e28]
  exact eR
theorem c273_x (k6 : k < 6) : c273_j110 (k : Int) s t = some (sI (sI t 402 k s) 395 28 (-1)) := by
  unfold c273_j110
  refine bnd (wIs_s (by omega) (by omega)) ?_
  rw [Int.toNat_natCast]
  rfl
/-- making it has stopped -/
theorem Q_st (I : INq K p m q r κ G R0 R1 h t) (h448 : 448 ≤ hN h) (hk : k < κ) (e28 : hI t 395 28 = (k : Int)) (hpt : hR h 50 k = pt) (e5 : hR h 48 5 = pt) (p4 : 448 ≤ pt ∧ pt < hN h ∧ hT h pt = 26) (fb : fbI t 10 = 0) (h0 : hS) (e0 : h0 = sR h 48 5 0) (a : ∀ (X : hS → Option (Nat × hS)) Y, mkX p pt X Y h0 = X h') (b : c274 (k : Int) t = some (0, t')) (sc : scH (hN h0) h0 h') (st : scT t t') (e54 : hI t' 395 54 = 0) (ef : hI h' 48 10 = hI t' 395 82 ∧ hI h' 48 11 = hI t' 395 83 ∧ hI h' 48 12 = hI t' 395 84) (jq : JQr h0 h') : ∃ h3 t3, (c139 p (fbI t 10) h).bind (fun v26 => (some (sR v26.2 8 7 v26.1)).bind (fun h27 => c165 h27)) = some h3 ∧ c273 t = some t3 ∧ INq K p m q r κ G R0 R1 h3 t3 ∧ QPc h h3 ∧ QPt t t3 ∧ hI t3 395 28 = -1 ∧ hN h3 = hN h' ∧ hM h3 = hM h' := by
  have PTh := I.2.2.1
  have k6 := PTh.2.2.1
  have T18 : hT h p = 18 := I.1.1.2.1.2.1.2.2.1
  have z0 : hN h0 = hN h ∧ hM h0 = hM h := by rw [e0]; exact ⟨rfl, rfl⟩
  obtain ⟨sn, ss⟩ := sc
  rw [z0.1, z0.2] at sn
  rw [z0.1] at ss
  obtain ⟨h2, eh2⟩ : ∃ h2, h2 = sR (sI h' pt 1 4) 8 7 p := ⟨_, rfl⟩
  obtain ⟨t2, et2⟩ : ∃ t2, t2 = sI (sI t' 402 k 4) 395 28 (-1) := ⟨_, rfl⟩
  have i2 : ∀ x j, ¬ (x = pt ∧ j = 1) → hI h2 x j = hI h' x j := fun x j hx => by rw [eh2, hI_sR, hI_sI, if_neg hx]
  have r2 : ∀ x j, ¬ (x = 8 ∧ j = 7) → hR h2 x j = hR h' x j := fun x j hx => by rw [eh2, hR_sR, if_neg hx, hR_sI]
  have r0 : ∀ x j, ¬ (x = 48 ∧ j = 5) → hR h0 x j = hR h x j := fun x j hx => by rw [e0, hR_sR, if_neg hx]
  have i0 : ∀ x j, hI h0 x j = hI h x j := fun x j => by rw [e0, hI_sR]
  have T0 : ∀ x, hT h0 x = hT h x ∧ hL h0 x = hL h x := fun x => by rw [e0]; exact ⟨rfl, rfl⟩
  have T2 : ∀ x, hT h2 x = hT h' x ∧ hL h2 x = hL h' x := fun x => by rw [eh2]; exact ⟨rfl, rfl⟩
  have N2 : hN h2 = hN h' ∧ hM h2 = hM h' := by rw [eh2]; exact ⟨rfl, rfl⟩
  have o2 : ∀ x j, ¬ (x = 395 ∧ j = 28) → ¬ (x = 402 ∧ j = k) → hI t2 x j = hI t' x j := fun x j hx hy => by rw [et2, hI_sI, if_neg hx, hI_sI, if_neg hy]
  have b2 : qcT t t2 := ⟨by rw [et2]; exact st.1, fun x j hx => by rw [o2 x j (by omega) (by omega), st.2 x j (by omega)]⟩
  have q2 : qcH h h2 := by
    refine ⟨by rw [N2.1, N2.2]; exact sn, JQ_tr (JQ_eq (by rw [e0]; rfl) (by rw [z0.1]; exact Nat.le_refl _)) (JQ_tr jq (by rw [eh2]; exact JQ_eq rfl (Nat.le_refl _))), fun x hx => ?_⟩
    obtain ⟨⟨a1, a2⟩, a3, a4⟩ := ss x hx
    refine ⟨⟨by rw [(T2 x).1, a1, (T0 x).1], by rw [(T2 x).2, a2, (T0 x).2]⟩, fun j hj => by rw [r2 x j (by omega), a3 j (by omega), r0 x j (by omega)], fun j hj => ?_⟩
    rw [i2 x j (fun w => hj (.inr (.inr (.inr (.inr (.inr (.inr ⟨by omega, by rw [w.1]; exact p4.2.2, w.2⟩))))))), a4 j (by omega), i0]
  have g8 := ss 48 (by omega)
  have p2 : PT h2 t2 κ := PT_st (s := 4) PTh hk (by rw [N2.1]; exact sn.1) (fun x hx => by rw [(T2 x).1, (ss x hx).1.1, (T0 x).1]) (fun j => by rw [r2 50 j (by omega), (ss 50 (by omega)).2.1 j (by omega), r0 50 j (by omega)]) (by rw [i2 48 4 (by omega), g8.2.2 4 (by omega), i0]) (fun x x1 x2 x3 => by rw [i2 x 1 (fun w => x3 (w.1.trans hpt.symm)), (ss x x2).2.2 1 (by omega), i0]) (by rw [hpt, eh2, hI_sR, hI_sI, if_pos ⟨rfl, rfl⟩]) (by rw [o2 395 25 (by omega) (by omega), st.2 395 25 (by omega)]) (fun j _ jk => by rw [o2 402 j (by omega) (by omega), st.2 402 j (by omega)]) (by rw [et2, hI_sI, if_neg (by omega), hI_sI, if_pos ⟨rfl, rfl⟩]) (by rw [et2, hI_sI, if_pos ⟨rfl, rfl⟩]) (by rw [r2 48 5 (by omega), g8.2.1 5 (by omega), e0, hR_sR, if_pos ⟨rfl, rfl⟩])
  obtain ⟨h3, e1, I3, E⟩ := Q_gen (h2 := h2) (t1 := t2) I h448 q2 b2 (by rw [eh2, hR_sR, if_pos ⟨rfl, rfl⟩]) p2 (by
    unfold rfsR
    rw [i2 48 10 (by omega), i2 48 11 (by omega), i2 48 12 (by omega), o2 395 82 (by omega) (by omega), o2 395 83 (by omega) (by omega), o2 395 84 (by omega) (by omega)]
    exact ef) (by rw [o2 395 54 (by omega) (by omega)]; exact e54)
  refine ⟨h3, t2, ?_, c273_m e28 fb ?_, I3, QPc_q q2 E h448, QPt_q b2, by rw [et2, hI_sI, if_pos ⟨rfl, rfl⟩], E.1.2.2.2.1.trans N2.1, E.1.2.2.2.2.trans N2.2⟩
  · rw [fb]
    refine bnd (c139_m (R := some (p, sI h' pt 1 4)) e5 (by omega) T18 ?_) ?_
    · rw [← e0, a]
      refine bnd (pI_s (by rw [(ss pt p4.2.1).1.1, (T0 pt).1]; exact p4.2.2)) ?_
      rfl
    · rw [← eh2]
      refine bnd rfl ?_
      exact e1
  · refine bnd b ?_
    rw [if_pos rfl, c273_x (by omega), ← et2]
end QU4
