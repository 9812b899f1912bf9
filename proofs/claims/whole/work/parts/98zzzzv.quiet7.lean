/-! the quiet point: all of it -/
section QU7
variable {h h' h0 h1 h2 h3 h6 h8 h9 hZ hY t t' t1 t2 t5 t6 t7 t9 tZ tY : hS} {K : Nat → Int → Prop} {p P m m1 q κ k pt S A qq N0 tx pk : Nat} {r r1 : Int → Nat} {G s fi : Int} {R0 R1 : Nat → Nat} {us Lc : List Nat}
theorem Q_ok (I : INq K p m q r κ G R0 R1 h t) (h448 : 448 ≤ hN h) (hk : k < κ) (e28 : hI t 395 28 = (k : Int)) (hpt : hR h 50 k = pt) (e5 : hR h 48 5 = pt) (p4 : 448 ≤ pt ∧ pt < hN h ∧ hT h pt = 26) (fb : fbI t 10 = 0) (h0 : hS) (e0 : h0 = sR h 48 5 0) (cl : ∀ (X : hS → Option (Nat × hS)) Y, mkX p pt X Y h0 = Y (hN h0) h6) (tl : ∀ t7, mkT (k : Int) t6 = some (1, t7) → c274 (k : Int) t = some (1, t7)) (B : CAB hZ tZ h0 K p (hN h0) m m1 q r r1 (G + 1) pt S A qq N0 tx pk us Lc fi) (fz : fw t tZ) (C : CYq hZ tZ (hN h0) m1 q 40 hY tY) (M : MVq tY t5 m1 q) (BB : CKB hY t5 K (hN h0) m1 q r1) (cH : ckH hY h6) (cT : ckT t5 t6) (e54 : hI t6 395 54 = 0) (rN : hN h0 ≤ hN hZ ∧ hM h0 ≤ hM hZ) (jq : JQr h0 h6) : ∃ h3 t3, (c139 p (fbI t 10) h).bind (fun v26 => (some (sR v26.2 8 7 v26.1)).bind (fun h27 => c165 h27)) = some h3 ∧ c273 t = some t3 ∧ INq K (hN h0) m1 q r1 κ (G + 1) R0 R1 h3 t3 ∧ QPc h h3 ∧ QPt t t3 ∧ hI t3 395 28 = -1 ∧ hN h3 = hN h6 ∧ hM h3 = hM h6 := by
  have PTh := I.2.2.1
  have k6 := PTh.2.2.1
  have U := I.1
  have T18 : hT h p = 18 := U.1.2.1.2.1.2.2.1
  have z0 : hN h0 = hN h ∧ hM h0 = hM h := by rw [e0]; exact ⟨rfl, rfl⟩
  obtain ⟨Gn1, Gn2, Gn3, Gn4, Gn5⟩ := I.2.2.2.2.1
  have X := I.2.2.2.2.2.1
  obtain ⟨⟨cHY, cTY⟩, -, D, -⟩ := id C
  have e27 : hI t6 395 27 = (G + 1) - 1 := by rw [cT.2 395 27 (by omega), M.1.2 395 27 (by omega), cTY.2 395 27 (by omega), fz.2 395 27 (by omega), Gn4]; omega
  obtain ⟨h8, t7, ev, mk, F, mH, mT, jj⟩ := FN_e (k := k) B fz C M BB cH cT e54 e27 rN
  obtain ⟨h9, e9⟩ : ∃ h9, h9 = sR h8 8 7 (hN h0) := ⟨_, rfl⟩
  obtain ⟨t9, et9⟩ : ∃ t9, t9 = sI (sI t7 402 k 2) 395 28 (-1) := ⟨_, rfl⟩
  have a := ok_H e0 mH e9
  have b := ok_T mT et9
  have PwO := U.1.2.1
  have pP : p + 1 < hN h0 := by rw [z0.1]; exact PwO.2.1.2.1
  have o9 : ∀ x j, ¬ (x = 395 ∧ j = 28) → ¬ (x = 402 ∧ j = k) → hI t9 x j = hI t7 x j := fun x j hx hy => by rw [et9, hI_sI, if_neg hx, hI_sI, if_neg hy]
  have w9 : wg t9 = wg t7 := by
    funext w v g
    exact o9 400 _ (by omega) (by omega)
  have qc8 : qcH h8 h9 := by rw [e9]; exact qc_87 _
  have qt7 : qcT t7 t9 := ⟨by rw [et9]; rfl, fun x j hx => o9 x j (by omega) (by omega)⟩
  have RT8 : RT h8 t7 K (hN h0) m1 q r1 := FN_RT B C M BB F (fun x v hx => by rw [z0.1]; exact (U.1.2.2.2.2.2 x v hx).1.2.1)
  have n8 : hN h8 = hN hZ ∧ hM h8 = hM hZ := F.1.2.2
  have RT9 : RT h9 t9 K (hN h0) m1 q r1 := RT_q RT8 qc8 qt7 (by have := rN.1; omega)
  have e54' : hI t9 395 54 = 0 := by rw [o9 395 54 (by omega) (by omega)]; exact F.2.2.2.2.2.2.2.2.2.2.2
  have U9 := ok_RUN U h448 a b p4.2.2 p4.1 RT9 e54'
  obtain ⟨C7, gens⟩ := FN_CF B C M F
  obtain ⟨-, k8, -, -⟩ := FN_PW B C M BB F
  have f1 := F.2.2.2.2.2
  have i9 : ∀ x j, hI h9 x j = hI h8 x j := fun x j => by rw [e9, hI_sR]
  have r9 : ∀ x j, ¬ (x = 8 ∧ j = 7) → hR h9 x j = hR h8 x j := fun x j hx => by rw [e9, hR_sR, if_neg hx]
  have k9 : ∀ u : Int, kd h9 (hN h0) u = kd hZ (hN h0) u := fun u => by
    rw [← k8]
    unfold kd
    split
    · rfl
    · exact r9 _ _ (by omega)
  obtain ⟨RTz, ⟨-, -, -, ⟨kb, -⟩, -⟩, -, ⟨hp26, -⟩, Sm, -⟩ := id B
  have rows : ∀ y j, (y = 403 ∨ (423 ≤ y ∧ y ≤ 437)) → hI t5 y j = hI t y j := fun y j hy => by rw [M.1.2 y j (by omega), cTY.2 y j (by omega), fz.2 y j (by omega)]
  have dy : ∀ l, l < 10 → ((hI t 423 l = 1 ∧ ∃ c : Nat, c < 40 ∧ hI t 426 l = (c : Int) ∧ hI h9 (215 + 4 * c) 1 = 0) → hI t9 423 l = 0 ∧ hI t9 431 l = 3) ∧ (¬ (hI t 423 l = 1 ∧ ∃ c : Nat, c < 40 ∧ hI t 426 l = (c : Int) ∧ hI h9 (215 + 4 * c) 1 = 0) → hI t9 423 l = hI t 423 l ∧ hI t9 431 l = hI t 431 l) := fun l hl => by
    rw [o9 423 l (by omega) (by omega), o9 431 l (by omega) (by omega), show h9 = sR h8 8 7 (hN h0) from e9]
    exact Q_dy U I.2.1.2.1 I.2.1.2.2 BB F rows hl
  have wT : ∀ v g : Int, 0 ≤ v → v < m → 0 ≤ g → g < 64 → wg tZ 0 v g = wg t 0 v g := fun v g v0 v1 g0 g1 => fw_w fz (.inl rfl) v0 (by have := PwO.1.2.1; omega) g0 g1
  have kz : ∀ u : Int, kd hZ p u = kd h p u := fun u => by
    unfold kd
    split
    · rfl
    · rw [(Sm (p + 1) pP).2.1, e0, hR_sR, if_neg (by have := U.1.2.2.2.2.1; omega)]
  have BK := FN_BK B C M BB F pP (fun j j0 j1 => by rw [wT j 2 j0 j1 (by omega) (by omega)]; have := Gn5 j j0 j1; omega) (fun j j0 j1 => by rw [kz, z0.1]; have := (PwO.2.2.1 j j0 j1).1.2.1; omega)
  have kh : kpH (hN h0) m1 h8 h9 := ⟨by rw [e9]; exact Nat.le_refl _, fun x x1 x2 => ⟨by rw [e9]; rfl, fun j => r9 x j (by omega), fun _ _ => ⟨fun j => i9 x j, fun j => r9 x j (by omega), by rw [e9]; rfl, by rw [e9]; rfl⟩⟩, ⟨⟨fun j => i9 _ j, fun j => r9 _ j (by omega), by rw [e9]; rfl, by rw [e9]; rfl⟩, ⟨fun j => i9 _ j, fun j => r9 _ j (by omega), by rw [e9]; rfl, by rw [e9]; rfl⟩, ⟨fun j => i9 _ j, fun j => r9 _ j (by omega), by rw [e9]; rfl, by rw [e9]; rfl⟩⟩, fun j => r9 50 j (by omega), ⟨i9 48 9, r9 48 7 (by omega), r9 48 8 (by omega)⟩⟩
  have kt := qc_kt qt7
  have BK9 := BK_k RT8.2.1 RT8.2.2.2.2.1 BK kh kt
  have k9p : ∀ u : Int, kd h9 p u = kd h p u := fun u => by
    unfold kd
    split
    · rfl
    · have pp := U.1.2.2.2.2.1
      have npt : p + 1 ≠ pt := fun z => by have := PwO.2.1.2.2.2.2.1; rw [z, p4.2.2] at this; omega
      rw [r9 _ _ (by omega), (F.2.1 (p + 1) (by omega)).2.1, (Sm (p + 1) pP).2.1, e0, hR_sR, if_neg (by omega)]
  have e50 : ∀ j, hR h9 50 j = hR h 50 j := fun j => (a.2 50 (by omega)).2.1 j (by omega)
  have Lt : LTq h9 t9 K (hN h0) m1 κ (G + 1) R0 R1 := .inr ⟨k, p, m, r, hk, by rw [o9 395 29 (by omega) (by omega)]; exact f1.2.2.1, by rw [r9 48 7 (by omega), e50, hpt]; exact f1.2.2.2.1, by rw [r9 48 8 (by omega)]; exact f1.2.2.2.2.1, BK9, fun kk hkk j j0 j1 => by rw [k9p]; exact (I.2.2.2.1 kk hkk).2.2 j j0 j1⟩
  obtain ⟨h3, c1, E, I3⟩ := ok_all I h448 hk hpt p4 a b U9 dy (by rw [i9]; exact f1.2.2.2.2.2.1) (by rw [et9, hI_sI, if_neg (by omega), hI_sI, if_pos ⟨rfl, rfl⟩]) (by rw [et9, hI_sI, if_pos ⟨rfl, rfl⟩]) (by
    rw [r9 48 5 (by omega), (mH.2 48 (by omega)).2.1 5 (by omega), e0, hR_sR, if_pos ⟨rfl, rfl⟩]) (fun j j0 j1 => by rw [k9]; have := kb j j0 j1; omega) ⟨CF_cg C7 (fun v g => by rw [w9]), by omega, by rw [i9]; exact f1.1, by rw [o9 395 27 (by omega) (by omega)]; exact f1.2.1, fun j j0 j1 => by rw [w9]; exact gens j j0 j1⟩ ⟨⟨by rw [(a.2 52 (by omega)).1.1]; exact X.1.1, by rw [(a.2 52 (by omega)).1.2]; exact X.1.2⟩, fun c n hc hn => by rw [i9, ((F.2.2.2.1 c hc).2.2 n hn).2.1]; exact (D c hc).2.2 n hn, fun j hj => by
      rw [o9 407 j (by omega) (by omega)]
      exact FN_407 cTY M F (fun j hj => by rw [fz.2 407 j (by omega)]; exact X.2.2 j hj) j hj⟩ (by rw [e9, hR_sR, if_pos ⟨rfl, rfl⟩]) Lt
  have n9 : hN h9 = hN hZ ∧ hM h9 = hM hZ := by rw [e9]; exact n8
  have n6 : hN h6 = hN hZ ∧ hM h6 = hM hZ := ⟨cH.1.2.2.2.1.trans cHY.1.2.2.2.1, cH.1.2.2.2.2.trans cHY.1.2.2.2.2⟩
  have jq9 : JQr h h9 := JQ_tr (JQ_eq (by rw [e0]; rfl) (by rw [z0.1]; exact Nat.le_refl _)) (JQ_tr jq (JQ_eq (by rw [e9]; exact jj) (by omega)))
  refine ⟨h3, t9, ?_, c273_m e28 fb ?_, I3, ok_QP a E h448 p4.1 jq9, ok_Qt b, by rw [et9, hI_sI, if_pos ⟨rfl, rfl⟩], E.1.2.2.2.1.trans (n9.1.trans n6.1.symm), E.1.2.2.2.2.trans (n9.2.trans n6.2.symm)⟩
  · rw [fb]
    refine bnd (c139_m (R := some (hN h0, h8)) e5 (by omega) T18 ?_) ?_
    · rw [← e0, cl]
      exact ev
    · rw [← e9]
      refine bnd rfl ?_
      exact c1
  · refine bnd (tl t7 mk) ?_
    rw [if_neg (show ¬ (1 : Int) = 0 by omega), c273_x (by omega), ← et9]
/-- the quiet point -/
theorem QPA (I : INq K p m q r κ G R0 R1 h t) (h448 : 448 ≤ hN h) (G1 : G ≤ 50000) : ∃ h' t' p' m' r' G', (c139 p (fbI t 10) h).bind (fun v26 => (some (sR v26.2 8 7 v26.1)).bind (fun h27 => c165 h27)) = some h' ∧ c273 t = some t' ∧ INq K p' m' q r' κ G' R0 R1 h' t' ∧ (G' = G ∨ G' = G + 1) ∧ QPc h h' ∧ QPt t t' ∧ ((hN h' = hN h ∧ hM h' = hM h) ∨ (hI t 395 28 ≠ -1 ∧ hI t' 395 28 = -1 ∧ hN h' ≤ hN h + 1224 ∧ hM h' ≤ hM h + 25112)) := by
  by_cases z : hI t 395 28 = -1 ∧ hR h 48 5 = 0
  · obtain ⟨h3, e1, e2, e3, e4, e5, e6⟩ := Q_no I h448 z.1 z.2 (fbI t 10)
    exact ⟨h3, t, p, m, r, G, e1, e2, e3, .inl rfl, e4, fp_rf, .inl ⟨e5, e6⟩⟩
  · by_cases fb : fbI t 10 = 0
    · obtain ⟨k, hk, e28, e5, p4, -⟩ := Q_w I z
      obtain ⟨pt, hpt⟩ : ∃ pt, hR h 50 k = pt := ⟨_, rfl⟩
      rw [hpt] at e5 p4
      obtain ⟨h0, e0⟩ : ∃ h0, h0 = sR h 48 5 0 := ⟨_, rfl⟩
      have z0 : hN h0 = hN h ∧ hM h0 = hM h := by rw [e0]; exact ⟨rfl, rfl⟩
      obtain ⟨S, A, qq, N0, us, Lc, f, Q⟩ := PR_i I G1 hk h448 hpt p4.2.2
      rw [← e0] at Q
      rcases MK_2 Q with ⟨h', t', a1, a2, a3, a4, a5, a6, ⟨a7, a8⟩, a9⟩ | ⟨hZ, tZ, hY, tY, t5, h6, t6, m1, r1, a1, a2, B, fz, C, M, BB, ⟨cH, cT⟩, e54, rN, n1, n2, jq⟩
      · obtain ⟨h3, t3, b1, b2, b3, b4, b5, b28, b6, b7⟩ := Q_st I h448 hk e28 hpt e5 p4 fb h0 e0 a1 a2 a3 a4 a5 a6 a9
        refine ⟨h3, t3, p, m, r, G, b1, b2, b3, .inl rfl, b4, b5, .inr ⟨by omega, b28, by omega, by omega⟩⟩
      · obtain ⟨h3, t3, b1, b2, b3, b4, b5, b28, b6, b7⟩ := Q_ok I h448 hk e28 hpt e5 p4 fb h0 e0 a1 a2 B fz C M BB cH cT e54 rN jq
        refine ⟨h3, t3, _, m1, r1, G + 1, b1, b2, b3, .inr rfl, b4, b5, .inr ⟨by omega, b28, by omega, by omega⟩⟩
    · obtain ⟨h3, t3, b1, b2, b3, b4, b5, b6, b7⟩ := Q_fb I h448 z fb
      exact ⟨h3, t3, p, m, r, G, b1, b2, b3, .inl rfl, b4, b5, .inl ⟨b6, b7⟩⟩
end QU7
