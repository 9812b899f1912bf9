/-! word -/
section WRD
variable {n : Nat} {b wk : Nat → Int} {hc hr hcX hrX : hS} {l : Nat}
theorem mt_4 {s : Int} (v : VS s ∨ s = 4) : mt s = 0 ↔ s = 4 := by
  constructor
  · intro e
    rcases v with (w | w | w | w | w | w) | w
    · subst w; exact absurd (show (2 : Int) = 0 from e) (by omega)
    · subst w; exact absurd (show (3 : Int) = 0 from e) (by omega)
    · subst w; exact absurd (show (1 : Int) = 0 from e) (by omega)
    · subst w; exact absurd (show (201 : Int) = 0 from e) (by omega)
    · unfold mt at e
      rw [if_neg (by omega), if_neg (by omega), if_neg (by omega), if_neg (by omega), if_neg (by omega), if_pos (by omega)] at e
      omega
    · have := (sgn_or s).mp w
      rw [mt_s w] at e; omega
    · exact w
  · intro e
    rw [e]; rfl
/-- what word leaves as it was -/
def WD (hc hr hc' hr' : hS) : Prop := lrn hr' ∧ nmR hc' hr' ∧ tpR hc' hr' ∧ fp (fun x j => x = 11 ∨ x = 12 ∨ x = 13 ∨ x = 16 ∨ (x = 9 ∧ (j = 5 ∨ j = 1)) ∨ (x = 15 ∧ (j = 2 ∨ j = 3))) hc hc' ∧ hr'.2.1 = hr.2.1 ∧ hr'.2.2.2 = hr.2.2.2 ∧ hI hr' 395 11 = 0 ∧ (∀ x j, ¬ (x = 395 ∧ (j = 1 ∨ j = 2 ∨ j = 3 ∨ j = 4 ∨ j = 5 ∨ j = 7 ∨ j = 9 ∨ j = 11 ∨ j = 12 ∨ j = 16 ∨ j = 17 ∨ j = 18 ∨ j = 20)) → hI hr' x j = hI hr x j) ∧ (∀ x j, ¬ (x = 397 ∨ x = 398 ∨ (x = 395 ∧ j = 10)) → hJ hr' x j = hJ hr x j)
theorem j41_e {s l1 l2 : Int} : c235_j41 s l1 l2 hr = some (if s = 0 then -1 else hI hr 395 17, sI (sI (sI (sI hr 395 11 0) 395 1 0) 395 13 l1) 395 14 l2) := by
  have e : hI (sI (sI (sI (sI hr 395 11 0) 395 1 0) 395 13 l1) 395 14 l2) 395 17 = hI hr 395 17 := by
    rw [hI_sI, if_neg (by omega), hI_sI, if_neg (by omega), hI_sI, if_neg (by omega), hI_sI, if_neg (by omega)]
  unfold c235_j41
  simp only [bsome]
  rw [e]
  by_cases c : s = 0
  · rw [if_pos c, if_pos c]
  · rw [if_neg c, if_neg c]
theorem wfin (W : lrn hrX) (N : nmR hcX hrX) (e91 : hI hcX 9 1 = 0) (f : fp (fun x j => x = 11 ∨ x = 12 ∨ x = 13 ∨ x = 16 ∨ (x = 9 ∧ (j = 5 ∨ j = 1)) ∨ (x = 15 ∧ (j = 2 ∨ j = 3))) hc hcX) (eR : hrX.2.1 = hr.2.1) (eT : hrX.2.2.2 = hr.2.2.2) (fI : ∀ x j, ¬ (x = 395 ∧ (j = 1 ∨ j = 2 ∨ j = 3 ∨ j = 4 ∨ j = 5 ∨ j = 7 ∨ j = 9 ∨ j = 11 ∨ j = 12 ∨ j = 16 ∨ j = 17 ∨ j = 18 ∨ j = 20)) → hI hrX x j = hI hr x j) (fJ : ∀ x j, ¬ (x = 397 ∨ x = 398 ∨ (x = 395 ∧ j = 10)) → hJ hrX x j = hJ hr x j) : WD hc hr hcX (sI (sI (sI (sI hrX 395 11 0) 395 1 0) 395 13 (hI hr 395 13)) 395 14 (hI hr 395 14)) := by
  have o : ∀ x j, ¬ (x = 395 ∧ (j = 1 ∨ j = 11 ∨ j = 13 ∨ j = 14)) → hI (sI (sI (sI (sI hrX 395 11 0) 395 1 0) 395 13 (hI hr 395 13)) 395 14 (hI hr 395 14)) x j = hI hrX x j := by
    intro x j hx
    rw [hI_sI, if_neg (by omega), hI_sI, if_neg (by omega), hI_sI, if_neg (by omega), hI_sI, if_neg (by omega)]
  have o1 : hI (sI (sI (sI (sI hrX 395 11 0) 395 1 0) 395 13 (hI hr 395 13)) 395 14 (hI hr 395 14)) 395 1 = 0 := by
    rw [hI_sI, if_neg (by omega), hI_sI, if_neg (by omega), hI_sI, if_pos ⟨rfl, rfl⟩]
  have o11 : hI (sI (sI (sI (sI hrX 395 11 0) 395 1 0) 395 13 (hI hr 395 13)) 395 14 (hI hr 395 14)) 395 11 = 0 := by
    rw [hI_sI, if_neg (by omega), hI_sI, if_neg (by omega), hI_sI, if_neg (by omega), hI_sI, if_pos ⟨rfl, rfl⟩]
  have o13 : hI (sI (sI (sI (sI hrX 395 11 0) 395 1 0) 395 13 (hI hr 395 13)) 395 14 (hI hr 395 14)) 395 13 = hI hr 395 13 := by
    rw [hI_sI, if_neg (by omega), hI_sI, if_pos ⟨rfl, rfl⟩]
  have o14 : hI (sI (sI (sI (sI hrX 395 11 0) 395 1 0) 395 13 (hI hr 395 13)) 395 14 (hI hr 395 14)) 395 14 = hI hr 395 14 := by
    rw [hI_sI, if_pos ⟨rfl, rfl⟩]
  have oJ : ∀ x j, hJ (sI (sI (sI (sI hrX 395 11 0) 395 1 0) 395 13 (hI hr 395 13)) 395 14 (hI hr 395 14)) x j = hJ hrX x j := fun _ _ => rfl
  have oR : (sI (sI (sI (sI hrX 395 11 0) 395 1 0) 395 13 (hI hr 395 13)) 395 14 (hI hr 395 14)).2.1 = hrX.2.1 := rfl
  have oT : (sI (sI (sI (sI hrX 395 11 0) 395 1 0) 395 13 (hI hr 395 13)) 395 14 (hI hr 395 14)).2.2.2 = hrX.2.2.2 := rfl
  generalize sI (sI (sI (sI hrX 395 11 0) 395 1 0) 395 13 (hI hr 395 13)) 395 14 (hI hr 395 14) = hZ at o o1 o11 o13 o14 oJ oR oT ⊢
  refine ⟨⟨?_, ?_⟩, ⟨⟨?_, N.1.2⟩, ?_⟩, ⟨?_, ?_, ?_⟩, f, oR.trans eR, oT.trans eT, o11, ?_, ?_⟩
  · rw [o 395 9 (by omega)]; exact W.1
  · intro i hi; rw [oJ]; exact W.2 i hi
  · rw [o 395 7 (by omega)]; exact N.1.1
  · intro i hi; rw [oJ]; exact N.2 i hi
  · rw [e91, o1]
  · rw [e91]; omega
  · intro i hi; rw [e91] at hi; omega
  · intro x j hx
    by_cases c : x = 395 ∧ (j = 13 ∨ j = 14)
    · obtain ⟨rfl, c | c⟩ := c
      · rw [c]; exact o13
      · rw [c]; exact o14
    · rw [o x j (by omega), fI x j hx]
  · intro x j hx
    rw [oJ, fJ x j hx]
theorem api2 (TP : tpR hc hr) (X : CTX hc wk) (hw : ∀ i : Nat, i < 22 → wk i = wkf i) (H : hI hr 395 9 = 0 ∨ lrn hr) (N : nmR hc hr) (t16 : hT hc 16 = 1) (l16 : hL hc 16 = 40) : ∃ v hc' hr', c23 hc = some (v, hc') ∧ c235 hr = some (v, hr') ∧ WD hc hr hc' hr' := by
  obtain ⟨n, hn⟩ : ∃ n : Nat, (n : Int) = hI hc 9 1 := ⟨(hI hc 9 1).toNat, by have := TP.2.1.1; omega⟩
  obtain ⟨p1, p2, p3⟩ := TP
  have TC : txc hc n (fun i => hI hc 10 i) := ⟨hn.symm, by omega, fun i hi => ⟨rfl, (p3 i (by omega)).2⟩⟩
  have TR : txr hr n (fun i => hI hc 10 i) := ⟨by rw [← p1]; exact hn.symm, by omega, fun i hi => ⟨(p3 i (by omega)).1.symm, (p3 i (by omega)).2⟩⟩
  generalize (fun i => hI hc 10 i) = b at TC TR
  obtain ⟨h1, a1, a2, a3, a4⟩ := c25_e TC X
  rw [tokb_congr hw] at a2
  obtain ⟨hr1, b1, b2, b3, b4, b5, b6, b7, b8, -, -, -, b9, b10⟩ := c184_e TR H
  have K2 : TKA (sI h1 15 3 0) (TK n b) := TKA_cg a2 (fun x j hx => by rw [hI_sI, if_neg (by omega)])
  have R : RD n b 0 (sI h1 15 3 0) hr1 := ⟨K2, by rw [hI_sI, if_pos ⟨rfl, rfl⟩]; rfl, by unfold TK; rw [List.length_append]; simp, b2, b4, b3⟩
  have f2 : fp (fun x j => x = 11 ∨ x = 12 ∨ x = 13 ∨ x = 16 ∨ (x = 9 ∧ (j = 5 ∨ j = 1)) ∨ (x = 15 ∧ (j = 2 ∨ j = 3))) hc (sI h1 15 3 0) := fp_tr ⟨a4.1, fun x j hx => a4.2 x j (by omega)⟩ (fp_sI (by omega))
  have N2 : nmR (sI h1 15 3 0) hr1 := by
    have g2 : hI (sI h1 15 3 0) 15 2 = hI hc 15 2 := by rw [hI_sI, if_neg (by omega), a4.2 15 2 (by omega)]
    refine ⟨⟨?_, ?_, ?_⟩, ?_⟩
    · rw [g2, b9 395 7 (by omega)]; exact N.1.1
    · rw [g2]; exact N.1.2.1
    · rw [g2]; exact N.1.2.2
    · intro i hi
      rw [g2] at hi
      rw [hI_sI, if_neg (by omega), a4.2 16 i (by omega), b10 397 i (by omega)]
      exact N.2 i hi
  have e91 : hI (sI h1 15 3 0) 9 1 = 0 := by rw [hI_sI, if_neg (by omega)]; exact a3
  have t2 : hT (sI h1 15 3 0) 16 = 1 := by
    have : hT (sI h1 15 3 0) = hT hc := by show h1.2.2.2.1 = hc.2.2.2.1; rw [a4.1]
    rw [this]; exact t16
  have l2 : hL (sI h1 15 3 0) 16 = 40 := by
    have : hL (sI h1 15 3 0) = hL hc := by show h1.2.2.2.2.1 = hc.2.2.2.2.1; rw [a4.1]
    rw [this]; exact l16
  unfold c23 c24 c235
  rw [a1, b1]
  simp only [bsome]
  generalize sI h1 15 3 0 = h2 at K2 R f2 N2 e91 t2 l2 ⊢
  obtain ⟨s0, a, v, q1, q2, q3, q4, q5, q6, q7, q8, -⟩ := RD_at R
  have r2 := R.2.1
  have r3 := R.2.2.1
  have hm := mt_1 (VS_or q2)
  have hnn := TR.2.1
  have hl := TK_len (n := n) (b := b)
  have fI1 : ∀ x j, ¬ (x = 395 ∧ (j = 1 ∨ j = 2 ∨ j = 3 ∨ j = 4 ∨ j = 5 ∨ j = 7 ∨ j = 9 ∨ j = 11 ∨ j = 12 ∨ j = 16 ∨ j = 17 ∨ j = 18 ∨ j = 20)) → hI hr1 x j = hI hr x j := fun x j hx => b9 x j (by omega)
  have fJ1 : ∀ x j, ¬ (x = 397 ∨ x = 398 ∨ (x = 395 ∧ j = 10)) → hJ hr1 x j = hJ hr x j := fun x j hx => b10 x j (by omega)
  rw [q3, q4]
  simp only [bsome]
  by_cases z : s0 = 1
  · rw [if_pos z, if_pos (hm.mpr z)]
    have ea : aIs h2 13 1001 (hI h2 15 3) = some v := by
      rw [r2, aIs_s (by omega) (by omega), Int.toNat_natCast, q7]
    have e40 := c40_e N2.1 t2 l2 v
    have e45 : c45 h2 = (c40 v h2).bind (fun v4 => if v4.1 = -1 then (c46 3 (hI v4.2 15 3) v4.2).bind (fun v7 => some (-1, v7.2)) else (some (sI v4.2 15 3 (wadd (hI v4.2 15 3) 1))).bind (fun h6 => some (v4.1, h6))) := by
      unfold c45
      rw [q3]
      simp only [bsome]
      rw [if_pos z, ea]
      rfl
    rw [ea]
    simp only [bsome]
    obtain ⟨X0, hX⟩ : ∃ X0, c40 v h2 = some X0 := ⟨_, e40⟩
    rw [hX] at e40 e45 ⊢
    simp only [bsome] at e45 ⊢
    have hf : X0.1 = -1 → X0.2 = h2 := by
      intro w
      have e := Option.some.inj e40
      rcases nix_b (hc := h2) v with y | y
      · rw [if_pos y] at e
        by_cases y2 : 40 ≤ hI h2 15 2
        · rw [if_pos y2] at e; rw [e]
        · rw [if_neg y2] at e
          rw [e] at w
          have : hI h2 15 2 = -1 := w
          have := N2.1.2.1
          omega
      · rw [if_neg (by omega)] at e
        rw [e]
    rcases name_e R b7 N2 t2 l2 with ⟨m, hc', hr', k1, k2, k3, k4, k5, k6, k7, k8⟩ | ⟨f, a', -, k1, k2⟩
    · by_cases w : X0.1 = -1
      · exfalso
        rw [e45, if_pos w] at k1
        obtain ⟨u, hu⟩ : ∃ u, c46 3 (hI X0.2 15 3) X0.2 = some u := by
          rw [hf w, r2]; exact ⟨_, c46_e (a := a) R.1 hnn q1⟩
        rw [hu] at k1
        have := congrArg (fun o : Int × hS => o.1) (Option.some.inj k1)
        have : (-1 : Int) = m := this
        omega
      · rw [e45, if_neg w] at k1
        have k1' := Option.some.inj k1
        have m1 : X0.1 = m := congrArg (fun o : Int × hS => o.1) k1'
        have m2 : sI X0.2 15 3 (wadd (hI X0.2 15 3) 1) = hc' := congrArg (fun o : Int × hS => o.2) k1'
        rw [m1, m2, k2]
        simp only [bsome]
        rw [if_neg (show ¬ (1 : Int) = 0 by omega)]
        obtain ⟨s1, -, -, -, u2, u3, u4, -⟩ := RD_at k5
        have hm4 := mt_4 (VS_or u2)
        rw [u3, u4]
        simp only [bsome]
        have W' : lrn hr' := k5.2.2.2.2.2
        have fin := wfin (hc := hc) (hr := hr) (hcX := hc') (hrX := hr') W' k6 ((k7.2 9 1 (by omega)).trans e91) (fp_tr f2 ⟨k7.1, fun x j hx => k7.2 x j (by omega)⟩) (k8.1.trans b5) (k8.2.1.trans b6) (fun x j hx => (k8.2.2.1 x j (by omega)).trans (fI1 x j hx)) (fun x j hx => (k8.2.2.2 x j (by omega)).trans (fJ1 x j hx))
        by_cases d : s1 = 4
        · rw [if_pos d, if_pos (hm4.mpr d), j41_e, if_neg (show ¬ (1 : Int) = 0 by omega), k4]
          exact ⟨_, _, _, rfl, rfl, fin⟩
        · rw [if_neg d, if_neg (fun w => d (hm4.mp w))]
          unfold c235_j40
          rw [j41_e, if_pos rfl]
          exact ⟨_, _, _, rfl, rfl, fin⟩
    · have w : X0.1 = -1 := by
        by_cases w : X0.1 = -1
        · exact w
        · rw [e45, if_neg w] at k1
          exact congrArg (fun o : Int × hS => o.1) (Option.some.inj k1)
      have h01 : 0 + 1 < (TK n b).length := by
        rcases q2 with ⟨w, -⟩ | ⟨-, -, w⟩
        · omega
        · exact w
      obtain ⟨g0, hr2, -, -, g3⟩ := RD_adv R h01
      obtain ⟨s1, -, -, -, -, u3, -⟩ := RD_at g3
      rw [hf w, g0, u3, k2]
      simp only [bsome]
      rw [if_pos trivial]
      unfold c235_j40
      rw [j41_e, if_pos rfl, w]
      have fin := wfin (hc := hc) (hr := hr) (hcX := sI h2 15 3 ((0 + 1 : Nat) : Int)) (hrX := sI (sI hr1 395 11 f) 395 12 (a' : Int)) ⟨by rw [hI_sI, if_neg (by omega), hI_sI, if_neg (by omega)]; exact b3.1, b3.2⟩ ⟨⟨by rw [hI_sI, if_neg (by omega), hI_sI, if_neg (by omega), hI_sI, if_neg (by omega)]; exact N2.1.1, by rw [hI_sI, if_neg (by omega)]; exact N2.1.2⟩, fun i hi => by
        rw [hI_sI, if_neg (by omega)] at hi
        rw [hI_sI, if_neg (by omega)]
        exact N2.2 i hi⟩ (by rw [hI_sI, if_neg (by omega)]; exact e91) (fp_tr f2 (fp_sI (by omega))) b5 b6 (fun x j hx => by rw [hI_sI, if_neg (by omega), hI_sI, if_neg (by omega)]; exact fI1 x j hx) (fun x j hx => fJ1 x j hx)
      by_cases d : s1 = 4
      · rw [if_pos d]
        exact ⟨_, _, _, rfl, rfl, fin⟩
      · rw [if_neg d]
        exact ⟨_, _, _, rfl, rfl, fin⟩
  · rw [if_neg z, if_neg (fun w => z (hm.mp w))]
    unfold c235_j40
    rw [j41_e, if_pos rfl]
    exact ⟨_, _, _, rfl, rfl, wfin b3 N2 e91 f2 b5 b6 fI1 fJ1⟩
end WRD
