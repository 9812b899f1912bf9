/-! a name read by both sides -/
section NMD
variable {n : Nat} {b : Nat → Int} {hc hr hc' hr' : hS} {l : Nat}
theorem RD_cgc (R : RD n b l hc hr) (e : ∀ x j, (x = 11 ∨ x = 12 ∨ x = 13 ∨ (x = 9 ∧ j = 5) ∨ (x = 15 ∧ j = 3)) → hI hc' x j = hI hc x j) : RD n b l hc' hr := ⟨TKA_cg R.1 (fun x j hx => e x j (by omega)), by rw [e 15 3 (by omega)]; exact R.2.1, R.2.2⟩
theorem STD_cg {L : List (Int × Nat × Int)} (S : STD n b L hr) (e : ∀ j, (j = 2 ∨ j = 3 ∨ j = 4 ∨ j = 5) → hI hr' 395 j = hI hr 395 j) (eJ : hJ hr' 395 10 = hJ hr 395 10) : STD n b L hr' := by
  obtain ⟨a, ⟨k1, k2, k3⟩, ha, s⟩ := S
  refine ⟨a, ⟨?_, ?_, ?_⟩, ha, s⟩
  · rw [e 4 (by omega)]; exact k1
  · rw [e 3 (by omega), e 2 (by omega)]; exact k2
  · rw [e 3 (by omega), e 2 (by omega), e 5 (by omega), eJ]; exact k3
theorem RD_cgr (R : RD n b l hc hr) (e : ∀ x j, (x = 396 ∨ (x = 395 ∧ (j = 1 ∨ j = 2 ∨ j = 3 ∨ j = 4 ∨ j = 5 ∨ j = 9))) → hI hr' x j = hI hr x j) (eJ : ∀ x j, (x = 398 ∨ (x = 395 ∧ j = 10)) → hJ hr' x j = hJ hr x j) : RD n b l hc hr' := by
  obtain ⟨r1, r2, r3, r4, r5, r6⟩ := R
  refine ⟨r1, r2, r3, STD_cg r4 (fun j hj => e 395 j (by omega)) (eJ 395 10 (by omega)), ⟨?_, r5.2.1, ?_⟩, ⟨?_, ?_⟩⟩
  · rw [e 395 1 (by omega)]; exact r5.1
  · intro i hi; rw [e 396 i (by omega)]; exact r5.2.2 i hi
  · rw [e 395 9 (by omega)]; exact r6.1
  · intro i hi; rw [eJ 398 i (by omega)]; exact r6.2 i hi
theorem mt_1 {s : Int} (v : VS s ∨ s = 4) : mt s = 2 ↔ s = 1 := by
  constructor
  · intro e
    rcases v with (w | w | w | w | w | w) | w
    · exact w
    · subst w; exact absurd (show (3 : Int) = 2 from e) (by omega)
    · subst w; exact absurd (show (1 : Int) = 2 from e) (by omega)
    · subst w; exact absurd (show (201 : Int) = 2 from e) (by omega)
    · unfold mt at e
      rw [if_neg (by omega), if_neg (by omega), if_neg (by omega), if_neg (by omega), if_neg (by omega), if_pos (by omega)] at e
      omega
    · have := (sgn_or s).mp w
      rw [mt_s w] at e; omega
    · subst w; exact absurd (show (0 : Int) = 2 from e) (by omega)
  · intro e
    rw [e]; rfl
theorem mt_2 {s : Int} (v : VS s ∨ s = 4) : mt s = 3 ↔ s = 2 := by
  constructor
  · intro e
    rcases v with (w | w | w | w | w | w) | w
    · subst w; exact absurd (show (2 : Int) = 3 from e) (by omega)
    · exact w
    · subst w; exact absurd (show (1 : Int) = 3 from e) (by omega)
    · subst w; exact absurd (show (201 : Int) = 3 from e) (by omega)
    · unfold mt at e
      rw [if_neg (by omega), if_neg (by omega), if_neg (by omega), if_neg (by omega), if_neg (by omega), if_pos (by omega)] at e
      omega
    · have := (sgn_or s).mp w
      rw [mt_s w] at e; omega
    · subst w; exact absurd (show (0 : Int) = 3 from e) (by omega)
  · intro e
    rw [e]; rfl
/-- a word of the language is the same word on both sides -/
theorem mt_wd {s : Int} {t : Nat} (v : VS s ∨ s = 4) (ht : t < 22) : mt s = 100 + (t : Int) ↔ s = 200 + (t : Int) := by
  constructor
  · intro e
    rcases v with (w | w | w | w | w | w) | w
    · subst w; exact absurd (show (2 : Int) = 100 + (t : Int) from e) (by omega)
    · subst w; exact absurd (show (3 : Int) = 100 + (t : Int) from e) (by omega)
    · subst w; exact absurd (show (1 : Int) = 100 + (t : Int) from e) (by omega)
    · subst w; exact absurd (show (201 : Int) = 100 + (t : Int) from e) (by omega)
    · unfold mt at e
      rw [if_neg (by omega), if_neg (by omega), if_neg (by omega), if_neg (by omega), if_neg (by omega), if_pos (by omega)] at e
      omega
    · have := (sgn_or s).mp w
      rw [mt_s w] at e; omega
    · subst w; exact absurd (show (0 : Int) = 100 + (t : Int) from e) (by omega)
  · intro e
    rw [e]; exact mt_w ht
/-- what a name read leaves as it was, on the other side -/
def fn (h h' : hS) : Prop := h'.2.1 = h.2.1 ∧ h'.2.2.2 = h.2.2.2 ∧ (∀ x j, ¬ (x = 395 ∧ (j = 2 ∨ j = 3 ∨ j = 4 ∨ j = 5 ∨ j = 7 ∨ j = 17)) → hI h' x j = hI h x j) ∧ (∀ x j, ¬ (x = 397 ∨ (x = 395 ∧ j = 10)) → hJ h' x j = hJ h x j)
theorem j84_e {m : Int} (R : RD n b l hc hr) (h1 : l + 1 < (TK n b).length) : ∃ hr', c196_j84 m hr = some (1, hr') ∧ hI hr' 395 17 = m ∧ RD n b (l + 1) (sI hc 15 3 ((l + 1 : Nat) : Int)) hr' ∧ fj (sI hr 395 17 m) hr' := by
  have R1 : RD n b l hc (sI hr 395 17 m) := RD_cgr R (fun x j hx => by rw [hI_sI, if_neg (by omega)]) (fun _ _ _ => rfl)
  obtain ⟨-, hr', g1, g2, g3⟩ := RD_adv R1 h1
  unfold c196_j84
  simp only [bsome]
  rw [g1]
  refine ⟨hr', rfl, ?_, g3, g2⟩
  rw [g2.2.2.1 395 17 (by omega), hI_sI, if_pos ⟨rfl, rfl⟩]
theorem name_e (R : RD n b l hc hr) (F : hI hr 395 11 = 0) (N : nmR hc hr) (t16 : hT hc 16 = 1) (l16 : hL hc 16 = 40) :
    (∃ m hc' hr', c45 hc = some (m, hc') ∧ c196 hr = some (1, hr') ∧ (0 ≤ m ∧ m < 40) ∧ hI hr' 395 17 = m ∧ RD n b (l + 1) hc' hr' ∧ nmR hc' hr' ∧ fp (fun x j => x = 16 ∨ (x = 15 ∧ (j = 2 ∨ j = 3))) hc hc' ∧ fn hr hr')
    ∨ (∃ (f : Int) (a : Nat), (f = 1 ∨ f = 3) ∧ c45 hc = some (-1, sI (sI hc 15 4 f) 15 5 (a : Int)) ∧ c196 hr = some (0, sI (sI hr 395 11 f) 395 12 (a : Int))) := by
  obtain ⟨s0, a, v, q1, q2, q3, q4, q5, q6, q7, q8, -⟩ := RD_at R
  obtain ⟨r1, r2, r3, r4, r5, r6⟩ := R
  have R : RD n b l hc hr := ⟨r1, r2, r3, r4, r5, r6⟩
  have hn := r5.2.1
  have hl := TK_len (n := n) (b := b)
  have hm := mt_1 (s := s0) (by rcases q2 with ⟨w, -⟩ | ⟨w, -⟩; exact .inr w; exact .inl w)
  unfold c45 c196
  rw [q3, q4]
  simp only [bsome]
  by_cases z : s0 = 1
  · have h1 : l + 1 < (TK n b).length := by
      rcases q2 with ⟨w, -⟩ | ⟨-, -, w⟩
      · omega
      · exact w
    have hk := q8 z
    have es := c196_s N hk (hI hc 15 2).toNat 0 hF0 (by have := N.1.2.1; omega) (hF0_lt (by have := N.1.2.2; omega))
    have es : lp (fun s => c196_b16 hr s) hF0 0 = some (if nix hc v = -1 then hI hc 15 2 else nix hc v) := es
    rw [if_pos z, if_pos (hm.mpr z), r2, aIs_s (by omega) (by omega), es]
    simp only [bsome, Int.toNat_natCast]
    rw [q7, c40_e N.1 t16 l16]
    simp only [bsome]
    obtain ⟨⟨n1, n2, n3⟩, n4⟩ := N
    rcases nix_b (hc := hc) v with y | y
    · rw [if_pos y, if_pos y]
      by_cases y2 : 40 ≤ hI hc 15 2
      · rw [if_pos y2, if_pos rfl, if_pos (show hI hc 15 2 = 40 by omega)]
        refine .inr ⟨3, a, .inr rfl, ?_, ?_⟩
        · rw [r2, c46_e (a := a) r1 hn q1]
          rfl
        · rw [c194_e F, q6]
          rfl
      · rw [if_neg y2, if_neg (show ¬ hI hc 15 2 = -1 by omega), if_neg (show ¬ hI hc 15 2 = 40 by omega), if_pos n1]
        have fc : fp (fun x j => x = 16 ∨ (x = 15 ∧ (j = 2 ∨ j = 3))) hc (sI (sI hc 16 (hI hc 15 2).toNat v) 15 2 (hI hc 15 2 + 1)) := fp_tr (fp_sI (.inl rfl)) (fp_sI (.inr ⟨rfl, .inl rfl⟩))
        have e3 : hI (sI (sI hc 16 (hI hc 15 2).toNat v) 15 2 (hI hc 15 2 + 1)) 15 3 = (l : Int) := by rw [hI_sI, if_neg (by omega), hI_sI, if_neg (by omega)]; exact r2
        have ew : wJs hr 397 40 (hI hc 15 2) (hJ hr 395 10) = some (sJ hr 397 (hI hc 15 2).toNat (hJ hr 395 10)) := if_pos ⟨by omega, by omega⟩
        rw [ew]
        simp only [bsome]
        have e7 : hI (sJ hr 397 (hI hc 15 2).toNat (hJ hr 395 10)) 395 7 = hI hc 15 2 := n1.symm
        rw [e3, e7, wadd_e (by omega) (by omega), wadd_e (by omega) (by omega)]
        have R1 : RD n b l (sI (sI hc 16 (hI hc 15 2).toNat v) 15 2 (hI hc 15 2 + 1)) (sI (sJ hr 397 (hI hc 15 2).toNat (hJ hr 395 10)) 395 7 (hI hc 15 2 + 1)) := RD_cgr (RD_cgc R (fun x j hx => by rw [hI_sI, if_neg (by omega), hI_sI, if_neg (by omega)])) (fun x j hx => by rw [hI_sI, if_neg (by omega)]; rfl) (fun x j hx => by rw [hJ_sI, hJ_sJ, if_neg (by omega)])
        obtain ⟨hr', g1, g2, g3, g4⟩ := j84_e (m := hI hc 15 2) R1 h1
        refine .inl ⟨_, _, hr', rfl, g1, by omega, g2, g3, ⟨⟨?_, ?_, ?_⟩, ?_⟩, fp_tr fc (fp_sI (.inr ⟨rfl, .inr rfl⟩)), ⟨g4.1, g4.2.1, ?_, ?_⟩⟩
        · rw [hI_sI, if_neg (by omega), hI_sI, if_pos ⟨rfl, rfl⟩, g4.2.2.1 395 7 (by omega), hI_sI, if_neg (by omega), hI_sI, if_pos ⟨rfl, rfl⟩]
        · rw [hI_sI, if_neg (by omega), hI_sI, if_pos ⟨rfl, rfl⟩]; omega
        · rw [hI_sI, if_neg (by omega), hI_sI, if_pos ⟨rfl, rfl⟩]; omega
        · intro i hi
          rw [hI_sI, if_neg (by omega), hI_sI, if_pos ⟨rfl, rfl⟩] at hi
          rw [g4.2.2.2 397 i (by omega), hJ_sI, hJ_sI, hJ_sJ, hI_sI, if_neg (by omega), hI_sI, if_neg (by omega), hI_sI]
          by_cases c : i = (hI hc 15 2).toNat
          · rw [if_pos ⟨rfl, c⟩, if_pos ⟨rfl, c⟩]; exact hk
          · rw [if_neg (fun w => c w.2), if_neg (fun w => c w.2)]; exact n4 i (by omega)
        · intro x j hx
          rw [g4.2.2.1 x j (by omega), hI_sI, if_neg (by omega), hI_sI, if_neg (by omega)]
          rfl
        · intro x j hx
          rw [g4.2.2.2 x j (by omega), hJ_sI, hJ_sI, hJ_sJ, if_neg (by omega)]
    · rw [if_neg (show ¬ nix hc v = -1 by omega), if_neg (show ¬ nix hc v = -1 by omega), if_neg (show ¬ nix hc v = -1 by omega), if_neg (show ¬ nix hc v = 40 by omega), if_neg (show ¬ nix hc v = hI hr 395 7 by omega)]
      dsimp only
      rw [r2, wadd_e (by omega) (by omega)]
      obtain ⟨hr', g1, g2, g3, g4⟩ := j84_e (m := nix hc v) R h1
      refine .inl ⟨_, _, hr', rfl, g1, by omega, g2, g3, ⟨⟨?_, ?_, ?_⟩, ?_⟩, fp_sI (.inr ⟨rfl, .inr rfl⟩), ⟨g4.1, g4.2.1, ?_, ?_⟩⟩
      · rw [hI_sI, if_neg (by omega), g4.2.2.1 395 7 (by omega), hI_sI, if_neg (by omega)]; exact n1
      · rw [hI_sI, if_neg (by omega)]; exact n2
      · rw [hI_sI, if_neg (by omega)]; exact n3
      · intro i hi
        rw [hI_sI, if_neg (by omega)] at hi
        rw [g4.2.2.2 397 i (by omega), hJ_sI, hI_sI, if_neg (by omega)]
        exact n4 i hi
      · intro x j hx
        rw [g4.2.2.1 x j (by omega), hI_sI, if_neg (by omega)]
      · intro x j hx
        rw [g4.2.2.2 x j (by omega), hJ_sI]
  · rw [if_neg z, if_neg (fun w => z (hm.mp w))]
    refine .inr ⟨1, a, .inl rfl, ?_, ?_⟩
    · rw [r2, c46_e (a := a) r1 hn q1]
      rfl
    · rw [c194_e F, q6]
      rfl
end NMD
