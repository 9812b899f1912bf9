/-! a value read by both sides -/
section VLD
variable {n : Nat} {b : Nat → Int} {hc hr : hS} {l : Nat}
theorem c203_e {c : Int} {s0 : Int} (q2 : VS s0 ∨ s0 = 4) (q4 : hI hr 395 3 = mt s0) (s : sgn c = true) : c203 c hr = some (if s0 = c then 1 else 0) := by
  have hs := (sgn_or c).mp s
  have hm := mt_sg q2 s
  unfold c203
  rw [q4, wadd_e (by omega) (by omega)]
  by_cases z : s0 = c
  · rw [if_pos (hm.mpr z), if_pos z]
  · rw [if_neg (fun w => z (hm.mp w)), if_neg z]
theorem VS_or {s : Int} {p q : Prop} (h : (s = 4 ∧ p) ∨ (VS s ∧ q)) : VS s ∨ s = 4 := by
  rcases h with ⟨w, -⟩ | ⟨w, -⟩
  · exact .inr w
  · exact .inl w
/-- the digits of a value, with the sign z before them -/
theorem j54_e {z : Int} (R : RD n b l hc hr) (F : hI hr 395 11 = 0) :
    (∃ val hr', c62_j54 z hc = (c58 59 (sI (sI hc 15 10 val) 15 3 ((l + 1 : Nat) : Int))).bind (fun v13 => (kB v13.1).bind (fun u14 => some (v13.1, v13.2))) ∧ c221_j15 z hr = some (1, hr') ∧ hI hr' 395 24 = val ∧ RD n b (l + 1) (sI (sI hc 15 10 val) 15 3 ((l + 1 : Nat) : Int)) hr' ∧ fj (sI hr 395 24 val) hr')
    ∨ (∃ a : Nat, c62_j54 z hc = some (0, sI (sI hc 15 4 1) 15 5 (a : Int)) ∧ c221_j15 z hr = some (0, sI (sI hr 395 11 1) 395 12 (a : Int))) := by
  obtain ⟨s0, a, v, q1, q2, q3, q4, q5, q6, q7, q8, q9⟩ := RD_at R
  have r2 := R.2.1
  have r3 := R.2.2.1
  have hn := R.2.2.2.2.1.2.1
  have hl := TK_len (n := n) (b := b)
  have hm := mt_2 (s := s0) (VS_or q2)
  unfold c62_j54 c221_j15
  rw [q3, q4]
  simp only [bsome]
  by_cases d : s0 = 2
  · have h1 : l + 1 < (TK n b).length := by
      rcases q2 with ⟨w, -⟩ | ⟨-, -, w⟩
      · omega
      · exact w
    have fin : ∀ val : Int, ∃ hr', c62_j105 val hc = (c58 59 (sI (sI hc 15 10 val) 15 3 ((l + 1 : Nat) : Int))).bind (fun v13 => (kB v13.1).bind (fun u14 => some (v13.1, v13.2))) ∧ c221_j46 val hr = some (1, hr') ∧ hI hr' 395 24 = val ∧ RD n b (l + 1) (sI (sI hc 15 10 val) 15 3 ((l + 1 : Nat) : Int)) hr' ∧ fj (sI hr 395 24 val) hr' := by
      intro val
      have R1 : RD n b l (sI hc 15 10 val) (sI hr 395 24 val) := RD_cgr (RD_cgc R (fun x j hx => by rw [hI_sI, if_neg (by omega)])) (fun x j hx => by rw [hI_sI, if_neg (by omega)]) (fun _ _ _ => rfl)
      obtain ⟨g0, hr', g1, g2, g3⟩ := RD_adv R1 h1
      refine ⟨hr', ?_, ?_, ?_, g3, g2⟩
      · unfold c62_j105
        simp only [bsome]
        rw [g0]
      · unfold c221_j46
        simp only [bsome]
        rw [g1]
        rfl
      · rw [g2.2.2.1 395 24 (by omega), hI_sI, if_pos ⟨rfl, rfl⟩]
    rw [if_pos d, if_pos (hm.mpr d), r2, aIs_s (by omega) (by omega), q9 d]
    simp only [bsome, Int.toNat_natCast]
    rw [q7]
    by_cases z0 : z = 0
    · obtain ⟨hr', g⟩ := fin v
      rw [if_pos z0, if_pos z0]
      exact .inl ⟨v, hr', g⟩
    · obtain ⟨hr', g⟩ := fin (wneg v)
      rw [if_neg z0, if_neg z0]
      exact .inl ⟨wneg v, hr', g⟩
  · rw [if_neg d, if_neg (fun w => d (hm.mp w))]
    refine .inr ⟨a, ?_, ?_⟩
    · rw [r2, c46_e (a := a) R.1 hn q1]
      rfl
    · rw [c194_e F, q6]
      rfl
/-- a value, and what the class passes behind it -/
theorem num_e (R : RD n b l hc hr) (F : hI hr 395 11 = 0) :
    (∃ val k hc' hr', ((c39 hc).bind (fun v4 => if v4 = 45 then c62_j39 1 hc else c62_j39 0 hc)) = (c58 59 hc').bind (fun v13 => (kB v13.1).bind (fun u14 => some (v13.1, v13.2))) ∧ c221 hr = some (1, hr') ∧ hI hc' 15 10 = val ∧ hI hr' 395 24 = val ∧ RD n b k hc' hr' ∧ fp (fun x j => x = 15 ∧ (j = 3 ∨ j = 10)) hc hc' ∧ fj (sI hr 395 24 val) hr' ∧ l < k)
    ∨ (∃ (a : Nat) (hc' hr' : hS), ((c39 hc).bind (fun v4 => if v4 = 45 then c62_j39 1 hc else c62_j39 0 hc)) = some (0, hc') ∧ c221 hr = some (0, hr') ∧ hI hc' 15 4 = 1 ∧ hI hc' 15 5 = a ∧ hI hr' 395 11 = 1 ∧ hI hr' 395 12 = a ∧ fp (fun x j => x = 15 ∧ (j = 3 ∨ j = 4 ∨ j = 5)) hc hc' ∧ fj (sI (sI hr 395 11 1) 395 12 a) hr') := by
  obtain ⟨s0, a, v, q1, q2, q3, q4, q5, q6, q7, q8, q9⟩ := RD_at R
  have e203 := c203_e (hr := hr) (VS_or q2) q4 (c := 45) rfl
  unfold c221
  rw [q3, e203]
  simp only [bsome]
  by_cases d : s0 = 45
  · have h1 : l + 1 < (TK n b).length := by
      rcases q2 with ⟨w, -⟩ | ⟨-, -, w⟩
      · omega
      · exact w
    obtain ⟨g0, hr1, g1, g2, g3⟩ := RD_adv R h1
    have F1 : hI hr1 395 11 = 0 := (g2.2.2.1 395 11 (by omega)).trans F
    rw [if_pos d, if_pos d, if_neg (show ¬ (1 : Int) = 0 by omega), g1]
    unfold c62_j39
    rw [if_neg (show ¬ (1 : Int) = 0 by omega)]
    simp only [bsome]
    rw [g0]
    have fc : fp (fun x j => x = 15 ∧ (j = 3 ∨ j = 10)) hc (sI hc 15 3 ((l + 1 : Nat) : Int)) := fp_sI ⟨rfl, .inl rfl⟩
    rcases j54_e (z := 1) g3 F1 with ⟨val, hr', k1, k2, k3, k4, k5⟩ | ⟨a', k1, k2⟩
    · refine .inl ⟨val, l + 1 + 1, _, hr', k1, k2, ?_, k3, k4, fp_tr fc (fp_tr (fp_sI ⟨rfl, .inr rfl⟩) (fp_sI ⟨rfl, .inl rfl⟩)), ⟨k5.1.trans g2.1, k5.2.1.trans g2.2.1, ?_, ?_⟩, by omega⟩
      · rw [hI_sI, if_neg (by omega), hI_sI, if_pos ⟨rfl, rfl⟩]
      · intro x j hx
        rw [k5.2.2.1 x j hx, hI_sI, hI_sI, g2.2.2.1 x j hx]
      · intro x j hx
        rw [k5.2.2.2 x j hx, hJ_sI, hJ_sI, g2.2.2.2 x j hx]
    · refine .inr ⟨a', _, _, k1, k2, ?_, ?_, ?_, ?_, fp_tr (fp_sI ⟨rfl, .inl rfl⟩) (fp_tr (fp_sI ⟨rfl, .inr (.inl rfl)⟩) (fp_sI ⟨rfl, .inr (.inr rfl)⟩)), ⟨g2.1, g2.2.1, ?_, ?_⟩⟩
      · rw [hI_sI, if_neg (by omega), hI_sI, if_pos ⟨rfl, rfl⟩]
      · rw [hI_sI, if_pos ⟨rfl, rfl⟩]
      · rw [hI_sI, if_neg (by omega), hI_sI, if_pos ⟨rfl, rfl⟩]
      · rw [hI_sI, if_pos ⟨rfl, rfl⟩]
      · intro x j hx
        rw [hI_sI, hI_sI, hI_sI, hI_sI, g2.2.2.1 x j hx]
      · intro x j hx
        rw [hJ_sI, hJ_sI, hJ_sI, hJ_sI, g2.2.2.2 x j hx]
  · rw [if_neg d, if_neg d, if_pos rfl]
    unfold c62_j39
    rw [if_pos rfl]
    rcases j54_e (z := 0) R F with ⟨val, hr', k1, k2, k3, k4, k5⟩ | ⟨a', k1, k2⟩
    · refine .inl ⟨val, l + 1, _, hr', k1, k2, ?_, k3, k4, fp_tr (fp_sI ⟨rfl, .inr rfl⟩) (fp_sI ⟨rfl, .inl rfl⟩), k5, by omega⟩
      rw [hI_sI, if_neg (by omega), hI_sI, if_pos ⟨rfl, rfl⟩]
    · refine .inr ⟨a', _, _, k1, k2, ?_, ?_, ?_, ?_, fp_tr (fp_sI ⟨rfl, .inr (.inl rfl)⟩) (fp_sI ⟨rfl, .inr (.inr rfl)⟩), fj_rf⟩
      · rw [hI_sI, if_neg (by omega), hI_sI, if_pos ⟨rfl, rfl⟩]
      · rw [hI_sI, if_pos ⟨rfl, rfl⟩]
      · rw [hI_sI, if_neg (by omega), hI_sI, if_pos ⟨rfl, rfl⟩]
      · rw [hI_sI, if_pos ⟨rfl, rfl⟩]
end VLD
