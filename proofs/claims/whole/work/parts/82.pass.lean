/-! both sides read: where they stand, what they pass, where they stop -/
/-- a sort that a cut gives -/
def VS (s : Int) : Prop := s = 1 ∨ s = 2 ∨ s = 3 ∨ s = 250 ∨ (200 ≤ s ∧ s ≤ 221) ∨ sgn s = true
section RDS
variable {n : Nat} {b wk : Nat → Int} {hc hr : hS} {l : Nat}
theorem lexT_v {a : Nat} : VS (lexT b n wk a).1 := by
  unfold lexT
  by_cases q : smL (b a) = true
  · rw [if_pos q]
    by_cases c : 6 < spn smL b (n - a) a - a
    · rw [if_pos c]; exact .inr (.inr (.inl rfl))
    · rw [if_neg c]
      rcases ix_b wk (kk 27 (ltr b a) (spn smL b (n - a) a - a)) 22 with z | ⟨j, z, z1, -⟩
      · rw [if_pos z]; exact .inl rfl
      · rw [z, if_neg (by omega)]
        exact .inr (.inr (.inr (.inr (.inl ⟨show (200 : Int) ≤ 200 + (j : Int) by omega, show (200 : Int) + (j : Int) ≤ 221 by omega⟩))))
  · rw [if_neg q]
    by_cases q2 : dgL (b a) = true
    · rw [if_pos q2]
      split
      · exact .inr (.inr (.inl rfl))
      · exact .inr (.inl rfl)
    · rw [if_neg q2]
      split
      · exact .inr (.inr (.inr (.inl rfl)))
      · split
        · rename_i s
          exact .inr (.inr (.inr (.inr (.inr s))))
        · exact .inr (.inr (.inl rfl))
theorem tokb_v : ∀ {k a : Nat} {t : Int × Nat × Int}, t ∈ tokb b n wk k a → VS t.1
  | 0, a, t, h => by simp [tokb] at h
  | k + 1, a, t, h => by
    have tu : tokb b n wk (k + 1) a = (if n ≤ a then [] else if spc (b a) = true then tokb b n wk k (a + 1) else ((lexT b n wk a).1, a, (lexT b n wk a).2.1) :: tokb b n wk k (lexT b n wk a).2.2) := rfl
    rw [tu] at h
    by_cases c : n ≤ a
    · rw [if_pos c] at h; simp at h
    · rw [if_neg c] at h
      by_cases c2 : spc (b a) = true
      · rw [if_pos c2] at h; exact tokb_v h
      · rw [if_neg c2] at h
        rcases List.mem_cons.mp h with e | e
        · rw [e]; exact lexT_v
        · exact tokb_v e
theorem tokb_len : ∀ {k a : Nat}, a ≤ n → (tokb b n wk k a).length ≤ n - a
  | 0, a, _ => Nat.zero_le _
  | k + 1, a, h => by
    have tu : tokb b n wk (k + 1) a = (if n ≤ a then [] else if spc (b a) = true then tokb b n wk k (a + 1) else ((lexT b n wk a).1, a, (lexT b n wk a).2.1) :: tokb b n wk k (lexT b n wk a).2.2) := rfl
    rw [tu]
    by_cases c : n ≤ a
    · rw [if_pos c]; exact Nat.zero_le _
    · rw [if_neg c]
      by_cases c2 : spc (b a) = true
      · rw [if_pos c2]
        have := tokb_len (k := k) (a := a + 1) (by omega)
        omega
      · rw [if_neg c2, List.length_cons]
        obtain ⟨e1, e2⟩ := lexT_end (b := b) (wk := wk) (show a < n by omega)
        have := tokb_len (k := k) (a := (lexT b n wk a).2.2) e2
        omega
/-- the tokens of a text, the end behind them -/
def TK (n : Nat) (b : Nat → Int) : List (Int × Nat × Int) := tokb b n wkf n 0 ++ [(4, n, 0)]
theorem TK_len : (TK n b).length ≤ n + 1 := by
  have := tokb_len (b := b) (wk := wkf) (k := n) (Nat.zero_le n)
  unfold TK
  rw [List.length_append]
  simp
  omega
theorem TK_v {t : Int × Nat × Int} (e : (TK n b)[l]? = some t) : (t.1 = 4 ∧ l + 1 = (TK n b).length) ∨ (VS t.1 ∧ t.1 ≠ 4 ∧ l + 1 < (TK n b).length) := by
  unfold TK at e ⊢
  rw [List.length_append]
  by_cases c : l < (tokb b n wkf n 0).length
  · rw [List.getElem?_append_left c] at e
    have v := tokb_v (List.mem_of_getElem? e)
    refine .inr ⟨v, fun z => ?_, by simp; omega⟩
    rw [z] at v
    rcases v with w | w | w | w | w | w
    · omega
    · omega
    · omega
    · omega
    · omega
    · have := (sgn_or 4).mp w
      omega
  · rw [List.getElem?_append_right (by omega)] at e
    have : l - (tokb b n wkf n 0).length = 0 := by
      by_cases z : l - (tokb b n wkf n 0).length = 0
      · exact z
      · rw [List.getElem?_eq_none (by simp; omega)] at e
        cases e
    rw [this] at e
    simp at e
    refine .inl ⟨by rw [← e], by simp; omega⟩
/-- both stand at the token l -/
def RD (n : Nat) (b : Nat → Int) (l : Nat) (hc hr : hS) : Prop := TKA hc (TK n b) ∧ hI hc 15 3 = (l : Int) ∧ l < (TK n b).length ∧ STD n b ((TK n b).drop l) hr ∧ txr hr n b ∧ lrn hr
theorem RD_at (R : RD n b l hc hr) : ∃ (s : Int) (a : Nat) (v : Int), (TK n b)[l]? = some (s, a, v) ∧ ((s = 4 ∧ l + 1 = (TK n b).length) ∨ (VS s ∧ s ≠ 4 ∧ l + 1 < (TK n b).length)) ∧ c39 hc = some s ∧ hI hr 395 3 = mt s ∧ hI hc 12 l = (a : Int) ∧ hI hr 395 4 = (a : Int) ∧ hI hc 13 l = v ∧ (s = 1 → W2R v (hJ hr 395 10)) ∧ (s = 2 → hI hr 395 5 = v) := by
  obtain ⟨r1, r2, r3, r4, r5, r6⟩ := R
  have hn := r5.2.1
  have hl := TK_len (n := n) (b := b)
  generalize hT : (TK n b)[l]'r3 = t
  have ht : (TK n b)[l]? = some t := by rw [List.getElem?_eq_getElem r3, hT]
  rw [List.drop_eq_getElem_cons r3, hT] at r4
  obtain ⟨d1, d2, d3, d4⟩ := STD_hd r4
  obtain ⟨k1, k2, k3⟩ := r1.2 l t ht
  refine ⟨t.1, t.2.1, t.2.2, ht, TK_v ht, ?_, d2, k2, d1, k3, d3, d4⟩
  unfold c39
  rw [r2, if_neg (by omega), r1.1, if_neg (by omega), aIs_s (by omega) (by omega)]
  simp only [bsome, Int.toNat_natCast]
  rw [k1]
theorem TKA_cg {h h' : hS} {T : List (Int × Nat × Int)} (K : TKA h T) (e : ∀ x j, (x = 11 ∨ x = 12 ∨ x = 13 ∨ (x = 9 ∧ j = 5)) → hI h' x j = hI h x j) : TKA h' T := ⟨by rw [e 9 5 (by omega)]; exact K.1, fun i t ht => by rw [e 11 i (by omega), e 12 i (by omega), e 13 i (by omega)]; exact K.2 i t ht⟩
theorem RD_adv (R : RD n b l hc hr) (h1 : l + 1 < (TK n b).length) : wadd (hI hc 15 3) 1 = ((l + 1 : Nat) : Int) ∧ ∃ hr', c188 hr = some hr' ∧ fj hr hr' ∧ RD n b (l + 1) (sI hc 15 3 ((l + 1 : Nat) : Int)) hr' := by
  obtain ⟨r1, r2, r3, r4, r5, r6⟩ := R
  have hn := r5.2.1
  have hl := TK_len (n := n) (b := b)
  rw [List.drop_eq_getElem_cons r3] at r4
  refine ⟨by rw [r2, wadd_e (by omega) (by omega)]; rfl, ?_⟩
  obtain ⟨h', g1, g2, g3⟩ := c188_adv r5 r6 r4 (by
    intro z
    have := congrArg List.length z
    rw [List.length_drop] at this
    simp at this
    omega)
  exact ⟨h', g1, g2, TKA_cg r1 (fun x j hx => by rw [hI_sI, if_neg (by omega)]), by rw [hI_sI, if_pos ⟨rfl, rfl⟩], h1, g3, txr_fj r5 g2, lrn_fj r6 g2⟩
/-- the class stops at a token -/
theorem c46_e {c : Int} {a : Nat} {t : Int × Nat × Int} (K : TKA hc (TK n b)) (hn : n ≤ 1000) (e : (TK n b)[l]? = some t) : c46 c (l : Int) hc = some (0, sI (sI hc 15 4 c) 15 5 (t.2.1 : Int)) := by
  have hl := TK_len (n := n) (b := b)
  have h1 : l < (TK n b).length := by
    by_cases z : l < (TK n b).length
    · exact z
    · rw [List.getElem?_eq_none (by omega)] at e; cases e
  obtain ⟨k1, k2, k3⟩ := K.2 l t e
  have o1 : hI (sI hc 15 4 c) 9 5 = hI hc 9 5 := by rw [hI_sI, if_neg (by omega)]
  have o2 : hI (sI hc 15 4 c) 12 l = hI hc 12 l := by rw [hI_sI, if_neg (by omega)]
  unfold c46
  simp only [bsome]
  rw [if_neg (by omega), o1, K.1, if_neg (by omega), aIs_s (by omega) (by omega)]
  simp only [bsome, Int.toNat_natCast]
  rw [o2, k2]
  rfl
/-- the other side stops -/
theorem c195_e {c p : Int} (e : hI hr 395 11 = 0) : c195 c p hr = some (0, sI (sI hr 395 11 c) 395 12 p) := by
  unfold c195
  rw [if_pos e]
  rfl
theorem c194_e {c : Int} (e : hI hr 395 11 = 0) : c194 c hr = some (0, sI (sI hr 395 11 c) 395 12 (hI hr 395 4)) := by
  unfold c194
  rw [c195_e e]
  rfl
/-- a sign is the same sign on both sides -/
theorem mt_sg {s c : Int} (v : VS s ∨ s = 4) (hc : sgn c = true) : mt s = 200 + c ↔ s = c := by
  have h1 := (sgn_or c).mp hc
  constructor
  · intro e
    rcases v with (w | w | w | w | w | w) | w
    · subst w; exact absurd (show (2 : Int) = 200 + c from e) (by omega)
    · subst w; exact absurd (show (3 : Int) = 200 + c from e) (by omega)
    · subst w; exact absurd (show (1 : Int) = 200 + c from e) (by omega)
    · subst w; exact absurd (show (201 : Int) = 200 + c from e) (by omega)
    · unfold mt at e
      rw [if_neg (by omega), if_neg (by omega), if_neg (by omega), if_neg (by omega), if_neg (by omega), if_pos (by omega)] at e
      omega
    · rw [mt_s w] at e; omega
    · subst w; exact absurd (show (0 : Int) = 200 + c from e) (by omega)
  · intro e
    rw [e, mt_s hc]
/-- pass and need: both go on, or both stop with fault 1 at the same place -/
theorem pass_e {c : Int} (R : RD n b l hc hr) (F : hI hr 395 11 = 0) (s : sgn c = true) : (∃ hr', c58 c hc = some (1, sI hc 15 3 ((l + 1 : Nat) : Int)) ∧ c202 c hr = some (1, hr') ∧ fj hr hr' ∧ RD n b (l + 1) (sI hc 15 3 ((l + 1 : Nat) : Int)) hr') ∨ (∃ a : Nat, c58 c hc = some (0, sI (sI hc 15 4 1) 15 5 (a : Int)) ∧ c202 c hr = some (0, sI (sI hr 395 11 1) 395 12 (a : Int))) := by
  obtain ⟨s0, a, v, q1, q2, q3, q4, q5, q6, q7, -⟩ := RD_at R
  have hs := (sgn_or c).mp s
  have hm := mt_sg (s := s0) (c := c) (by rcases q2 with ⟨w, -⟩ | ⟨w, -⟩; exact .inr w; exact .inl w) s
  have e203 : c203 c hr = some (if s0 = c then 1 else 0) := by
    unfold c203
    rw [q4, wadd_e (by omega) (by omega)]
    by_cases z : s0 = c
    · rw [if_pos (hm.mpr z), if_pos z]
    · rw [if_neg (fun w => z (hm.mp w)), if_neg z]
  unfold c58 c202
  rw [q3, e203]
  simp only [bsome]
  by_cases z : s0 = c
  · have h1 : l + 1 < (TK n b).length := by
      rcases q2 with ⟨w, -⟩ | ⟨-, -, w⟩
      · omega
      · exact w
    obtain ⟨g0, hr', g1, g2, g3⟩ := RD_adv R h1
    refine .inl ⟨hr', ?_, ?_, g2, g3⟩
    · rw [if_pos z, g0]
    · rw [if_pos z, if_neg (by omega), g1]
      rfl
  · refine .inr ⟨a, ?_, ?_⟩
    · rw [if_neg z, R.2.1, c46_e (a := a) R.1 R.2.2.2.2.1.2.1 q1]
      rfl
    · rw [if_neg z, if_pos rfl, c194_e F, q6]
      rfl
end RDS
