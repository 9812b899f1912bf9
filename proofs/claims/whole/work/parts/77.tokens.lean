/-! tokens: the class cuts the text -/
def sgnL : List Int := [123, 125, 40, 41, 59, 61, 43, 45, 42, 47, 60]
def sgn (c : Int) : Bool := sgnL.contains c
/-- the string of the signs -/
def STR (h : hS) : Prop := hT h 4 = 2002 ∧ hI h 4 0 = 0 ∧ hR h 4 1 = 5 ∧ hT h 5 = 5 ∧ hL h 5 = 11 ∧ ∀ i : Nat, i < 11 → hI h 5 i = sgnL.getD i 0
theorem wchr_e {c : Int} (c0 : 0 ≤ c) (c1 : c < 256) : wchr c = c := by
  have key : ∀ n : Nat, n < 256 → wchr (n : Int) = (n : Int) := by decide +kernel
  have := key c.toNat (by omega)
  rw [show ((c.toNat : Nat) : Int) = c by omega] at this
  exact this
theorem sgn_ix {c : Int} (c0 : 0 ≤ c) (c1 : c < 256) : ix (fun i => sgnL.getD i 0) (wbyt c) 11 < 0 ↔ sgn c = false := by
  have key : ∀ n : Nat, n < 256 → (decide (ix (fun i => sgnL.getD i 0) (wbyt (n : Int)) 11 < 0) = !(sgn (n : Int))) := by decide +kernel
  have := key c.toNat (by omega)
  rw [show ((c.toNat : Nat) : Int) = c by omega] at this
  constructor
  · intro h
    rw [decide_eq_true h] at this
    cases hs : sgn c with
    | false => rfl
    | true => rw [hs] at this; cases this
  · intro h
    rw [h] at this
    exact of_decide_eq_true this
section TOK
variable {h : hS} {n : Nat} {b : Nat → Int}
theorem c34_e (S : STR h) {c : Int} (c0 : 0 ≤ c) (c1 : c < 256) : ∃ v, c34 4 (wchr c) h = some v ∧ (v < 0 ↔ sgn c = false) := by
  obtain ⟨s1, s2, s3, s4, s5, s6⟩ := S
  rw [wchr_e c0 c1]
  have e2 : c2 4 h = some 11 := by
    unfold c2
    rw [gR_s s1]
    simp only [bsome]
    rw [s3, lA_s s4, kT_s s1]
    simp only [bsome]
    unfold c3
    rw [if_neg (show ¬ (1 : Int) = 0 by omega), gI_s s1]
    simp only [bsome]
    rw [s2, s5]
    decide +kernel
  have e5 : c5 4 h = some 1 := by
    unfold c5
    rw [if_neg (show ¬ (1 : Int) = 0 by omega), gI_s s1]
    simp only [bsome]
    rw [s2, if_pos rfl]
  have e38 : c38 5 c 0 11 h = some (ix (fun i => sgnL.getD i 0) (wbyt c) 11) := by
    unfold c38
    have e := lp_ix (f := fun s => c38_b7 5 11 (wbyt c) h s) (fun i => sgnL.getD i 0) (wbyt c) 11 (by
      intro i hi
      show c38_b7 5 11 (wbyt c) h i = _
      unfold c38_b7
      rw [if_neg (by omega), aI_s s4 (by omega) (by rw [s5]; omega)]
      simp only [bsome, Int.toNat_natCast]
      rw [s6 i hi, wadd_e (by omega) (by omega)]) (by
      show c38_b7 5 11 (wbyt c) h (11 : Nat) = _
      unfold c38_b7
      rw [if_pos (by omega)]) 11 0 hF0 (by omega) (hF0_lt (by omega))
    have e : lp (fun s => c38_b7 5 11 (wbyt c) h s) hF0 0 = _ := e
    rw [e]
    exact xs_ix
  refine ⟨_, ?_, sgn_ix c0 c1⟩
  unfold c34
  rw [kT_s s1]
  simp only [bsome]
  unfold c35
  rw [kT_s s1, e5]
  simp only [bsome]
  rw [if_neg (show ¬ (1 : Int) = 0 by omega), gR_s s1, e2]
  simp only [bsome]
  rw [s3]
  unfold c36 c37
  rw [if_neg (by omega), if_neg (by omega)]
  simp only [bsome]
  rw [if_neg (show ¬ (1 : Int) = 0 by omega), lA_s s4, s5]
  simp only [bsome]
  have m1 : wmax 0 0 = 0 := by decide +kernel
  have m2 : wmin 11 ((11 : Nat) : Int) = 11 := by decide +kernel
  rw [m1, m2, if_pos (by omega), e38]
  rfl
/-- a token put behind the others -/
def adt (h : hS) (s : Int) (a : Int) (v : Int) : hS := sI (sI (sI (sI h 11 (hI h 9 5).toNat s) 12 (hI h 9 5).toNat a) 13 (hI h 9 5).toNat v) 9 5 (hI h 9 5 + 1)
theorem c30_e {s a v : Int} (n0 : 0 ≤ hI h 9 5) (n1 : hI h 9 5 < 1001) : c30 s a v h = some (adt h s a v) := by
  unfold c30
  rw [if_neg (by omega), wIs_s n0 (by omega)]
  simp only [bsome]
  have e1 : hI (sI h 11 (hI h 9 5).toNat s) 9 5 = hI h 9 5 := by rw [hI_sI, if_neg (by omega)]
  rw [e1, wIs_s n0 (by omega)]
  simp only [bsome]
  have e2 : hI (sI (sI h 11 (hI h 9 5).toNat s) 12 (hI h 9 5).toNat a) 9 5 = hI h 9 5 := by rw [hI_sI, if_neg (by omega)]; exact e1
  rw [e2, wIs_s n0 (by omega)]
  simp only [bsome]
  have e3 : hI (sI (sI (sI h 11 (hI h 9 5).toNat s) 12 (hI h 9 5).toNat a) 13 (hI h 9 5).toNat v) 9 5 = hI h 9 5 := by rw [hI_sI, if_neg (by omega)]; exact e2
  rw [e3, wadd_e (by omega) (by omega)]
  rfl
/-- the token that begins at a: its sort, its value, its end -/
def lexT (b : Nat → Int) (n : Nat) (wk : Nat → Int) (a : Nat) : Int × Int × Nat :=
  if smL (b a) = true then
    (if 6 < spn smL b (n - a) a - a then (3, 0, spn smL b (n - a) a) else if ix wk (kk 27 (ltr b a) (spn smL b (n - a) a - a)) 22 = -1 then (1, kk 27 (ltr b a) (spn smL b (n - a) a - a), spn smL b (n - a) a) else (200 + ix wk (kk 27 (ltr b a) (spn smL b (n - a) a - a)) 22, kk 27 (ltr b a) (spn smL b (n - a) a - a), spn smL b (n - a) a))
  else if dgL (b a) = true then
    (if 6 < spn dgL b (n - a) a - a ∨ (spn dgL b (n - a) a < n ∧ lrL (b (spn dgL b (n - a) a)) = true) then (3, kk 10 (dgt b a) (min (spn dgL b (n - a) a - a) 6), spn dgL b (n - a) a) else (2, kk 10 (dgt b a) (min (spn dgL b (n - a) a - a) 6), spn dgL b (n - a) a))
  else if b a = 61 ∧ a + 1 < n ∧ b (a + 1) = 61 then (250, 0, a + 2)
  else if sgn (b a) = true then (b a, 0, a + 1) else (3, 0, a + 1)
def spc (c : Int) : Bool := decide (c = 32 ∨ c = 10)
theorem c28_e {a : Nat} (T : txc h n b) (ha : a < n) (t14 : hT h 14 = 1) (l14 : hL h 14 = 22) (n0 : 0 ≤ hI h 9 5) (n1 : hI h 9 5 < 1001) (q : smL (b a) = true) : c28 a h = some ((((lexT b n (fun i => hI h 14 i) a).2.2 : Nat) : Int) - a, adt h (lexT b n (fun i => hI h 14 i) a).1 a (lexT b n (fun i => hI h 14 i) a).2.1) := by
  have hn := T.2.1
  obtain ⟨b1, b2, b3, -⟩ := spn_b (P := smL) (b := b) (n - a) a
  have hl := c28_l (a := a) T (n - a) a hF0 (Nat.le_refl _) (by omega) (hF0_lt (by omega)) (fun t t1 t2 => by omega)
  rw [show min (a - a) 6 = 0 by omega] at hl
  have hl : lp (fun s => c28_b4 a h s.1 s.2) hF0 ((a : Int), 0) = _ := hl
  unfold c28
  rw [hl]
  simp only [bsome]
  have e29 := c29_e (h := h) (row := 14) (c := 22) (n := kk 27 (ltr b a) (min (spn smL b (n - a) a - a) 6)) t14 (by rw [l14]; omega) (by omega)
  have e29 : c29 14 22 (kk 27 (ltr b a) (min (spn smL b (n - a) a - a) 6)) h = _ := e29
  rw [e29]
  simp only [bsome]
  unfold lexT
  rw [if_pos q, wsub_e (by omega) (by omega)]
  generalize spn smL b (n - a) a = e at b1 b2 b3
  unfold c28_j107
  by_cases c : 6 < e - a
  · rw [if_neg (by omega), if_pos c, c30_e n0 n1]
    simp only [bsome]
    rw [wsub_e (by omega) (by omega)]
  · rw [if_pos (by omega), if_neg c, show min (e - a) 6 = e - a by omega]
    by_cases d : ix (fun i => hI h 14 i) (kk 27 (ltr b a) (e - a)) 22 = -1
    · rw [if_pos d, if_pos d, c30_e n0 n1]
      simp only [bsome]
      rw [wsub_e (by omega) (by omega)]
    · rw [if_neg d, if_neg d]
      have hb : 0 ≤ ix (fun i => hI h 14 i) (kk 27 (ltr b a) (e - a)) 22 ∧ ix (fun i => hI h 14 i) (kk 27 (ltr b a) (e - a)) 22 < 22 := by
        rcases ix_b (fun i => hI h 14 i) (kk 27 (ltr b a) (e - a)) 22 with z | ⟨j, z, z1, -⟩
        · exact absurd z d
        · rw [z]; omega
      rw [wadd_e (by omega) (by omega), c30_e n0 n1]
      simp only [bsome]
      rw [wsub_e (by omega) (by omega)]
theorem c32_e {a : Nat} (T : txc h n b) (ha : a < n) (n0 : 0 ≤ hI h 9 5) (n1 : hI h 9 5 < 1001) (q0 : smL (b a) = false) (q : dgL (b a) = true) : c32 a h = some ((((lexT b n (fun i => hI h 14 i) a).2.2 : Nat) : Int) - a, adt h (lexT b n (fun i => hI h 14 i) a).1 a (lexT b n (fun i => hI h 14 i) a).2.1) := by
  have hn := T.2.1
  obtain ⟨b1, b2, b3, -⟩ := spn_b (P := dgL) (b := b) (n - a) a
  have hl := c32_l (a := a) T (n - a) a hF0 (Nat.le_refl _) (by omega) (hF0_lt (by omega)) (fun t t1 t2 => by omega)
  rw [show min (a - a) 6 = 0 by omega] at hl
  have hl : lp (fun s => c32_b4 a h s.1 s.2) hF0 ((a : Int), 0) = _ := hl
  unfold c32
  rw [hl]
  simp only [bsome]
  unfold lexT
  rw [if_neg (show ¬ smL (b a) = true by rw [q0]; simp), if_pos q, T.1]
  generalize spn dgL b (n - a) a = e at b1 b2 b3
  have fin : ∀ s0 : Int, (s0 = 0 ∨ s0 = 1) → c32_j98 s0 a e (kk 10 (dgt b a) (min (e - a) 6)) h = some ((e : Int) - a, adt h (if s0 = 0 then 3 else 2) a (kk 10 (dgt b a) (min (e - a) 6))) := by
    intro s0 hs
    unfold c32_j98 c32_j111
    rcases hs with rfl | rfl
    · rw [if_pos rfl, if_pos rfl, c30_e n0 n1]
      simp only [bsome]
      rw [wsub_e (by omega) (by omega)]
    · rw [if_neg (by omega), if_neg (by omega), c30_e n0 n1]
      simp only [bsome]
      rw [wsub_e (by omega) (by omega)]
  have f0 := fin 0 (.inl rfl)
  have f1 := fin 1 (.inr rfl)
  rw [if_pos rfl] at f0
  rw [if_neg (show ¬ (1 : Int) = 0 by omega)] at f1
  have j78_0 : c32_j78 0 a e (kk 10 (dgt b a) (min (e - a) 6)) h = if 6 < e - a then some ((e : Int) - a, adt h 3 a (kk 10 (dgt b a) (min (e - a) 6))) else some ((e : Int) - a, adt h 2 a (kk 10 (dgt b a) (min (e - a) 6))) := by
    unfold c32_j78 c32_j97
    rw [wsub_e (by omega) (by omega), f0, f1, if_pos rfl]
    by_cases c : 6 < e - a
    · rw [if_pos (by omega), if_pos c]
    · rw [if_neg (by omega), if_neg c]
  have j78_1 : c32_j78 1 a e (kk 10 (dgt b a) (min (e - a) 6)) h = some ((e : Int) - a, adt h 3 a (kk 10 (dgt b a) (min (e - a) 6))) := by
    unfold c32_j78 c32_j97
    rw [wsub_e (by omega) (by omega), f0, f1, if_neg (show ¬ (1 : Int) = 0 by omega)]
    by_cases c : 6 < (e : Int) - a
    · rw [if_pos c]
    · rw [if_neg c]
  unfold c32_j77
  rw [j78_0, j78_1]
  by_cases d : e < n
  · obtain ⟨x1, x2, x3⟩ := T.2.2 e d
    rw [if_neg (by omega), aIs_s (by omega) (by omega)]
    simp only [bsome, Int.toNat_natCast]
    rw [x1, c33_e]
    simp only [bsome]
    by_cases f : lrL (b e) = true
    · rw [if_pos f, if_neg (show ¬ (1 : Int) = 0 by omega), if_pos (.inr ⟨d, f⟩)]
    · rw [if_neg f, if_pos rfl]
      by_cases c : 6 < e - a
      · rw [if_pos c, if_pos (.inl c)]
      · rw [if_neg c, if_neg (by rintro (c' | ⟨-, c'⟩); exact c c'; exact f c')]
  · rw [if_pos (by omega)]
    by_cases c : 6 < e - a
    · rw [if_pos c, if_pos (.inl c)]
    · rw [if_neg c, if_neg (by rintro (c' | ⟨c', -⟩); exact c c'; exact d c')]
end TOK
