/-! the text: spans of letters and digits -/
def spn (P : Int → Bool) (b : Nat → Int) : Nat → Nat → Nat
  | 0, i => i
  | k + 1, i => if P (b i) = true then spn P b k (i + 1) else i
theorem spn_b {P : Int → Bool} {b : Nat → Int} : ∀ (k i : Nat), i ≤ spn P b k i ∧ spn P b k i ≤ i + k ∧ (∀ t, i ≤ t → t < spn P b k i → P (b t) = true) ∧ (spn P b k i < i + k → P (b (spn P b k i)) = false)
  | 0, i => ⟨Nat.le_refl _, Nat.le_refl _, fun t h1 h2 => by unfold spn at h2; omega, fun h => by unfold spn at h; omega⟩
  | k + 1, i => by
    unfold spn
    by_cases q : P (b i) = true
    · rw [if_pos q]
      obtain ⟨h1, h2, h3, h4⟩ := spn_b (P := P) (b := b) k (i + 1)
      refine ⟨by omega, by omega, fun t t1 t2 => ?_, fun h => h4 (by omega)⟩
      by_cases e : t = i
      · rw [e]; exact q
      · exact h3 t (by omega) t2
    · rw [if_neg q]
      exact ⟨Nat.le_refl _, by omega, fun t h1 h2 => by omega, fun _ => Bool.eq_false_iff.mpr q⟩
def smL (c : Int) : Bool := decide (97 ≤ c ∧ c ≤ 122)
def dgL (c : Int) : Bool := decide (48 ≤ c ∧ c ≤ 57)
def lrL (c : Int) : Bool := decide (97 ≤ c ∧ c ≤ 122) || decide (65 ≤ c ∧ c ≤ 90)
theorem c27_e {h : hS} (c : Int) : c27 c h = some (if smL c = true then 1 else 0) := by
  unfold c27 smL
  by_cases a : c < 97
  · rw [if_pos a, if_neg (by simp; omega)]
  · rw [if_neg a]
    by_cases b : 122 < c
    · rw [if_pos b, if_neg (by simp; omega)]
    · rw [if_neg b, if_pos (by simp; omega)]
theorem c31_e {h : hS} (c : Int) : c31 c h = some (if dgL c = true then 1 else 0) := by
  unfold c31 dgL
  by_cases a : c < 48
  · rw [if_pos a, if_neg (by simp; omega)]
  · rw [if_neg a]
    by_cases b : 57 < c
    · rw [if_pos b, if_neg (by simp; omega)]
    · rw [if_neg b, if_pos (by simp; omega)]
theorem c33_e {h : hS} (c : Int) : c33 c h = some (if lrL c = true then 1 else 0) := by
  unfold c33 lrL
  rw [c27_e]
  simp only [bsome]
  unfold smL
  by_cases s : 97 ≤ c ∧ c ≤ 122
  · rw [if_pos (show decide (97 ≤ c ∧ c ≤ 122) = true from decide_eq_true s), if_neg (show ¬ (1 : Int) = 0 by omega), if_pos (by simp; omega)]
    rfl
  · rw [if_neg (show ¬ decide (97 ≤ c ∧ c ≤ 122) = true by simpa using s), if_pos rfl]
    by_cases a : c < 65
    · rw [if_pos a, if_neg (by simp; omega)]
    · rw [if_neg a]
      by_cases b : 90 < c
      · rw [if_pos b, if_neg (by simp; omega)]
      · rw [if_neg b, if_pos (by simp; omega)]
        rfl
theorem kk27_j {f : Nat → Int} : ∀ {j : Nat}, j ≤ 5 → (∀ t, t < j → 1 ≤ f t ∧ f t ≤ 26) → kk 27 f j < 14348907
  | 0, _, _ => by unfold kk; omega
  | j + 1, hj, h => by
    have key : ∀ j, j ≤ 5 → (∀ t, t < j → 1 ≤ f t ∧ f t ≤ 26) → kk 27 f j < 27 ^ j := by
      intro j
      induction j with
      | zero => intro _ _; unfold kk; omega
      | succ j ih =>
        intro hj h
        have h1 := ih (by omega) (fun t ht => h t (by omega))
        have h2 := h j (by omega)
        unfold kk
        rw [Int.pow_succ]
        omega
    have h1 := key (j + 1) hj h
    have h2 : (27 : Int) ^ (j + 1) ≤ 14348907 := by
      match j, hj with
      | 0, _ => decide
      | 1, _ => decide
      | 2, _ => decide
      | 3, _ => decide
      | 4, _ => decide
    omega
/-- the letters of a word from the place at on, as numbers; the digits of a number -/
def ltr (b : Nat → Int) (at_ : Nat) (t : Nat) : Int := b (at_ + t) - 96
def dgt (b : Nat → Int) (at_ : Nat) (t : Nat) : Int := b (at_ + t) - 48
theorem kk10_lt {f : Nat → Int} : ∀ {j : Nat}, j ≤ 6 → (∀ t, t < j → 0 ≤ f t ∧ f t ≤ 9) → 0 ≤ kk 10 f j ∧ kk 10 f j < 10 ^ j
  | 0, _, _ => by unfold kk; exact ⟨by omega, by decide⟩
  | j + 1, hj, h => by
    obtain ⟨h1, h2⟩ := kk10_lt (j := j) (by omega) (fun t ht => h t (by omega))
    have h3 := h j (by omega)
    unfold kk
    rw [Int.pow_succ]
    omega
theorem p10 {j : Nat} (hj : j ≤ 6) : (10 : Int) ^ j ≤ 1000000 := by
  match j, hj with
  | 0, _ => decide
  | 1, _ => decide
  | 2, _ => decide
  | 3, _ => decide
  | 4, _ => decide
  | 5, _ => decide
  | 6, _ => decide
section TXT
variable {h : hS} {n : Nat} {b : Nat → Int}
/-- the class's text: so many bytes -/
def txc (h : hS) (n : Nat) (b : Nat → Int) : Prop := hI h 9 1 = n ∧ n ≤ 1000 ∧ ∀ i : Nat, i < n → hI h 10 i = b i ∧ 0 ≤ b i ∧ b i < 256
/-- cutName's loop -/
theorem c28_l {a : Nat} (T : txc h n b) : ∀ (k i N : Nat), a ≤ i → i + k = n → k < N → (∀ t, a ≤ t → t < i → smL (b t) = true) → lp (fun s => c28_b4 a h s.1 s.2) N ((i : Int), kk 27 (ltr b a) (min (i - a) 6)) = some (((spn smL b k i : Nat) : Int), kk 27 (ltr b a) (min (spn smL b k i - a) 6))
  | 0, i, N, h0, h1, h2, h3 => by
    obtain ⟨N, rfl⟩ : ∃ N1, N = N1 + 1 := ⟨N - 1, by omega⟩
    rw [lp_d (r := ((i : Int), kk 27 (ltr b a) (min (i - a) 6)))]
    · rfl
    · show c28_b4 a h i _ = _
      unfold c28_b4
      rw [T.1, if_pos (by omega)]
  | k + 1, i, N, h0, h1, h2, h3 => by
    obtain ⟨N, rfl⟩ : ∃ N1, N = N1 + 1 := ⟨N - 1, by omega⟩
    obtain ⟨b1, b2, b3⟩ := T.2.2 i (by omega)
    have hn := T.2.1
    unfold spn
    by_cases q : smL (b i) = true
    · have qs : 97 ≤ b i ∧ b i ≤ 122 := of_decide_eq_true q
      rw [if_pos q, lp_n (s' := (((i + 1 : Nat) : Int), kk 27 (ltr b a) (min (i + 1 - a) 6)))]
      · exact c28_l T k (i + 1) N (by omega) (by omega) (by omega) (fun t t1 t2 => by
          by_cases e : t = i
          · rw [e]; exact q
          · exact h3 t t1 (by omega))
      · show c28_b4 a h i _ = _
        unfold c28_b4
        rw [T.1, if_neg (by omega), aIs_s (by omega) (by omega)]
        simp only [bsome, Int.toNat_natCast]
        rw [b1, c27_e, if_pos q]
        simp only [bsome]
        rw [if_neg (show ¬ (1 : Int) = 0 by omega), wsub_e (by omega) (by omega)]
        by_cases c : 6 ≤ (i : Int) - (a : Int)
        · rw [if_pos c, show min (i - a) 6 = 6 by omega, show min (i + 1 - a) 6 = 6 by omega]
          unfold c28_j43
          rw [wadd_e (by omega) (by omega)]
          rfl
        · have hl : ∀ t, t < i - a → 1 ≤ ltr b a t ∧ ltr b a t ≤ 26 := fun t ht => by
            have : 97 ≤ b (a + t) ∧ b (a + t) ≤ 122 := of_decide_eq_true (h3 (a + t) (by omega) (by omega))
            unfold ltr
            omega
          have g1 := (kk27_pos hl).1
          have g2 := kk27_j (j := i - a) (by omega) hl
          rw [if_neg c, show min (i - a) 6 = i - a by omega, show min (i + 1 - a) 6 = (i - a) + 1 by omega]
          unfold c9
          simp only [bsome]
          unfold c28_j43
          rw [wmul_e (by omega) (by omega), wadd_e (x := kk 27 (ltr b a) (i - a) * 27) (by omega) (by omega), wsub_e (by omega) (by omega), wadd_e (y := 1) (by omega) (by omega)]
          have e : kk 27 (ltr b a) (i - a + 1) = kk 27 (ltr b a) (i - a) * 27 + b i - 97 + 1 := by
            show kk 27 (ltr b a) (i - a) * 27 + ltr b a (i - a) = _
            unfold ltr
            rw [show a + (i - a) = i by omega]
            omega
          rw [e, wadd_e (by omega) (by omega)]
          rfl
    · rw [if_neg q, lp_d (r := ((i : Int), kk 27 (ltr b a) (min (i - a) 6)))]
      show c28_b4 a h i _ = _
      unfold c28_b4
      rw [T.1, if_neg (by omega), aIs_s (by omega) (by omega)]
      simp only [bsome, Int.toNat_natCast]
      rw [b1, c27_e, if_neg q]
      simp only [bsome]
      rw [if_pos trivial]
/-- cutNumber's loop -/
theorem c32_l {a : Nat} (T : txc h n b) : ∀ (k i N : Nat), a ≤ i → i + k = n → k < N → (∀ t, a ≤ t → t < i → dgL (b t) = true) → lp (fun s => c32_b4 a h s.1 s.2) N ((i : Int), kk 10 (dgt b a) (min (i - a) 6)) = some (((spn dgL b k i : Nat) : Int), kk 10 (dgt b a) (min (spn dgL b k i - a) 6))
  | 0, i, N, h0, h1, h2, h3 => by
    obtain ⟨N, rfl⟩ : ∃ N1, N = N1 + 1 := ⟨N - 1, by omega⟩
    rw [lp_d (r := ((i : Int), kk 10 (dgt b a) (min (i - a) 6)))]
    · rfl
    · show c32_b4 a h i _ = _
      unfold c32_b4
      rw [T.1, if_pos (by omega)]
  | k + 1, i, N, h0, h1, h2, h3 => by
    obtain ⟨N, rfl⟩ : ∃ N1, N = N1 + 1 := ⟨N - 1, by omega⟩
    obtain ⟨b1, b2, b3⟩ := T.2.2 i (by omega)
    have hn := T.2.1
    unfold spn
    by_cases q : dgL (b i) = true
    · have qs : 48 ≤ b i ∧ b i ≤ 57 := of_decide_eq_true q
      rw [if_pos q, lp_n (s' := (((i + 1 : Nat) : Int), kk 10 (dgt b a) (min (i + 1 - a) 6)))]
      · exact c32_l T k (i + 1) N (by omega) (by omega) (by omega) (fun t t1 t2 => by
          by_cases e : t = i
          · rw [e]; exact q
          · exact h3 t t1 (by omega))
      · show c32_b4 a h i _ = _
        unfold c32_b4
        rw [T.1, if_neg (by omega), aIs_s (by omega) (by omega)]
        simp only [bsome, Int.toNat_natCast]
        rw [b1, c31_e, if_pos q]
        simp only [bsome]
        rw [if_neg (show ¬ (1 : Int) = 0 by omega), wsub_e (y := (a : Int)) (by omega) (by omega)]
        by_cases c : 6 ≤ (i : Int) - (a : Int)
        · rw [if_pos c, show min (i - a) 6 = 6 by omega, show min (i + 1 - a) 6 = 6 by omega]
          unfold c32_j47
          rw [wadd_e (by omega) (by omega)]
          rfl
        · have hl : ∀ t, t < i - a → 0 ≤ dgt b a t ∧ dgt b a t ≤ 9 := fun t ht => by
            have : 48 ≤ b (a + t) ∧ b (a + t) ≤ 57 := of_decide_eq_true (h3 (a + t) (by omega) (by omega))
            unfold dgt
            omega
          obtain ⟨g1, g2⟩ := kk10_lt (j := i - a) (by omega) hl
          have g3 := p10 (j := i - a) (by omega)
          rw [if_neg c, show min (i - a) 6 = i - a by omega, show min (i + 1 - a) 6 = (i - a) + 1 by omega]
          unfold c32_j47
          rw [wmul_e (by omega) (by omega), wadd_e (x := kk 10 (dgt b a) (i - a) * 10) (by omega) (by omega), wsub_e (by omega) (by omega)]
          have e : kk 10 (dgt b a) (i - a + 1) = kk 10 (dgt b a) (i - a) * 10 + b i - 48 := by
            show kk 10 (dgt b a) (i - a) * 10 + dgt b a (i - a) = _
            unfold dgt
            rw [show a + (i - a) = i by omega]
            omega
          rw [e, wadd_e (by omega) (by omega)]
          rfl
    · rw [if_neg q, lp_d (r := ((i : Int), kk 10 (dgt b a) (min (i - a) 6)))]
      show c32_b4 a h i _ = _
      unfold c32_b4
      rw [T.1, if_neg (by omega), aIs_s (by omega) (by omega)]
      simp only [bsome, Int.toNat_natCast]
      rw [b1, c31_e, if_neg q]
      simp only [bsome]
      rw [if_pos trivial]
end TXT
