/-! the other side's look: one token -/
def fj (h h' : hS) : Prop := h'.2.1 = h.2.1 ∧ h'.2.2.2 = h.2.2.2 ∧ (∀ x j, ¬ (x = 395 ∧ (j = 2 ∨ j = 3 ∨ j = 4 ∨ j = 5)) → hI h' x j = hI h x j) ∧ (∀ x j, ¬ (x = 395 ∧ j = 10) → hJ h' x j = hJ h x j)
theorem fj_rf {h : hS} : fj h h := ⟨rfl, rfl, fun _ _ _ => rfl, fun _ _ _ => rfl⟩
theorem fj_tr {h h1 h2 : hS} (a : fj h h1) (b : fj h1 h2) : fj h h2 := ⟨b.1.trans a.1, b.2.1.trans a.2.1, fun x j q => (b.2.2.1 x j q).trans (a.2.2.1 x j q), fun x j q => (b.2.2.2 x j q).trans (a.2.2.2 x j q)⟩
theorem fj_sI {h : hS} {i : Nat} {v : Int} (q : i = 2 ∨ i = 3 ∨ i = 4 ∨ i = 5) : fj h (sI h 395 i v) := ⟨rfl, rfl, fun x j n => by
  rw [hI_sI, if_neg]
  rintro ⟨rfl, rfl⟩
  exact n ⟨rfl, q⟩, fun _ _ _ => rfl⟩
theorem fj_sJ {h : hS} {v : Int64} : fj h (sJ h 395 10 v) := ⟨rfl, rfl, fun _ _ _ => rfl, fun x j n => by rw [hJ_sJ, if_neg n]⟩
section LOK
variable {h : hS} {n : Nat} {b wk : Nat → Int}
def txr (h : hS) (n : Nat) (b : Nat → Int) : Prop := hI h 395 1 = n ∧ n ≤ 1000 ∧ ∀ i : Nat, i < n → hI h 396 i = b i ∧ 0 ≤ b i ∧ b i < 256
theorem txr_fj {h' : hS} (T : txr h n b) (f : fj h h') : txr h' n b := ⟨by rw [f.2.2.1 395 1 (by omega)]; exact T.1, T.2.1, fun i hi => by rw [f.2.2.1 396 i (by omega)]; exact T.2.2 i hi⟩
def see (n : Nat) (b : Nat → Int) (i : Nat) : Int := if n ≤ i then -1 else b i
theorem c189_e (T : txr h n b) {i : Nat} : c189 (i : Int) h = some (see n b i) := by
  unfold c189 see
  rw [T.1]
  have hn := T.2.1
  by_cases c : n ≤ i
  · rw [if_pos (by omega), if_pos c]
  · rw [if_neg (by omega), if_neg c, aIs_s (by omega) (by omega)]
    simp only [bsome, Int.toNat_natCast]
    rw [(T.2.2 i (by omega)).1]
theorem c190_e (c : Int) : c190 c h = some (if smL c = true then 1 else 0) := by
  unfold c190 smL
  rw [c191_e]
  simp only [bsome]
  by_cases q : 97 ≤ c ∧ c ≤ 122
  · rw [if_pos q, kB_s (.inr rfl), if_pos (decide_eq_true q)]
    rfl
  · rw [if_neg q, kB_s (.inl rfl), if_neg (by simpa using q)]
    rfl
theorem c191_d (c : Int) : c191 c 48 57 h = some (if dgL c = true then 1 else 0) := by
  unfold dgL
  rw [c191_e]
  by_cases q : 48 ≤ c ∧ c ≤ 57
  · rw [if_pos q, if_pos (decide_eq_true q)]
  · rw [if_neg q, if_neg (by simpa using q)]
theorem c192_e (c : Int) : c192 c h = some (if lrL c = true then 1 else 0) := by
  unfold c192 lrL
  rw [c191_e]
  simp only [bsome]
  by_cases q : 97 ≤ c ∧ c ≤ 122
  · rw [if_pos q, if_neg (show ¬ (1 : Int) = 0 by omega), if_pos (by simp; omega)]
    rfl
  · rw [if_neg q, if_pos rfl, c191_e]
    simp only [bsome]
    by_cases q2 : 65 ≤ c ∧ c ≤ 90
    · rw [if_pos q2, if_neg (show ¬ (1 : Int) = 0 by omega), if_pos (by simp; omega)]
      rfl
    · rw [if_neg q2, if_pos rfl, if_neg (by simp; omega)]
theorem see_sm {i : Nat} (h1 : smL (see n b i) = true) : i < n ∧ smL (b i) = true := by
  unfold see at h1
  by_cases c : n ≤ i
  · rw [if_pos c] at h1; exact absurd h1 (by decide)
  · rw [if_neg c] at h1; exact ⟨by omega, h1⟩
theorem see_dg {i : Nat} (h1 : dgL (see n b i) = true) : i < n ∧ dgL (b i) = true := by
  unfold see at h1
  by_cases c : n ≤ i
  · rw [if_pos c] at h1; exact absurd h1 (by decide)
  · rw [if_neg c] at h1; exact ⟨by omega, h1⟩
theorem see_lt {i : Nat} (hi : i < n) : see n b i = b i := if_neg (by omega)
theorem see_ge {i : Nat} (hi : n ≤ i) : see n b i = -1 := if_pos hi
/-- spaces are passed -/
theorem c188_sp : ∀ (k i N : Nat) (h : hS), txr h n b → hI h 395 2 = i → i + k = n → k < N → ∃ h', lp (fun s => c188_b0 s) N h = some h' ∧ fj h h' ∧ hI h' 395 2 = ((spn spc b k i : Nat) : Int)
  | 0, i, N, h, T, e1, e2, e3 => by
    obtain ⟨N, rfl⟩ : ∃ N1, N = N1 + 1 := ⟨N - 1, by omega⟩
    refine ⟨h, lp_d ?_, fj_rf, by unfold spn; exact e1⟩
    show c188_b0 h = _
    unfold c188_b0
    rw [e1, c189_e T, see_ge (by omega)]
    simp only [bsome]
    rw [if_neg (by omega), if_neg (by omega)]
  | k + 1, i, N, h, T, e1, e2, e3 => by
    obtain ⟨N, rfl⟩ : ∃ N1, N = N1 + 1 := ⟨N - 1, by omega⟩
    have hn := T.2.1
    unfold spn
    by_cases q : spc (b i) = true
    · rw [if_pos q]
      have f1 : fj h (sI h 395 2 ((i + 1 : Nat) : Int)) := fj_sI (.inl rfl)
      obtain ⟨h', g1, g2, g3⟩ := c188_sp k (i + 1) N (sI h 395 2 ((i + 1 : Nat) : Int)) (txr_fj T f1) (by rw [hI_sI, if_pos ⟨rfl, rfl⟩]) (by omega) (by omega)
      refine ⟨h', (lp_n (s' := sI h 395 2 ((i + 1 : Nat) : Int)) ?_).trans g1, fj_tr f1 g2, g3⟩
      show c188_b0 h = _
      have j26 : c188_j26 h = some (.inl (sI h 395 2 ((i + 1 : Nat) : Int))) := by
        unfold c188_j26
        rw [e1, wadd_e (by omega) (by omega)]
        rfl
      unfold c188_b0
      rw [e1, c189_e T, see_lt (by omega)]
      simp only [bsome]
      rcases (of_decide_eq_true q : b i = 32 ∨ b i = 10) with e | e
      · rw [if_pos e]; exact j26
      · rw [if_neg (by omega), if_pos e]; exact j26
    · rw [if_neg q]
      refine ⟨h, lp_d ?_, fj_rf, e1⟩
      have q' : ¬ (b i = 32 ∨ b i = 10) := fun c => q (decide_eq_true c)
      show c188_b0 h = _
      unfold c188_b0
      rw [e1, c189_e T, see_lt (by omega)]
      simp only [bsome]
      rw [if_neg (by omega), if_neg (by omega)]
/-- the letters of a word -/
theorem c188_nm {a : Nat} : ∀ (k i N : Nat) (h : hS), a ≤ i → txr h n b → hI h 395 2 = i → hJ h 395 10 = Int64.ofInt (kk 64 (ltr b a) (min (i - a) 7)) → i + k = n → k < N → (∀ t, a ≤ t → t < i → smL (b t) = true) → ∃ h', lp (fun s => c188_b88 s.1 s.2) N (((i - a : Nat) : Int), h) = some (((spn smL b k i - a : Nat) : Int), h') ∧ fj h h' ∧ hI h' 395 2 = ((spn smL b k i : Nat) : Int) ∧ hJ h' 395 10 = Int64.ofInt (kk 64 (ltr b a) (min (spn smL b k i - a) 7)) ∧ hI h' 395 3 = hI h 395 3 ∧ hI h' 395 4 = hI h 395 4
  | 0, i, N, h, e0, T, e1, e2, e3, e4, e5 => by
    obtain ⟨N, rfl⟩ : ∃ N1, N = N1 + 1 := ⟨N - 1, by omega⟩
    refine ⟨h, lp_d ?_, fj_rf, e1, e2, rfl, rfl⟩
    show c188_b88 _ h = _
    unfold c188_b88
    rw [e1, c189_e T, see_ge (by omega)]
    simp only [bsome]
    rw [c190_e, if_neg (by decide)]
    simp only [bsome]
    rfl
  | k + 1, i, N, h, e0, T, e1, e2, e3, e4, e5 => by
    obtain ⟨N, rfl⟩ : ∃ N1, N = N1 + 1 := ⟨N - 1, by omega⟩
    have hn := T.2.1
    unfold spn
    by_cases q : smL (b i) = true
    · rw [if_pos q]
      have qs : 97 ≤ b i ∧ b i ≤ 122 := of_decide_eq_true q
      have step : ∃ h1, c188_b88 ((i - a : Nat) : Int) h = some (.inl (((i + 1 - a : Nat) : Int), h1)) ∧ fj h h1 ∧ hI h1 395 2 = ((i + 1 : Nat) : Int) ∧ hJ h1 395 10 = Int64.ofInt (kk 64 (ltr b a) (min (i + 1 - a) 7)) ∧ hI h1 395 3 = hI h 395 3 ∧ hI h1 395 4 = hI h 395 4 := by
        unfold c188_b88
        rw [e1, c189_e T, see_lt (by omega)]
        simp only [bsome]
        rw [c190_e, if_pos q]
        simp only [bsome]
        rw [if_neg (show ¬ (1 : Int) = 0 by omega)]
        by_cases c : 7 ≤ ((i - a : Nat) : Int)
        · rw [if_pos c]
          unfold c188_j127
          rw [e1, wadd_e (by omega) (by omega), wadd_e (by omega) (by omega)]
          refine ⟨sI h 395 2 ((i : Int) + 1), by simp only [bsome]; rw [show ((i - a : Nat) : Int) + 1 = ((i + 1 - a : Nat) : Int) by omega], fj_sI (.inl rfl), by rw [hI_sI, if_pos ⟨rfl, rfl⟩]; omega, ?_, by rw [hI_sI, if_neg (by omega)], by rw [hI_sI, if_neg (by omega)]⟩
          show hJ h 395 10 = _
          rw [e2, show min (i - a) 7 = 7 by omega, show min (i + 1 - a) 7 = 7 by omega]
        · have hl : ∀ t, t < i - a → 1 ≤ ltr b a t ∧ ltr b a t ≤ 26 := fun t ht => by
            have : 97 ≤ b (a + t) ∧ b (a + t) ≤ 122 := of_decide_eq_true (e5 (a + t) (by omega) (by omega))
            unfold ltr
            omega
          have g1 := (kk64_pos hl).1
          have g2 := kk64_lt (j := i - a) (by omega) hl
          rw [if_neg c]
          rw [e2, show min (i - a) 7 = i - a by omega, c187m (y := kk 64 (ltr b a) (i - a + 1)) g1 g2 qs.1 qs.2 (by
            show _ = kk 64 (ltr b a) (i - a) * 64 + ltr b a (i - a)
            unfold ltr
            rw [show a + (i - a) = i by omega])]
          simp only [bsome]
          unfold c188_j127
          have e2' : hI (sJ h 395 10 (Int64.ofInt (kk 64 (ltr b a) (i - a + 1)))) 395 2 = i := e1
          rw [e2', wadd_e (by omega) (by omega), wadd_e (by omega) (by omega)]
          refine ⟨sI (sJ h 395 10 (Int64.ofInt (kk 64 (ltr b a) (i - a + 1)))) 395 2 ((i : Int) + 1), by simp only [bsome]; rw [show ((i - a : Nat) : Int) + 1 = ((i + 1 - a : Nat) : Int) by omega], fj_tr fj_sJ (fj_sI (.inl rfl)), by rw [hI_sI, if_pos ⟨rfl, rfl⟩]; omega, ?_, by rw [hI_sI, if_neg (by omega)]; rfl, by rw [hI_sI, if_neg (by omega)]; rfl⟩
          show hJ (sJ h 395 10 (Int64.ofInt (kk 64 (ltr b a) (i - a + 1)))) 395 10 = _
          rw [hJ_sJ, if_pos ⟨rfl, rfl⟩, show min (i + 1 - a) 7 = i - a + 1 by omega]
      obtain ⟨h1, s1, s2, s3, s4, s5, s6⟩ := step
      obtain ⟨h', g1, g2, g3, g4, g5, g6⟩ := c188_nm (a := a) k (i + 1) N h1 (by omega) (txr_fj T s2) s3 s4 (by omega) (by omega) (fun t t1 t2 => by
        by_cases e : t = i
        · rw [e]; exact q
        · exact e5 t t1 (by omega))
      exact ⟨h', (lp_n (s' := (((i + 1 - a : Nat) : Int), h1)) s1).trans g1, fj_tr s2 g2, g3, g4, g5.trans s5, g6.trans s6⟩
    · rw [if_neg q]
      refine ⟨h, lp_d ?_, fj_rf, e1, e2, rfl, rfl⟩
      show c188_b88 _ h = _
      unfold c188_b88
      rw [e1, c189_e T, see_lt (by omega)]
      simp only [bsome]
      rw [c190_e, if_neg q]
      simp only [bsome]
      rfl
/-- the digits of a number -/
theorem c188_dg {a : Nat} : ∀ (k i N : Nat) (h : hS), a ≤ i → txr h n b → hI h 395 2 = i → hI h 395 5 = kk 10 (dgt b a) (min (i - a) 6) → i + k = n → k < N → (∀ t, a ≤ t → t < i → dgL (b t) = true) → ∃ h', lp (fun s => c188_b219 s.1 s.2) N (((i - a : Nat) : Int), h) = some (((spn dgL b k i - a : Nat) : Int), h') ∧ fj h h' ∧ hI h' 395 2 = ((spn dgL b k i : Nat) : Int) ∧ hI h' 395 5 = kk 10 (dgt b a) (min (spn dgL b k i - a) 6) ∧ hI h' 395 3 = hI h 395 3 ∧ hI h' 395 4 = hI h 395 4
  | 0, i, N, h, e0, T, e1, e2, e3, e4, e5 => by
    obtain ⟨N, rfl⟩ : ∃ N1, N = N1 + 1 := ⟨N - 1, by omega⟩
    refine ⟨h, lp_d ?_, fj_rf, e1, e2, rfl, rfl⟩
    show c188_b219 _ h = _
    unfold c188_b219
    rw [e1, c189_e T, see_ge (by omega)]
    simp only [bsome]
    rw [c191_d, if_neg (by decide)]
    simp only [bsome]
    rfl
  | k + 1, i, N, h, e0, T, e1, e2, e3, e4, e5 => by
    obtain ⟨N, rfl⟩ : ∃ N1, N = N1 + 1 := ⟨N - 1, by omega⟩
    have hn := T.2.1
    unfold spn
    by_cases q : dgL (b i) = true
    · rw [if_pos q]
      have qs : 48 ≤ b i ∧ b i ≤ 57 := of_decide_eq_true q
      have step : ∃ h1, c188_b219 ((i - a : Nat) : Int) h = some (.inl (((i + 1 - a : Nat) : Int), h1)) ∧ fj h h1 ∧ hI h1 395 2 = ((i + 1 : Nat) : Int) ∧ hI h1 395 5 = kk 10 (dgt b a) (min (i + 1 - a) 6) ∧ hI h1 395 3 = hI h 395 3 ∧ hI h1 395 4 = hI h 395 4 := by
        unfold c188_b219
        rw [e1, c189_e T, see_lt (by omega)]
        simp only [bsome]
        rw [c191_d, if_pos q]
        simp only [bsome]
        rw [if_neg (show ¬ (1 : Int) = 0 by omega)]
        by_cases c : 6 ≤ ((i - a : Nat) : Int)
        · rw [if_pos c]
          unfold c188_j266
          rw [e1, wadd_e (by omega) (by omega), wadd_e (by omega) (by omega)]
          refine ⟨sI h 395 2 ((i : Int) + 1), by simp only [bsome]; rw [show ((i - a : Nat) : Int) + 1 = ((i + 1 - a : Nat) : Int) by omega], fj_sI (.inl rfl), by rw [hI_sI, if_pos ⟨rfl, rfl⟩]; omega, ?_, by rw [hI_sI, if_neg (by omega)], by rw [hI_sI, if_neg (by omega)]⟩
          rw [hI_sI, if_neg (by omega), e2, show min (i - a) 6 = 6 by omega, show min (i + 1 - a) 6 = 6 by omega]
        · have hl : ∀ t, t < i - a → 0 ≤ dgt b a t ∧ dgt b a t ≤ 9 := fun t ht => by
            have : 48 ≤ b (a + t) ∧ b (a + t) ≤ 57 := of_decide_eq_true (e5 (a + t) (by omega) (by omega))
            unfold dgt
            omega
          obtain ⟨g1, g2⟩ := kk10_lt (j := i - a) (by omega) hl
          have g3 := p10 (j := i - a) (by omega)
          have e : kk 10 (dgt b a) (i - a + 1) = 10 * kk 10 (dgt b a) (i - a) + b i - 48 := by
            show kk 10 (dgt b a) (i - a) * 10 + dgt b a (i - a) = _
            unfold dgt
            rw [show a + (i - a) = i by omega]
            omega
          rw [if_neg c]
          rw [e2, show min (i - a) 6 = i - a by omega, wmul_e (by omega) (by omega), wadd_e (x := 10 * kk 10 (dgt b a) (i - a)) (by omega) (by omega), wsub_e (by omega) (by omega), ← e]
          unfold c188_j266
          have e2' : hI (sI h 395 5 (kk 10 (dgt b a) (i - a + 1))) 395 2 = i := by rw [hI_sI, if_neg (by omega)]; exact e1
          rw [e2', wadd_e (by omega) (by omega), wadd_e (by omega) (by omega)]
          refine ⟨sI (sI h 395 5 (kk 10 (dgt b a) (i - a + 1))) 395 2 ((i : Int) + 1), by simp only [bsome]; rw [show ((i - a : Nat) : Int) + 1 = ((i + 1 - a : Nat) : Int) by omega], fj_tr (fj_sI (.inr (.inr (.inr rfl)))) (fj_sI (.inl rfl)), by rw [hI_sI, if_pos ⟨rfl, rfl⟩]; omega, ?_, by rw [hI_sI, if_neg (by omega), hI_sI, if_neg (by omega)], by rw [hI_sI, if_neg (by omega), hI_sI, if_neg (by omega)]⟩
          rw [hI_sI, if_neg (by omega), hI_sI, if_pos ⟨rfl, rfl⟩, show min (i + 1 - a) 6 = i - a + 1 by omega]
      obtain ⟨h1, s1, s2, s3, s4, s5, s6⟩ := step
      obtain ⟨h', g1, g2, g3, g4, g5, g6⟩ := c188_dg (a := a) k (i + 1) N h1 (by omega) (txr_fj T s2) s3 s4 (by omega) (by omega) (fun t t1 t2 => by
        by_cases e : t = i
        · rw [e]; exact q
        · exact e5 t t1 (by omega))
      exact ⟨h', (lp_n (s' := (((i + 1 - a : Nat) : Int), h1)) s1).trans g1, fj_tr s2 g2, g3, g4, g5.trans s5, g6.trans s6⟩
    · rw [if_neg q]
      refine ⟨h, lp_d ?_, fj_rf, e1, e2, rfl, rfl⟩
      show c188_b219 _ h = _
      unfold c188_b219
      rw [e1, c189_e T, see_lt (by omega)]
      simp only [bsome]
      rw [c191_d, if_neg q]
      simp only [bsome]
      rfl
end LOK
