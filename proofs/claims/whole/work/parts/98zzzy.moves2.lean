/-! a patch is made: the other side lays the old aside and takes the new -/
/-- the rows of creature c, carried from old to k, in t; from t0 -/
def RWq (t0 t : hS) (m : Nat) (old k : Int) (c : Nat) : Prop := ∀ n : Nat, n < 40 → (hI t 405 (40 * c + n) = if hI t0 442 (40 * c + n) = 0 then hI t0 405 (40 * c + n) else hI t0 440 (40 * c + n)) ∧ (LSq t0 m old k n → hI t 407 (40 * c + n) = 1 ∧ hI t 406 (40 * c + n) = hI t0 405 (40 * c + n)) ∧ (¬ LSq t0 m old k n → hI t 407 (40 * c + n) = hI t0 407 (40 * c + n) ∧ hI t 406 (40 * c + n) = hI t0 406 (40 * c + n))
/-- the rows of creature c, as they were -/
def RSq (t0 t : hS) (c : Nat) : Prop := ∀ n, n < 40 → hI t 405 (40 * c + n) = hI t0 405 (40 * c + n) ∧ hI t 406 (40 * c + n) = hI t0 406 (40 * c + n) ∧ hI t 407 (40 * c + n) = hI t0 407 (40 * c + n)
section MV2
variable {t t0 t' t1 : hS} {m m0 q c : Nat} {r r0 : Int → Nat} {old k : Int}
theorem c283_112 : ∀ (D i N : Nat) (t : hS), i + D = 1600 → D < N → fp (fun x _ => x = 438 ∨ x = 439 ∨ x = 441) t0 t → (∀ j, j < i → hI t 438 j = hI t0 405 j ∧ hI t 439 j = hI t0 406 j ∧ hI t 441 j = wbol (hI t0 407 j)) → ∃ t', lp (fun s => c283_b112 s.1 s.2) N ((i : Int), t) = some t' ∧ fp (fun x _ => x = 438 ∨ x = 439 ∨ x = 441) t0 t' ∧ ∀ j, j < 1600 → hI t' 438 j = hI t0 405 j ∧ hI t' 439 j = hI t0 406 j ∧ hI t' 441 j = wbol (hI t0 407 j)
  | 0, i, N, t, hi, hN, f, H => by
    obtain ⟨N, rfl⟩ : ∃ n, N = n + 1 := ⟨N - 1, by omega⟩
    obtain rfl : i = 1600 := by omega
    refine ⟨t, lp_d ?_, f, H⟩
    show c283_b112 ((1600 : Nat) : Int) t = _
    unfold c283_b112
    rw [if_pos (by omega)]
  | D + 1, i, N, t, hi, hN, f, H => by
    obtain ⟨N, rfl⟩ : ∃ n, N = n + 1 := ⟨N - 1, by omega⟩
    obtain ⟨ta, ea⟩ : ∃ ta, ta = sI t 438 i (hI t0 405 i) := ⟨_, rfl⟩
    obtain ⟨tb, eb⟩ : ∃ tb, tb = sI ta 439 i (hI t0 406 i) := ⟨_, rfl⟩
    obtain ⟨tc, ec⟩ : ∃ tc, tc = sI tb 441 i (wbol (hI t0 407 i)) := ⟨_, rfl⟩
    have fa : fp (fun x _ => x = 438 ∨ x = 439 ∨ x = 441) t ta := by rw [ea]; exact fp_sI (.inl rfl)
    have fb : fp (fun x _ => x = 438 ∨ x = 439 ∨ x = 441) ta tb := by rw [eb]; exact fp_sI (.inr (.inl rfl))
    have fc : fp (fun x _ => x = 438 ∨ x = 439 ∨ x = 441) tb tc := by rw [ec]; exact fp_sI (.inr (.inr rfl))
    obtain ⟨t', a1, a2, a3⟩ := c283_112 D (i + 1) N tc (by omega) (by omega) (fp_tr f (fp_tr fa (fp_tr fb fc))) (fun j hj => by
      by_cases c : j = i
      · subst c
        refine ⟨?_, ?_, ?_⟩
        · rw [ec, hI_sI, if_neg (by omega), eb, hI_sI, if_neg (by omega), ea, hI_sI, if_pos ⟨rfl, rfl⟩]
        · rw [ec, hI_sI, if_neg (by omega), eb, hI_sI, if_pos ⟨rfl, rfl⟩]
        · rw [ec, hI_sI, if_pos ⟨rfl, rfl⟩]
      · have e : ∀ x, hI tc x j = hI t x j := fun x => by rw [ec, hI_sI, if_neg (by omega), eb, hI_sI, if_neg (by omega), ea, hI_sI, if_neg (by omega)]
        rw [e, e, e]
        exact H j (by omega))
    refine ⟨t', (lp_n (s' := (((i + 1 : Nat) : Int), tc)) ?_).trans a1, a2, a3⟩
    show c283_b112 (i : Int) t = _
    unfold c283_b112
    rw [if_neg (by omega)]
    refine bnd (aIs_s (by omega) (by omega)) ?_
    rw [Int.toNat_natCast, f.2 405 i (by omega)]
    refine bnd ((wIs_s (by omega) (by omega)).trans (congrArg some (show sI t 438 ((i : Int)).toNat (hI t0 405 i) = ta by rw [Int.toNat_natCast]; exact ea.symm))) ?_
    refine bnd (aIs_s (by omega) (by omega)) ?_
    rw [Int.toNat_natCast, fa.2 406 i (by omega), f.2 406 i (by omega)]
    refine bnd ((wIs_s (by omega) (by omega)).trans (congrArg some (show sI ta 439 ((i : Int)).toNat (hI t0 406 i) = tb by rw [Int.toNat_natCast]; exact eb.symm))) ?_
    refine bnd (aIs_s (by omega) (by omega)) ?_
    rw [Int.toNat_natCast, fb.2 407 i (by omega), fa.2 407 i (by omega), f.2 407 i (by omega)]
    refine bnd ((wIs_s (by omega) (by omega)).trans (congrArg some (show sI tb 441 ((i : Int)).toNat (wbol (hI t0 407 i)) = tc by rw [Int.toNat_natCast]; exact ec.symm))) ?_
    rw [wadd_n (by omega)]
/-- one world is written over another -/
theorem c226_g {a b : Nat} (ab : a ≠ b) (a3 : a < 3) (b3 : b < 3) : ∃ t', c226 (a : Int) (b : Int) t0 = some t' ∧ fp (fun x j => x = 400 ∧ 769 * b ≤ j ∧ j < 769 * b + 769) t0 t' ∧ ∀ j, j < 769 → hI t' 400 (769 * b + j) = hI t0 400 (769 * a + j) := by
  obtain ⟨t', a1, a2, a3'⟩ := c226_l a3 b3 ab t0 769 0 hF0 t0 (by omega) (hF0_lt (by omega)) fp_rf (fun j hj => by omega)
  refine ⟨t', ?_, a2, a3'⟩
  unfold c226
  exact bnd a1 rfl
/-- the world in force goes aside as the former one -/
theorem c283_281 : ∀ (D i N : Nat) (t : hS), i + D = 769 → D < N → fp (fun x j => x = 447 ∨ (x = 400 ∧ 1538 ≤ j ∧ j < 2307)) t0 t → (∀ j, j < i → hI t 447 j = hI t0 400 (1538 + j) ∧ hI t 400 (1538 + j) = hI t0 400 j) → (∀ j, i ≤ j → j < 769 → hI t 400 (1538 + j) = hI t0 400 (1538 + j)) → ∃ t', lp (fun s => c283_b281 s.1 s.2) N ((i : Int), t) = some t' ∧ fp (fun x j => x = 447 ∨ (x = 400 ∧ 1538 ≤ j ∧ j < 2307)) t0 t' ∧ ∀ j, j < 769 → hI t' 447 j = hI t0 400 (1538 + j) ∧ hI t' 400 (1538 + j) = hI t0 400 j
  | 0, i, N, t, hi, hN, f, H, _ => by
    obtain ⟨N, rfl⟩ : ∃ n, N = n + 1 := ⟨N - 1, by omega⟩
    obtain rfl : i = 769 := by omega
    refine ⟨t, lp_d ?_, f, H⟩
    show c283_b281 ((769 : Nat) : Int) t = _
    unfold c283_b281
    rw [if_pos (by omega)]
  | D + 1, i, N, t, hi, hN, f, H, H2 => by
    obtain ⟨N, rfl⟩ : ∃ n, N = n + 1 := ⟨N - 1, by omega⟩
    obtain ⟨ta, ea⟩ : ∃ ta, ta = sI t 447 i (hI t0 400 (1538 + i)) := ⟨_, rfl⟩
    obtain ⟨tb, eb⟩ : ∃ tb, tb = sI ta 400 (1538 + i) (hI t0 400 i) := ⟨_, rfl⟩
    have fa : fp (fun x j => x = 447 ∨ (x = 400 ∧ 1538 ≤ j ∧ j < 2307)) t ta := by rw [ea]; exact fp_sI (.inl rfl)
    have fb : fp (fun x j => x = 447 ∨ (x = 400 ∧ 1538 ≤ j ∧ j < 2307)) ta tb := by rw [eb]; exact fp_sI (.inr ⟨rfl, by omega, by omega⟩)
    obtain ⟨t', a1, a2, a3'⟩ := c283_281 D (i + 1) N tb (by omega) (by omega) (fp_tr f (fp_tr fa fb)) (fun j hj => by
      by_cases c : j = i
      · subst c
        refine ⟨?_, ?_⟩
        · rw [eb, hI_sI, if_neg (by omega), ea, hI_sI, if_pos ⟨rfl, rfl⟩]
        · rw [eb, hI_sI, if_pos ⟨rfl, rfl⟩]
      · rw [eb, hI_sI, if_neg (by omega), hI_sI, if_neg (by omega), ea, hI_sI, if_neg (by omega), hI_sI, if_neg (by omega)]
        exact H j (by omega)) (fun j h1 h2 => by
      rw [eb, hI_sI, if_neg (by omega), ea, hI_sI, if_neg (by omega)]
      exact H2 j (by omega) h2)
    refine ⟨t', (lp_n (s' := (((i + 1 : Nat) : Int), tb)) ?_).trans a1, a2, a3'⟩
    show c283_b281 (i : Int) t = _
    unfold c283_b281
    rw [if_neg (by omega), wadd_e (x := 1538) (by omega) (by omega)]
    refine bnd (aIs_s (by omega) (by omega)) ?_
    rw [Int.toNat_natCast, f.2 400 i (by omega)]
    refine bnd (aIs_s (by omega) (by omega)) ?_
    rw [show (1538 + (i : Int)).toNat = 1538 + i by omega, H2 i (Nat.le_refl _) (by omega)]
    refine bnd ((wIs_s (by omega) (by omega)).trans (congrArg some (show sI t 447 ((i : Int)).toNat (hI t0 400 (1538 + i)) = ta by rw [Int.toNat_natCast]; exact ea.symm))) ?_
    refine bnd ((wIs_s (by omega) (by omega)).trans (congrArg some (show sI ta 400 (1538 + (i : Int)).toNat (hI t0 400 i) = tb by rw [show (1538 + (i : Int)).toNat = 1538 + i by omega]; exact eb.symm))) ?_
    rw [wadd_n (by omega)]
/-- the creatures' kinds are the new ones -/
theorem c283_336 (e33 : hI t0 395 33 = (q : Int)) (q40 : q ≤ 40) : ∀ (D i N : Nat) (t : hS), i + D = q → D < N → fp (fun x _ => x = 404) t0 t → (∀ c, c < i → hI t 404 c = if hI t0 446 c = -1 then hI t0 404 c else hI t0 446 c) → (∀ c, i ≤ c → hI t 404 c = hI t0 404 c) → ∃ t', lp (fun s => c283_b336 s.1 s.2) N ((i : Int), t) = some t' ∧ fp (fun x _ => x = 404) t0 t' ∧ (∀ c, c < q → hI t' 404 c = if hI t0 446 c = -1 then hI t0 404 c else hI t0 446 c) ∧ ∀ c, q ≤ c → hI t' 404 c = hI t0 404 c
  | 0, i, N, t, hi, hN, f, H, H2 => by
    obtain ⟨N, rfl⟩ : ∃ n, N = n + 1 := ⟨N - 1, by omega⟩
    obtain rfl : i = q := by omega
    refine ⟨t, lp_d ?_, f, H, H2⟩
    show c283_b336 (i : Int) t = _
    unfold c283_b336
    rw [f.2 395 33 (by omega), e33, if_pos (by omega)]
  | D + 1, i, N, t, hi, hN, f, H, H2 => by
    obtain ⟨N, rfl⟩ : ∃ n, N = n + 1 := ⟨N - 1, by omega⟩
    have go : ∀ t1, fp (fun x _ => x = 404) t t1 → (hI t1 404 i = if hI t0 446 i = -1 then hI t0 404 i else hI t0 446 i) → (∀ c, c ≠ i → hI t1 404 c = hI t 404 c) → c283_b336 (i : Int) t = some (.inl (((i + 1 : Nat) : Int), t1)) → ∃ t', lp (fun s => c283_b336 s.1 s.2) (N + 1) ((i : Int), t) = some t' ∧ fp (fun x _ => x = 404) t0 t' ∧ (∀ c, c < q → hI t' 404 c = if hI t0 446 c = -1 then hI t0 404 c else hI t0 446 c) ∧ ∀ c, q ≤ c → hI t' 404 c = hI t0 404 c := fun t1 f1 e1 e2 e => by
      obtain ⟨t', a1, a2, a3, a4⟩ := c283_336 e33 q40 D (i + 1) N t1 (by omega) (by omega) (fp_tr f f1) (fun c hc => by
        by_cases z : c = i
        · rw [z]; exact e1
        · rw [e2 c z]
          exact H c (by omega)) (fun c hc => by rw [e2 c (by omega)]; exact H2 c (by omega))
      refine ⟨t', ?_, a2, a3, a4⟩
      refine (lp_n (s' := (((i + 1 : Nat) : Int), t1)) ?_).trans a1
      exact e
    have e446 : hI t 446 i = hI t0 446 i := f.2 446 i (by omega)
    by_cases z : hI t0 446 i = -1
    · refine go t fp_rf (by rw [if_pos z]; exact H2 i (Nat.le_refl _)) (fun _ _ => rfl) ?_
      unfold c283_b336 c283_j366
      rw [f.2 395 33 (by omega), e33, if_neg (by omega)]
      refine bnd (aIs_s (by omega) (by omega)) ?_
      rw [Int.toNat_natCast, e446, if_pos z, wadd_n (by omega)]
    · obtain ⟨t1, et⟩ : ∃ t1, t1 = sI t 404 i (hI t0 446 i) := ⟨_, rfl⟩
      refine go t1 (by rw [et]; exact fp_sI rfl) (by rw [if_neg z, et, hI_sI, if_pos ⟨rfl, rfl⟩]) (fun c hc => by rw [et, hI_sI, if_neg (fun y => hc y.2)]) ?_
      unfold c283_b336 c283_j366
      rw [f.2 395 33 (by omega), e33, if_neg (by omega)]
      refine bnd (aIs_s (by omega) (by omega)) ?_
      rw [Int.toNat_natCast, e446, if_neg z]
      refine bnd (aIs_s (by omega) (by omega)) ?_
      rw [Int.toNat_natCast, e446]
      refine bnd ((wIs_s (by omega) (by omega)).trans (congrArg some (show sI t 404 ((i : Int)).toNat (hI t0 446 i) = t1 by rw [Int.toNat_natCast]; exact et.symm))) ?_
      rw [wadd_n (by omega)]
end MV2
