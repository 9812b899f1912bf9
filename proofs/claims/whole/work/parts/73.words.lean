/-! words by two packings -/
def kk (B : Int) (f : Nat → Int) : Nat → Int
  | 0 => 0
  | j + 1 => kk B f j * B + f j
theorem kk_congr {B : Int} {f g : Nat → Int} : ∀ {j : Nat}, (∀ t, t < j → f t = g t) → kk B f j = kk B g j
  | 0, _ => rfl
  | j + 1, h => by
    unfold kk
    rw [kk_congr (j := j) (fun t ht => h t (by omega)), h j (by omega)]
theorem kk27_pos {f : Nat → Int} : ∀ {j : Nat}, (∀ t, t < j → 1 ≤ f t ∧ f t ≤ 26) → 0 ≤ kk 27 f j ∧ (0 < j → 0 < kk 27 f j)
  | 0, _ => ⟨by unfold kk; omega, fun h => by omega⟩
  | j + 1, h => by
    have h1 := (kk27_pos (j := j) (fun t ht => h t (by omega))).1
    have h2 := h j (by omega)
    unfold kk
    exact ⟨by omega, fun _ => by omega⟩
theorem kk64_pos {f : Nat → Int} : ∀ {j : Nat}, (∀ t, t < j → 1 ≤ f t ∧ f t ≤ 26) → 0 ≤ kk 64 f j ∧ (0 < j → 0 < kk 64 f j)
  | 0, _ => ⟨by unfold kk; omega, fun h => by omega⟩
  | j + 1, h => by
    have h1 := (kk64_pos (j := j) (fun t ht => h t (by omega))).1
    have h2 := h j (by omega)
    unfold kk
    exact ⟨by omega, fun _ => by omega⟩
theorem kk27_inj {f g : Nat → Int} : ∀ {j i : Nat}, (∀ t, t < j → 1 ≤ f t ∧ f t ≤ 26) → (∀ t, t < i → 1 ≤ g t ∧ g t ≤ 26) → kk 27 f j = kk 27 g i → j = i ∧ ∀ t, t < j → f t = g t
  | 0, 0, _, _, _ => ⟨rfl, fun t h => by omega⟩
  | 0, i + 1, _, hg, e => by
    have := (kk27_pos hg).2 (by omega)
    rw [← e] at this
    exact absurd this (by unfold kk; omega)
  | j + 1, 0, hf, _, e => by
    have := (kk27_pos hf).2 (by omega)
    rw [e] at this
    exact absurd this (by unfold kk; omega)
  | j + 1, i + 1, hf, hg, e => by
    have h1 := hf j (by omega)
    have h2 := hg i (by omega)
    unfold kk at e
    obtain ⟨e1, e2⟩ := kk27_inj (j := j) (i := i) (fun t ht => hf t (by omega)) (fun t ht => hg t (by omega)) (by omega)
    subst e1
    refine ⟨rfl, fun t ht => ?_⟩
    by_cases q : t = j
    · subst q; omega
    · exact e2 t (by omega)
theorem kk64_inj {f g : Nat → Int} : ∀ {j i : Nat}, (∀ t, t < j → 1 ≤ f t ∧ f t ≤ 26) → (∀ t, t < i → 1 ≤ g t ∧ g t ≤ 26) → kk 64 f j = kk 64 g i → j = i ∧ ∀ t, t < j → f t = g t
  | 0, 0, _, _, _ => ⟨rfl, fun t h => by omega⟩
  | 0, i + 1, _, hg, e => by
    have := (kk64_pos hg).2 (by omega)
    rw [← e] at this
    exact absurd this (by unfold kk; omega)
  | j + 1, 0, hf, _, e => by
    have := (kk64_pos hf).2 (by omega)
    rw [e] at this
    exact absurd this (by unfold kk; omega)
  | j + 1, i + 1, hf, hg, e => by
    have h1 := hf j (by omega)
    have h2 := hg i (by omega)
    unfold kk at e
    obtain ⟨e1, e2⟩ := kk64_inj (j := j) (i := i) (fun t ht => hf t (by omega)) (fun t ht => hg t (by omega)) (by omega)
    subst e1
    refine ⟨rfl, fun t ht => ?_⟩
    by_cases q : t = j
    · subst q; omega
    · exact e2 t (by omega)
theorem kk27_lt {f : Nat → Int} {j : Nat} (hj : j ≤ 6) (h : ∀ t, t < j → 1 ≤ f t ∧ f t ≤ 26) : kk 27 f j < 387420489 := by
  have key : ∀ j, j ≤ 6 → (∀ t, t < j → 1 ≤ f t ∧ f t ≤ 26) → kk 27 f j < 27 ^ j := by
    intro j
    induction j with
    | zero => intro _ _; unfold kk; omega
    | succ j ih =>
      intro hj h
      have h1 := ih (by omega) (fun t ht => h t (by omega))
      have h2 := h j (by omega)
      unfold kk
      rw [Int.pow_succ]
      omega
  have h1 := key j hj h
  have h2 : (27 : Int) ^ j ≤ 387420489 := by
    match j, hj with
    | 0, _ => decide
    | 1, _ => decide
    | 2, _ => decide
    | 3, _ => decide
    | 4, _ => decide
    | 5, _ => decide
    | 6, _ => decide
  omega
theorem kk64_lt {f : Nat → Int} {j : Nat} (hj : j ≤ 6) (h : ∀ t, t < j → 1 ≤ f t ∧ f t ≤ 26) : kk 64 f j < 68719476736 := by
  have key : ∀ j, j ≤ 6 → (∀ t, t < j → 1 ≤ f t ∧ f t ≤ 26) → kk 64 f j < 64 ^ j := by
    intro j
    induction j with
    | zero => intro _ _; unfold kk; omega
    | succ j ih =>
      intro hj h
      have h1 := ih (by omega) (fun t ht => h t (by omega))
      have h2 := h j (by omega)
      unfold kk
      rw [Int.pow_succ]
      omega
  have h1 := key j hj h
  have h2 : (64 : Int) ^ j ≤ 68719476736 := by
    match j, hj with
    | 0, _ => decide
    | 1, _ => decide
    | 2, _ => decide
    | 3, _ => decide
    | 4, _ => decide
    | 5, _ => decide
    | 6, _ => decide
  omega
/-- the keys of one word, in the class and on the other side -/
def W2R (a : Int) (l : Int64) : Prop := ∃ (f : Nat → Int) (j : Nat), (1 ≤ j ∧ j ≤ 6) ∧ (∀ t, t < j → 1 ≤ f t ∧ f t ≤ 26) ∧ a = kk 27 f j ∧ l = Int64.ofInt (kk 64 f j)
theorem ofInt64_inj {x y : Int} (x0 : 0 ≤ x) (x1 : x < 68719476736) (y0 : 0 ≤ y) (y1 : y < 68719476736) (e : Int64.ofInt x = Int64.ofInt y) : x = y := by
  have := congrArg Int64.toInt e
  rw [Int64.toInt_ofInt_of_le (by omega) (by omega), Int64.toInt_ofInt_of_le (by omega) (by omega)] at this
  exact this
theorem W2R_iff {a a' : Int} {l l' : Int64} (h : W2R a l) (h' : W2R a' l') : a = a' ↔ l = l' := by
  obtain ⟨f, j, ⟨j1, j2⟩, hf, rfl, rfl⟩ := h
  obtain ⟨g, i, ⟨i1, i2⟩, hg, rfl, rfl⟩ := h'
  constructor
  · intro e
    obtain ⟨rfl, e2⟩ := kk27_inj hf hg e
    rw [kk_congr e2]
  · intro e
    have e := ofInt64_inj (kk64_pos hf).1 (kk64_lt j2 hf) (kk64_pos hg).1 (kk64_lt i2 hg) e
    obtain ⟨rfl, e2⟩ := kk64_inj hf hg e
    rw [kk_congr e2]
/-! one letter more -/
theorem sh6 {X D : Nat} (hX : X < 68719476736) (hD : D < 64) : (Int64.ofNat X <<< (6 : Int64)) ||| Int64.ofNat D = Int64.ofNat (64 * X + D) := by
  apply Int64.toBitVec_inj.mp
  show (BitVec.ofNat 64 X <<< 6) ||| BitVec.ofNat 64 D = BitVec.ofNat 64 (64 * X + D)
  apply BitVec.eq_of_toNat_eq
  rw [BitVec.toNat_or, BitVec.toNat_shiftLeft, BitVec.toNat_ofNat, BitVec.toNat_ofNat, BitVec.toNat_ofNat, Nat.mod_eq_of_lt (show X < 2 ^ 64 by omega), Nat.mod_eq_of_lt (show D < 2 ^ 64 by omega), Nat.mod_eq_of_lt (show 64 * X + D < 2 ^ 64 by omega), Nat.shiftLeft_eq, Nat.mod_eq_of_lt (show X * 2 ^ 6 < 2 ^ 64 by omega), Nat.mul_comm X]
  exact (Nat.two_pow_add_eq_or_of_lt (i := 6) hD X).symm
theorem ofInt64_nat {x : Int} (x0 : 0 ≤ x) : Int64.ofInt x = Int64.ofNat x.toNat := by
  obtain ⟨n, rfl⟩ := Int.eq_ofNat_of_zero_le x0
  rfl
theorem more_e {x d : Int} (x0 : 0 ≤ x) (x1 : x < 68719476736) (d0 : 1 ≤ d) (d1 : d ≤ 26) : wlsh (Int64.ofInt x) 6 ||| wlng d = Int64.ofInt (x * 64 + d) := by
  have e1 : wlng d = Int64.ofNat d.toNat := by
    unfold wlng
    apply Int64.toInt_inj.mp
    rw [Int32.toInt_toInt64, Int32.toInt_ofInt_of_le (by omega) (by omega), ← ofInt64_nat (by omega), Int64.toInt_ofInt_of_le (by omega) (by omega)]
  have e2 : wlsh (Int64.ofInt x) 6 = Int64.ofNat x.toNat <<< (6 : Int64) := by
    rw [ofInt64_nat x0]
    rfl
  rw [e1, e2, sh6 (by omega) (by omega), ofInt64_nat (by omega)]
  congr 1
  omega
