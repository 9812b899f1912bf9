/-! a patch is made: the other side closes a gap -/
section CLO
variable {h h' h0 h1 t t' : hS} {k m : Nat} {w : Int}
theorem c281_in {u base wd r n : Int} (u0 : 0 ≤ u) (u1 : u < 12) (b0 : 0 ≤ base + wd * r) (bw : base + wd * r + n ≤ 64) (n8 : n ≤ 8) (r0 : 0 ≤ r ∧ r ≤ 8) (w0 : 0 ≤ wd ∧ wd ≤ 8) (bb : 0 ≤ base ∧ base ≤ 64) : ∀ (D i N : Nat) (h : hS), (i : Int) + D = n → D < N → ∃ h', lp (fun s => c281_b37 u base n r wd s.1 s.2) N ((i : Int), h) = some h' ∧ fw h h' ∧ wm h' 1 = wm h 1 ∧ (∀ g : Int, base + wd * r + i ≤ g → g + 1 < base + wd * r + n → wg h' 1 u g = wg h 1 u (g + 1)) ∧ ∀ v g : Int, 0 ≤ v → v < 12 → 0 ≤ g → g < 64 → ¬ (v = u ∧ base + wd * r + i ≤ g ∧ g + 1 < base + wd * r + n) → wg h' 1 v g = wg h 1 v g
  | 0, i, N, h, hi, hN => by
    obtain ⟨N, rfl⟩ : ∃ n, N = n + 1 := ⟨N - 1, by omega⟩
    refine ⟨h, lp_d ?_, fp_rf, rfl, fun g g1 g2 => by omega, fun v g _ _ _ _ _ => rfl⟩
    show c281_b37 u base n r wd (i : Int) h = _
    unfold c281_b37
    rw [wadd_e (by omega) (by omega), if_pos (by omega)]
  | D + 1, i, N, h, hi, hN => by
    obtain ⟨N, rfl⟩ : ∃ n, N = n + 1 := ⟨N - 1, by omega⟩
    have rw8 : 0 ≤ wd * r ∧ wd * r ≤ 64 := ⟨Int.mul_nonneg w0.1 r0.1, by have : wd * r ≤ 8 * 8 := Int.mul_le_mul w0.2 r0.2 r0.1 (by omega); omega⟩
    by_cases c : D = 0
    · subst c
      refine ⟨h, lp_d ?_, fp_rf, rfl, fun g g1 g2 => by omega, fun v g _ _ _ _ _ => rfl⟩
      show c281_b37 u base n r wd (i : Int) h = _
      unfold c281_b37
      rw [wadd_e (by omega) (by omega), if_pos (by omega)]
    · obtain ⟨h1, e1⟩ : ∃ h1, h1 = wset h 1 u (base + wd * r + i) (wg h 1 u (base + wd * r + i + 1)) := ⟨_, rfl⟩
      have w1 : ∀ v g : Int, 0 ≤ v → v < 12 → 0 ≤ g → g < 64 → wg h1 1 v g = if v = u ∧ g = base + wd * r + i then wg h 1 u (base + wd * r + i + 1) else wg h 1 v g := fun v g v0 v1 g0 g1 => by rw [e1, wgs u0 u1 (by omega) (by omega) v0 v1 g0 g1]
      obtain ⟨h', a1, a2, a3, a4, a5⟩ := c281_in u0 u1 b0 bw n8 r0 w0 bb D (i + 1) N h1 (by omega) (by omega)
      refine ⟨h', (lp_n (s' := (((i + 1 : Nat) : Int), h1)) ?_).trans a1, fp_tr (by rw [e1]; exact fw_set u0 u1 (by omega) (by omega)) a2, by rw [a3, e1, wms u0 u1 (by omega) (by omega)], fun g g1 g2 => ?_, fun v g v0 v1 g0 g1 hn => ?_⟩
      · show c281_b37 u base n r wd (i : Int) h = _
        unfold c281_b37
        rw [wadd_e (x := (i : Int)) (y := 1) (by omega) (by omega), if_neg (by omega), wmul_e (by omega) (by omega), wadd_e (x := base) (y := wd * r) (by omega) (by omega), wadd_e (x := base + wd * r) (y := (i : Int)) (by omega) (by omega), wadd_e (x := base + wd * r + i) (y := 1) (by omega) (by omega)]
        refine bnd (c199_e (by omega) (by omega) u0 u1 (by omega) (by omega)) ?_
        refine bnd ((c201_e (by omega) (by omega) u0 u1 (by omega) (by omega)).trans (congrArg some e1.symm)) ?_
        rfl
      · by_cases c : g = base + wd * r + i
        · rw [a5 u g u0 u1 (by omega) (by omega) (by omega), w1 u g u0 u1 (by omega) (by omega), if_pos ⟨rfl, c⟩, c]
        · rw [a4 g (by omega) g2, w1 u _ u0 u1 (by omega) (by omega), if_neg (by omega)]
      · rw [a5 v g v0 v1 g0 g1 (by omega), w1 v g v0 v1 g0 g1, if_neg (by omega)]
/-- the gap at i is closed in each of the rows -/
theorem c281_e {u base many wd : Int} {n i rows : Nat} (u0 : 0 ≤ u) (u1 : u < 12) (hb : (base = 6 ∧ many = 5 ∧ wd = 8 ∧ rows = 3) ∨ (base = 31 ∧ many = 30 ∧ wd = 4 ∧ rows = 2) ∨ (base = 40 ∧ many = 39 ∧ wd = 8 ∧ rows = 2)) (hn : wg h 1 u many = (n : Int)) (nw : (n : Int) ≤ wd) (hi : i < n) : ∃ h', c281 u base (i : Int) many (rows : Int) h = some h' ∧ fw h h' ∧ wm h' 1 = wm h 1 ∧ wg h' 1 u many = (n : Int) - 1 ∧ (∀ (r : Nat) (g : Int), r < rows → base + wd * r + i ≤ g → g + 1 < base + wd * r + n → wg h' 1 u g = wg h 1 u (g + 1)) ∧ ∀ v g : Int, 0 ≤ v → v < 12 → 0 ≤ g → g < 64 → ¬ (v = u ∧ (g = many ∨ ∃ r : Nat, r < rows ∧ base + wd * r + i ≤ g ∧ g + 1 < base + wd * r + n)) → wg h' 1 v g = wg h 1 v g := by
  have hb2 : 0 ≤ base ∧ base + wd * rows ≤ 64 ∧ 0 ≤ wd ∧ wd ≤ 8 ∧ rows ≤ 3 ∧ 0 ≤ many ∧ many < 64 ∧ (many < base) := by
    rcases hb with ⟨rfl, rfl, rfl, rfl⟩ | ⟨rfl, rfl, rfl, rfl⟩ | ⟨rfl, rfl, rfl, rfl⟩ <;> omega
  have hw : (if base = 31 then (4 : Int) else 8) = wd := by
    rcases hb with ⟨rfl, rfl, rfl, rfl⟩ | ⟨rfl, rfl, rfl, rfl⟩ | ⟨rfl, rfl, rfl, rfl⟩ <;> rfl
  have out : ∀ (D r N : Nat) (h : hS), r + D = rows → D < N → ∃ h', lp (fun s => c281_b13 u base (i : Int) (rows : Int) (n : Int) s.1 s.2) N ((r : Int), h) = some h' ∧ fw h h' ∧ wm h' 1 = wm h 1 ∧ (∀ (s : Nat) (g : Int), r ≤ s → s < rows → base + wd * s + i ≤ g → g + 1 < base + wd * s + n → wg h' 1 u g = wg h 1 u (g + 1)) ∧ ∀ v g : Int, 0 ≤ v → v < 12 → 0 ≤ g → g < 64 → ¬ (v = u ∧ ∃ s : Nat, r ≤ s ∧ s < rows ∧ base + wd * s + i ≤ g ∧ g + 1 < base + wd * s + n) → wg h' 1 v g = wg h 1 v g := by
    intro D
    induction D with
    | zero =>
      intro r N h hr hN
      obtain ⟨N, rfl⟩ : ∃ n, N = n + 1 := ⟨N - 1, by omega⟩
      refine ⟨h, lp_d ?_, fp_rf, rfl, fun s g s1 s2 _ _ => by omega, fun v g _ _ _ _ _ => rfl⟩
      show c281_b13 u base (i : Int) (rows : Int) (n : Int) (r : Int) h = _
      unfold c281_b13
      rw [if_pos (by omega)]
    | succ D ih =>
      intro r N h hr hN
      obtain ⟨N, rfl⟩ : ∃ n, N = n + 1 := ⟨N - 1, by omega⟩
      have rr : 0 ≤ wd * (r : Int) ∧ wd * (r : Int) + wd ≤ wd * (rows : Int) := ⟨Int.mul_nonneg hb2.2.2.1 (by omega), by
        have : wd * ((r : Int) + 1) ≤ wd * (rows : Int) := Int.mul_le_mul_of_nonneg_left (by omega) hb2.2.2.1
        rw [Int.mul_add, Int.mul_one] at this
        exact this⟩
      obtain ⟨h1, a1, a2, a3, a4, a5⟩ := c281_in (u := u) (base := base) (wd := wd) (r := (r : Int)) (n := (n : Int)) u0 u1 (by omega) (by omega) (by omega) (by omega) (by omega) (by omega) (n - i) i hF0 h (by omega) (hF0_lt (by omega))
      obtain ⟨h', b1, b2, b3, b4, b5⟩ := ih (r + 1) N h1 (by omega) (by omega)
      have mono : ∀ s : Nat, r + 1 ≤ s → wd * (r : Int) + wd ≤ wd * (s : Int) := fun s hs => by
        have : wd * ((r : Int) + 1) ≤ wd * (s : Int) := Int.mul_le_mul_of_nonneg_left (by omega) hb2.2.2.1
        rw [Int.mul_add, Int.mul_one] at this
        exact this
      have top : ∀ s : Nat, s < rows → wd * (s : Int) + wd ≤ wd * (rows : Int) := fun s hs => by
        have : wd * ((s : Int) + 1) ≤ wd * (rows : Int) := Int.mul_le_mul_of_nonneg_left (by omega) hb2.2.2.1
        rw [Int.mul_add, Int.mul_one] at this
        exact this
      refine ⟨h', (lp_n (s' := (((r + 1 : Nat) : Int), h1)) ?_).trans b1, fp_tr a2 b2, b3.trans a3, fun s g s1 s2 g1 g2 => ?_, fun v g v0 v1 g0 g1 hn => ?_⟩
      · show c281_b13 u base (i : Int) (rows : Int) (n : Int) (r : Int) h = _
        unfold c281_b13
        rw [if_neg (by omega)]
        have e : c281_j32 wd u base (i : Int) (n : Int) (r : Int) h = some (.inl (((r + 1 : Nat) : Int), h1)) := by
          unfold c281_j32
          refine bnd a1 ?_
          rw [wadd_n (by omega)]
        by_cases c : base = 31
        · rw [if_pos c] at hw ⊢
          rw [hw]
          exact e
        · rw [if_neg c] at hw ⊢
          rw [hw]
          exact e
      · by_cases c : s = r
        · subst c
          have t1 := top s s2
          rw [b5 u g u0 u1 (by omega) (by omega) (fun z => by
            obtain ⟨-, s', z1, -, z3, -⟩ := z
            have := mono s' z1
            omega)]
          exact a4 g g1 g2
        · have t1 := top s s2
          have t2 := mono s (by omega)
          rw [b4 s g (by omega) s2 g1 g2]
          exact a5 u (g + 1) u0 u1 (by omega) (by omega) (by omega)
      · rw [b5 v g v0 v1 g0 g1 (fun z => hn ⟨z.1, by obtain ⟨-, s, z1, z2⟩ := z; exact ⟨s, by omega, z2⟩⟩)]
        exact a5 v g v0 v1 g0 g1 (fun z => hn ⟨z.1, r, Nat.le_refl _, by omega, z.2⟩)
  obtain ⟨h1, a1, a2, a3, a4, a5⟩ := out rows 0 hF0 h (by omega) (hF0_lt (by omega))
  obtain ⟨h', eh⟩ : ∃ h', h' = wset h1 1 u many ((n : Int) - 1) := ⟨_, rfl⟩
  have w1 : ∀ v g : Int, 0 ≤ v → v < 12 → 0 ≤ g → g < 64 → wg h' 1 v g = if v = u ∧ g = many then (n : Int) - 1 else wg h1 1 v g := fun v g v0 v1 g0 g1 => by rw [eh, wgs u0 u1 (by omega) (by omega) v0 v1 g0 g1]
  refine ⟨h', ?_, fp_tr a2 (by rw [eh]; exact fw_set u0 u1 (by omega) (by omega)), by rw [eh, wms u0 u1 (by omega) (by omega)]; exact a3, by rw [w1 u many u0 u1 (by omega) (by omega), if_pos ⟨rfl, rfl⟩], fun r g r1 g1 g2 => ?_, fun v g v0 v1 g0 g1 hn => ?_⟩
  · unfold c281
    refine bnd (c199_e (by omega) (by omega) u0 u1 (by omega) (by omega)) ?_
    rw [hn]
    refine bnd a1 ?_
    rw [wsub_e (by omega) (by omega)]
    refine bnd ((c201_e (by omega) (by omega) u0 u1 (by omega) (by omega)).trans (congrArg some eh.symm)) ?_
    rfl
  · have t1 : wd * (r : Int) + wd ≤ wd * (rows : Int) := by
      have : wd * ((r : Int) + 1) ≤ wd * (rows : Int) := Int.mul_le_mul_of_nonneg_left (by omega) hb2.2.2.1
      rw [Int.mul_add, Int.mul_one] at this
      exact this
    have t2 : 0 ≤ wd * (r : Int) := Int.mul_nonneg hb2.2.2.1 (by omega)
    rw [w1 u g u0 u1 (by omega) (by omega), if_neg (by omega)]
    exact a4 r g (Nat.zero_le _) r1 g1 g2
  · rw [w1 v g v0 v1 g0 g1, if_neg (fun z => hn ⟨z.1, .inl z.2⟩)]
    exact a5 v g v0 v1 g0 g1 (fun z => hn ⟨z.1, .inr (by obtain ⟨-, s, -, z2⟩ := z; exact ⟨s, z2⟩)⟩)
end CLO
