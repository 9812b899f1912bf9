/-! a patch is made: a kind goes, on the other side -/
section GOS
variable {h h' t t' : hS} {m n : Nat} {k : Int}
theorem c278_in {j : Int} (j0 : 0 ≤ j) (j1 : j + 1 < 12) : ∀ (D i N : Nat) (h : hS), i + D = 64 → D < N → ∃ h', lp (fun s => c278_b18 j s.1 s.2) N ((i : Int), h) = some h' ∧ fw h h' ∧ wm h' 1 = wm h 1 ∧ ∀ v g : Int, 0 ≤ v → v < 12 → 0 ≤ g → g < 64 → wg h' 1 v g = if v = j ∧ (i : Int) ≤ g then wg h 1 (j + 1) g else wg h 1 v g
  | 0, i, N, h, hi, hN => by
    obtain ⟨N, rfl⟩ : ∃ n, N = n + 1 := ⟨N - 1, by omega⟩
    obtain rfl : i = 64 := by omega
    refine ⟨h, lp_d ?_, fp_rf, rfl, fun v g _ _ _ _ => by rw [if_neg (by omega)]⟩
    show c278_b18 j ((64 : Nat) : Int) h = _
    unfold c278_b18
    rw [if_pos (by omega)]
  | D + 1, i, N, h, hi, hN => by
    obtain ⟨N, rfl⟩ : ∃ n, N = n + 1 := ⟨N - 1, by omega⟩
    obtain ⟨h1, e1⟩ : ∃ h1, h1 = wset h 1 j (i : Int) (wg h 1 (j + 1) (i : Int)) := ⟨_, rfl⟩
    have w1 : ∀ v g : Int, 0 ≤ v → v < 12 → 0 ≤ g → g < 64 → wg h1 1 v g = if v = j ∧ g = (i : Int) then wg h 1 (j + 1) (i : Int) else wg h 1 v g := fun v g v0 v1 g0 g1 => by rw [e1, wgs j0 (by omega) (by omega) (by omega) v0 v1 g0 g1]
    obtain ⟨h', a1, a2, a3, a4⟩ := c278_in j0 j1 D (i + 1) N h1 (by omega) (by omega)
    refine ⟨h', (lp_n (s' := (((i + 1 : Nat) : Int), h1)) ?_).trans a1, fp_tr (by rw [e1]; exact fw_set j0 (by omega) (by omega) (by omega)) a2, by rw [a3, e1, wms j0 (by omega) (by omega) (by omega)], fun v g v0 v1 g0 g1 => ?_⟩
    · show c278_b18 j (i : Int) h = _
      unfold c278_b18
      rw [if_neg (by omega), wadd_e (by omega) (by omega)]
      refine bnd (c199_e (by omega) (by omega) (by omega) (by omega) (by omega) (by omega)) ?_
      refine bnd ((c201_e (by omega) (by omega) j0 (by omega) (by omega) (by omega)).trans (congrArg some e1.symm)) ?_
      rw [wadd_n (by omega)]
    · rw [a4 v g v0 v1 g0 g1]
      by_cases c : v = j ∧ ((i + 1 : Nat) : Int) ≤ g
      · rw [if_pos c, if_pos (by omega), w1 (j + 1) g (by omega) (by omega) g0 g1, if_neg (by omega)]
      · rw [if_neg c, w1 v g v0 v1 g0 g1]
        by_cases c2 : v = j ∧ g = (i : Int)
        · rw [if_pos c2, if_pos (by omega), c2.2]
        · rw [if_neg c2, if_neg (by omega)]
theorem c278_mv (n12 : n ≤ 12) : ∀ (D i N : Nat) (h : hS), i + 1 + D = n → D < N → ∃ h', lp (fun s => c278_b8 (n : Int) s.1 s.2) N ((i : Int), h) = some h' ∧ fw h h' ∧ wm h' 1 = wm h 1 ∧ ∀ v g : Int, 0 ≤ v → v < 12 → 0 ≤ g → g < 64 → wg h' 1 v g = if (i : Int) ≤ v ∧ v + 1 < n then wg h 1 (v + 1) g else wg h 1 v g
  | 0, i, N, h, hi, hN => by
    obtain ⟨N, rfl⟩ : ∃ n, N = n + 1 := ⟨N - 1, by omega⟩
    refine ⟨h, lp_d ?_, fp_rf, rfl, fun v g _ _ _ _ => by rw [if_neg (by omega)]⟩
    show c278_b8 (n : Int) (i : Int) h = _
    unfold c278_b8
    rw [wadd_e (by omega) (by omega), if_pos (by omega)]
  | D + 1, i, N, h, hi, hN => by
    obtain ⟨N, rfl⟩ : ∃ n, N = n + 1 := ⟨N - 1, by omega⟩
    obtain ⟨h1, a1, a2, a3, a4⟩ := c278_in (j := (i : Int)) (by omega) (by omega) 64 0 hF0 h rfl (hF0_lt (by omega))
    obtain ⟨h', b1, b2, b3, b4⟩ := c278_mv n12 D (i + 1) N h1 (by omega) (by omega)
    refine ⟨h', (lp_n (s' := (((i + 1 : Nat) : Int), h1)) ?_).trans b1, fp_tr a2 b2, b3.trans a3, fun v g v0 v1 g0 g1 => ?_⟩
    · show c278_b8 (n : Int) (i : Int) h = _
      unfold c278_b8
      rw [wadd_e (by omega) (by omega), if_neg (by omega)]
      refine bnd a1 ?_
      rfl
    · rw [b4 v g v0 v1 g0 g1]
      by_cases c : ((i + 1 : Nat) : Int) ≤ v ∧ v + 1 < n
      · rw [if_pos c, if_pos (by omega), a4 (v + 1) g (by omega) (by omega) g0 g1, if_neg (by omega)]
      · rw [if_neg c, a4 v g v0 v1 g0 g1]
        by_cases c2 : v = (i : Int)
        · rw [if_pos ⟨c2, by omega⟩, if_pos (by omega), c2]
        · rw [if_neg (by omega), if_neg (by omega)]
theorem c278_up (n12 : n ≤ 12) (k0 : 0 ≤ k) : ∀ (D i N : Nat) (h : hS), i + 1 + D = n → D < N → (∀ v : Int, 0 ≤ v → v < n → -1 ≤ wg h 1 v 1 ∧ wg h 1 v 1 < 12) → ∃ h', lp (fun s => c278_b68 k (n : Int) s.1 s.2) N ((i : Int), h) = some h' ∧ fw h h' ∧ wm h' 1 = wm h 1 ∧ ∀ v g : Int, 0 ≤ v → v < 12 → 0 ≤ g → g < 64 → wg h' 1 v g = if ((i : Int) ≤ v ∧ v + 1 < n) ∧ g = 1 ∧ k < wg h 1 v 1 then wg h 1 v 1 - 1 else wg h 1 v g
  | 0, i, N, h, hi, hN, hb => by
    obtain ⟨N, rfl⟩ : ∃ n, N = n + 1 := ⟨N - 1, by omega⟩
    refine ⟨h, lp_d ?_, fp_rf, rfl, fun v g _ _ _ _ => by rw [if_neg (by omega)]⟩
    show c278_b68 k (n : Int) (i : Int) h = _
    unfold c278_b68
    rw [wsub_e (by omega) (by omega), if_pos (by omega)]
  | D + 1, i, N, h, hi, hN, hb => by
    obtain ⟨N, rfl⟩ : ∃ n, N = n + 1 := ⟨N - 1, by omega⟩
    have e199 : c199 1 (i : Int) 1 h = some (wg h 1 (i : Int) 1) := c199_e (by omega) (by omega) (by omega) (by omega) (by omega) (by omega)
    have hbi := hb (i : Int) (by omega) (by omega)
    by_cases c : wg h 1 (i : Int) 1 ≤ k
    · obtain ⟨h', b1, b2, b3, b4⟩ := c278_up n12 k0 D (i + 1) N h (by omega) (by omega) hb
      refine ⟨h', (lp_n (s' := (((i + 1 : Nat) : Int), h)) ?_).trans b1, b2, b3, fun v g v0 v1 g0 g1 => ?_⟩
      · show c278_b68 k (n : Int) (i : Int) h = _
        unfold c278_b68 c278_j102
        rw [wsub_e (by omega) (by omega), if_neg (by omega)]
        refine bnd e199 ?_
        rw [if_pos c, wadd_n (by omega)]
      · rw [b4 v g v0 v1 g0 g1]
        by_cases c2 : (((i + 1 : Nat) : Int) ≤ v ∧ v + 1 < n) ∧ g = 1 ∧ k < wg h 1 v 1
        · rw [if_pos c2, if_pos (by omega)]
        · rw [if_neg c2, if_neg (fun z => by
            by_cases c3 : v = (i : Int)
            · rw [c3] at z; omega
            · exact c2 ⟨by omega, z.2⟩)]
    · obtain ⟨h1, e1⟩ : ∃ h1, h1 = wset h 1 (i : Int) 1 (wg h 1 (i : Int) 1 - 1) := ⟨_, rfl⟩
      have w1 : ∀ v g : Int, 0 ≤ v → v < 12 → 0 ≤ g → g < 64 → wg h1 1 v g = if v = (i : Int) ∧ g = 1 then wg h 1 (i : Int) 1 - 1 else wg h 1 v g := fun v g v0 v1 g0 g1 => by rw [e1, wgs (by omega) (by omega) (by omega) (by omega) v0 v1 g0 g1]
      obtain ⟨h', b1, b2, b3, b4⟩ := c278_up n12 k0 D (i + 1) N h1 (by omega) (by omega) (fun v v0 v1 => by
        rw [w1 v 1 v0 (by omega) (by omega) (by omega)]
        have := hb v v0 v1
        by_cases c9 : v = (i : Int)
        · rw [if_pos ⟨c9, rfl⟩]; omega
        · rw [if_neg (fun z => c9 z.1)]; exact this)
      refine ⟨h', (lp_n (s' := (((i + 1 : Nat) : Int), h1)) ?_).trans b1, fp_tr (by rw [e1]; exact fw_set (by omega) (by omega) (by omega) (by omega)) b2, by rw [b3, e1, wms (by omega) (by omega) (by omega) (by omega)], fun v g v0 v1 g0 g1 => ?_⟩
      · show c278_b68 k (n : Int) (i : Int) h = _
        unfold c278_b68 c278_j102
        rw [wsub_e (by omega) (by omega), if_neg (by omega)]
        refine bnd e199 ?_
        rw [if_neg c]
        refine bnd e199 ?_
        rw [wsub_e (by omega) (by omega)]
        refine bnd ((c201_e (by omega) (by omega) (by omega) (by omega) (by omega) (by omega)).trans (congrArg some e1.symm)) ?_
        rw [wadd_n (by omega)]
      · rw [b4 v g v0 v1 g0 g1]
        by_cases c3 : v = (i : Int)
        · rw [if_neg (show ¬ ((((i + 1 : Nat) : Int) ≤ v ∧ v + 1 < n) ∧ g = 1 ∧ k < wg h1 1 v 1) by omega), w1 v g v0 v1 g0 g1]
          by_cases c4 : g = 1
          · rw [if_pos ⟨c3, c4⟩, if_pos (show ((i : Int) ≤ v ∧ v + 1 < n) ∧ g = 1 ∧ k < wg h 1 v 1 from ⟨by omega, c4, by rw [c3]; omega⟩), c3]
          · rw [if_neg (show ¬ (v = (i : Int) ∧ g = 1) from fun z => c4 z.2), if_neg (show ¬ (((i : Int) ≤ v ∧ v + 1 < n) ∧ g = 1 ∧ k < wg h 1 v 1) from fun z => c4 z.2.1)]
        · have e1v : wg h1 1 v 1 = wg h 1 v 1 := by rw [w1 v 1 v0 v1 (by omega) (by omega), if_neg (fun z => c3 z.1)]
          have e1g : wg h1 1 v g = wg h 1 v g := by rw [w1 v g v0 v1 g0 g1, if_neg (fun z => c3 z.1)]
          rw [e1v, e1g]
          by_cases c2 : (((i + 1 : Nat) : Int) ≤ v ∧ v + 1 < n) ∧ g = 1 ∧ k < wg h 1 v 1
          · rw [if_pos c2, if_pos (show ((i : Int) ≤ v ∧ v + 1 < n) ∧ g = 1 ∧ k < wg h 1 v 1 from ⟨by omega, c2.2⟩)]
          · rw [if_neg c2, if_neg (show ¬ (((i : Int) ≤ v ∧ v + 1 < n) ∧ g = 1 ∧ k < wg h 1 v 1) from fun z => c2 ⟨by omega, z.2⟩)]
/-- where kind u stands when kind k has gone -/
def dr1 (k a : Int) : Int := if k < a then a - 1 else a
theorem c278_e {j : Nat} (hm : wm h 1 = (n : Int)) (n12 : n ≤ 12) (jn : j < n) (hb : ∀ v : Int, 0 ≤ v → v < n → -1 ≤ wg h 1 v 1 ∧ wg h 1 v 1 < 12) : ∃ h', c278 (j : Int) h = some h' ∧ fw h h' ∧ wm h' 1 = (n : Int) - 1 ∧ ∀ (v : Nat) (g : Int), v + 1 < n → 0 ≤ g → g < 64 → wg h' 1 (v : Int) g = if g = 1 then dr1 (j : Int) (wg h 1 (phi j v : Nat) 1) else wg h 1 (phi j v : Nat) g := by
  obtain ⟨h1, a1, a2, a3, a4⟩ := c278_mv n12 (n - 1 - j) j hF0 h (by omega) (hF0_lt (by omega))
  obtain ⟨h2, e2⟩ : ∃ h2, h2 = sI h1 400 769 ((n : Int) - 1) := ⟨_, rfl⟩
  have f2 : fw h1 h2 := by rw [e2]; exact fp_sI ⟨rfl, by omega, by omega⟩
  have w2 : ∀ v g : Int, 0 ≤ v → v < 12 → 0 ≤ g → g < 64 → wg h2 1 v g = wg h1 1 v g := fun v g v0 v1 g0 g1 => by
    unfold wg
    rw [e2, hI_sI, if_neg (by omega)]
  have m2 : wm h2 1 = (n : Int) - 1 := by
    show hI h2 400 769 = _
    rw [e2, hI_sI, if_pos ⟨rfl, rfl⟩]
  have z : ∀ (v : Nat) (g : Int), v + 1 < n → 0 ≤ g → g < 64 → wg h2 1 (v : Int) g = wg h 1 (phi j v : Nat) g := fun v g hv g0 g1 => by
    rw [w2 _ g (by omega) (by omega) g0 g1, a4 _ g (by omega) (by omega) g0 g1]
    unfold phi
    by_cases c : j ≤ v
    · rw [if_pos (by omega), if_pos c]; rfl
    · rw [if_neg (by omega), if_neg c]
  obtain ⟨h', b1, b2, b3, b4⟩ := c278_up (k := (j : Int)) n12 (by omega) (n - 1) 0 hF0 h2 (by omega) (hF0_lt (by omega)) (fun v v0 v1 => by
    rw [w2 v 1 v0 (by omega) (by omega) (by omega), a4 v 1 v0 (by omega) (by omega) (by omega)]
    by_cases c : (j : Int) ≤ v ∧ v + 1 < n
    · rw [if_pos c]; exact hb _ (by omega) (by omega)
    · rw [if_neg c]; exact hb v v0 v1)
  refine ⟨h', ?_, fp_tr a2 (fp_tr f2 b2), b3.trans m2, fun v g hv g0 g1 => ?_⟩
  · unfold c278
    refine bnd (c198_e (by omega) (by omega)) ?_
    rw [hm]
    refine bnd a1 ?_
    rw [wsub_e (by omega) (by omega), wIs_s (by omega) (by omega)]
    refine bnd (congrArg some e2.symm) ?_
    exact bnd b1 rfl
  · rw [b4 _ g (by omega) (by omega) g0 g1, z v 1 hv (by omega) (by omega)]
    unfold dr1
    by_cases c : g = 1
    · rw [if_pos c, c, z v 1 hv (by omega) (by omega)]
      by_cases c2 : (j : Int) < wg h 1 (phi j v : Nat) 1
      · rw [if_pos (by omega), if_pos c2]
      · rw [if_neg (by omega), if_neg c2]
    · rw [if_neg (by omega), if_neg c, z v g hv g0 g1]
end GOS
