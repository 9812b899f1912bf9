/-! a patch is made: whence a field comes -/
/-- what a world b says of the world a from which it came -/
def KOg (t : hS) (b a : Int) (m0 : Nat) (j : Int) : Prop := wg t b j 4 = ix (fun k : Nat => wg t a (k : Int) 0) (wg t b j 0) m0 ∧ (∀ i : Nat, (i : Int) < wg t b j 5 → wg t b j (22 + i) = -1 ∨ (wg t b j 4 ≠ -1 ∧ fIx t a (wg t b j 4) (wg t b j (22 + i)) ≠ -1)) ∧ ∀ i k : Nat, (i : Int) < wg t b j 5 → (k : Int) < wg t b j 5 → wg t b j (22 + i) = wg t b j (22 + k) → wg t b j (22 + i) ≠ -1 → i = k
/-- the class keeps whence its fields come -/
def FFq (h t : hS) (P : Nat) (b : Int) (m : Nat) : Prop := ∀ j : Int, 0 ≤ j → j < m → ∀ i : Nat, (i : Int) < wg t b j 5 → hI h (kd h P j + 3) i = wg t b j (22 + i)
def orgq (t : hS) (b u n : Int) : Int := wg t b u (22 + fIx t b u n)
/-- kind j came from x and has there the field n of old -/
def sBq (t : hS) (b x n : Int) (j : Nat) : Bool := decide (wg t b (j : Int) 4 = x ∧ fIx t b (j : Int) n ≠ -1 ∧ orgq t b (j : Int) n = n)
def anyB (Q : Nat → Bool) : Nat → Bool
  | 0 => false
  | i + 1 => anyB Q i || Q i
/-- the name of the field from which n of u comes, or -1 -/
def SRC (t : hS) (b a : Int) (m : Nat) (old u n : Int) : Int := if orgq t b u n ≠ -1 ∧ wg t b u 4 ≠ -1 ∧ fAt t a old (orgq t b u n) = wg t b u 4 then orgq t b u n else if fAt t a old n = -1 ∨ fAt t a old n = wg t b u 4 then -1 else if anyB (sBq t b (fAt t a old n) n) m = true then n else -1
section SRS
variable {h t : hS} {m m0 P p : Nat} {r r0 : Int → Nat} {a b w j n u v old k : Int} {K K0 : Nat → Int → Prop}
theorem anyB_t {Q : Nat → Bool} : ∀ {m : Nat}, anyB Q m = true ↔ ∃ j, j < m ∧ Q j = true
  | 0 => ⟨fun z => absurd (show false = true from z) (by decide), fun z => by obtain ⟨j, z, -⟩ := z; omega⟩
  | m + 1 => by
    show (anyB Q m || Q m) = true ↔ _
    rw [Bool.or_eq_true, anyB_t (m := m)]
    refine ⟨fun z => ?_, fun z => ?_⟩
    · rcases z with ⟨j, z1, z2⟩ | z
      · exact ⟨j, by omega, z2⟩
      · exact ⟨m, by omega, z⟩
    · obtain ⟨j, z1, z2⟩ := z
      by_cases c : j = m
      · rw [c] at z2; exact .inr z2
      · exact .inl ⟨j, by omega, z2⟩
/-- what a climb finds is on the way -/
theorem clb_on (W : WF t w m r) (Q : Int → Bool) : ∀ (d : Nat) (u : Int), (u = -1 ∨ ((0 ≤ u ∧ u < m) ∧ r u < d)) → clb Q (fun x => wg t w x 1) 13 u ≠ -1 → iU t w (clb Q (fun x => wg t w x 1) 13 u) u ≠ -1 := by
  intro d
  induction d with
  | zero =>
    intro u hu q
    rcases hu with z | ⟨-, z⟩
    · rw [z, clb_n] at q; exact absurd rfl q
    · omega
  | succ d ih =>
    intro u hu q
    rcases hu with z | ⟨⟨u0, u1⟩, z⟩
    · rw [z, clb_n] at q; exact absurd rfl q
    · have e := clb_st W Q u0 u1
      by_cases c : Q u = true
      · rw [if_pos c] at e
        rw [e, iU_st W u0 u1, if_pos rfl]
        omega
      · rw [if_neg c] at e
        rw [e] at q ⊢
        rw [iU_st W u0 u1]
        split
        · omega
        · refine ih _ ?_ q
          rcases WF_ok W u ⟨u0, u1⟩ with y | ⟨y1, y2⟩
          · exact .inl y
          · exact .inr ⟨y1, by omega⟩
/-- who has the field is found, if on the way -/
theorem fAt_on (W : WF t w m r) (C : CF t w m) (v0 : 0 ≤ v) (v1 : v < m) (hv : fIx t w v n ≠ -1) : ∀ (d : Nat) (u : Int), (u = -1 ∨ ((0 ≤ u ∧ u < m) ∧ r u < d)) → iU t w v u ≠ -1 → fAt t w u n = v ∧ clb (fun x => hOw t w x n) (fun x => wg t w x 1) 13 u ≠ -1 := by
  intro d
  induction d with
  | zero =>
    intro u hu q
    rcases hu with z | ⟨-, z⟩
    · rw [z, iU_m] at q; exact absurd rfl q
    · omega
  | succ d ih =>
    intro u hu q
    rcases hu with z | ⟨⟨u0, u1⟩, z⟩
    · rw [z, iU_m] at q; exact absurd rfl q
    · have e := clb_st W (fun x => decide (fIx t w x n ≠ -1)) u0 u1
      have e2 := clb_st W (fun x => hOw t w x n) u0 u1
      have how : ∀ x, fIx t w x n ≠ -1 → hOw t w x n = true := fun x hx => by
        unfold hOw
        rw [decide_eq_true_iff]
        exact fun y => hx y.1
      by_cases c : u = v
      · subst c
        unfold fAt
        rw [e, e2, if_pos (decide_eq_true hv), if_pos (how _ hv)]
        exact ⟨rfl, by omega⟩
      · rw [iU_st W u0 u1, if_neg c] at q
        obtain ⟨y1, y2⟩ := ih (wg t w u 1) (by
          rcases WF_ok W u ⟨u0, u1⟩ with y | ⟨y1, y2⟩
          · exact .inl y
          · exact .inr ⟨y1, by omega⟩) q
        have no : hOw t w u n ≠ true := fun y => y2 ((C u u0 u1).2.2.2 n y)
        have no2 : ¬ fIx t w u n ≠ -1 := fun y => no (how u y)
        unfold fAt at y1 ⊢
        rw [e, e2, if_neg (by rw [decide_eq_true_iff]; exact no2), if_neg no]
        exact ⟨y1, y2⟩
theorem WF_12 (W : WF t w m r) (hu : u = -1 ∨ (0 ≤ u ∧ u < m)) : u = -1 ∨ ((0 ≤ u ∧ u < m) ∧ r u < 12) := by
  rcases hu with z | z
  · exact .inl z
  · exact .inr ⟨z, (W.2.2 u z.1 z.2).1⟩
/-- on the way and with the field: the one found -/
theorem fAt_iU (W : WF t w m r) (C : CF t w m) (v0 : 0 ≤ v) (v1 : v < m) (hv : fIx t w v n ≠ -1) (hu : u = -1 ∨ (0 ≤ u ∧ u < m)) : fAt t w u n = v ↔ iU t w v u ≠ -1 := by
  refine ⟨fun e => ?_, fun q => (fAt_on W C v0 v1 hv 12 u (WF_12 W hu) q).1⟩
  have := clb_on W (fun x => decide (fIx t w x n ≠ -1)) 12 u (WF_12 W hu)
  unfold fAt at e
  rw [e] at this
  exact this (by omega)
theorem ix_q {g : Nat → Int} {m : Nat} (d : ∀ i j : Nat, i < m → j < m → g i = g j → i = j) {x : Nat} (xm : x < m) : ix g n m = (x : Int) ↔ g x = n := by
  refine ⟨fun e => ?_, fun e => by rw [← e]; exact ix_at xm d⟩
  rcases ix_b g n m with z | ⟨y, z1, z2, z3, -⟩
  · omega
  · have : y = x := by omega
    rw [← this]; exact z3
/-- the other side's source -/
theorem c287_e (Wb : WF t b m r) (b0 : 0 ≤ b ∧ b < 3) (Wa : WF t a m0 r0) (a0 : 0 ≤ a ∧ a < 3) (k0 : 0 ≤ k ∧ k < m) (ho : 0 ≤ old ∧ old < m0) (hu : fAt t b k n = u) (hu1 : u ≠ -1) : c287 a old b k n t = some (SRC t b a m old u n) := by
  have hm := Wb.2.1
  obtain ⟨⟨u0, u1⟩, hF⟩ : (0 ≤ u ∧ u < m) ∧ fIx t b u n ≠ -1 := by
    rcases fAt_b (n := n) Wb (k := k) (.inr k0) with z | z
    · exact absurd (hu.symm.trans z) hu1
    · rw [hu] at z
      exact z
  obtain ⟨f0, f1, f2⟩ := fIx_lt Wb u0 u1 hF
  obtain ⟨-, -, w3, -, -⟩ := Wb.2.2 u u0 u1
  have e1 : c237 b k n t = some u := by rw [c237_w Wb b0.1 b0.2 (.inr k0), hu]
  have e4 : c199 b u 4 t = some (wg t b u 4) := c199_e b0.1 b0.2 u0 (by omega) (by omega) (by omega)
  have e7 : c207 b u n t = some (fIx t b u n) := c207_w Wb b0.1 b0.2 u0 u1
  have e22 : c199 b u (wadd 22 (fIx t b u n)) t = some (orgq t b u n) := by
    rw [wadd_e (by omega) (by omega), c199_e b0.1 b0.2 u0 (by omega) (by omega) (by omega)]
    rfl
  have ex : c237 a old n t = some (fAt t a old n) := c237_w Wa a0.1 a0.2 (.inr ho)
  have l := lp_ev (f := fun s => c287_b98 b n (fAt t a old n) t s) (fun j => (j : Int)) (fun j => sBq t b (fAt t a old n) n j = false) m (.inl ()) (.inr n) (fun j hj q => by
    show c287_b98 b n (fAt t a old n) t (j : Int) = _
    obtain ⟨-, -, v3, -, -⟩ := Wb.2.2 (j : Int) (by omega) (by omega)
    unfold c287_b98
    refine bnd (c198_e b0.1 b0.2) ?_
    rw [Wb.1, if_neg (by omega)]
    refine bnd (c199_e b0.1 b0.2 (by omega) (by omega) (by omega) (by omega)) ?_
    unfold sBq at q
    rw [decide_eq_false_iff_not] at q
    by_cases c : wg t b (j : Int) 4 = fAt t a old n
    · rw [if_pos c]
      refine bnd (c207_w Wb b0.1 b0.2 (by omega) (by omega)) ?_
      unfold c287_j134 c287_j162
      by_cases c2 : fIx t b (j : Int) n = -1
      · rw [if_pos c2, wadd_n (by omega)]
      · rw [if_neg c2]
        obtain ⟨g0, g1, -⟩ := fIx_lt Wb (k := (j : Int)) (by omega) (by omega) c2
        rw [wadd_e (by omega) (by omega)]
        refine bnd (c199_e b0.1 b0.2 (by omega) (by omega) (by omega) (by omega)) ?_
        rw [if_neg (show ¬ wg t b (j : Int) (22 + fIx t b (j : Int) n) = n from fun z => q ⟨c, c2, z⟩), wadd_n (by omega)]
    · rw [if_neg c]
      unfold c287_j134 c287_j162
      rw [if_pos rfl, wadd_n (by omega)]) (fun j hj q => by
    show c287_b98 b n (fAt t a old n) t (j : Int) = _
    obtain ⟨-, -, v3, -, -⟩ := Wb.2.2 (j : Int) (by omega) (by omega)
    have q : sBq t b (fAt t a old n) n j = true := by cases hh : sBq t b (fAt t a old n) n j; exact absurd hh q; rfl
    unfold sBq at q
    rw [decide_eq_true_iff] at q
    obtain ⟨q1, q2, q3⟩ := q
    obtain ⟨g0, g1, -⟩ := fIx_lt Wb (k := (j : Int)) (by omega) (by omega) q2
    unfold c287_b98
    refine bnd (c198_e b0.1 b0.2) ?_
    rw [Wb.1, if_neg (by omega)]
    refine bnd (c199_e b0.1 b0.2 (by omega) (by omega) (by omega) (by omega)) ?_
    rw [if_pos q1]
    refine bnd (c207_w Wb b0.1 b0.2 (by omega) (by omega)) ?_
    unfold c287_j134
    rw [if_neg q2, wadd_e (by omega) (by omega)]
    refine bnd (c199_e b0.1 b0.2 (by omega) (by omega) (by omega) (by omega)) ?_
    unfold orgq at q3
    rw [if_pos q3]) (by
    show c287_b98 b n (fAt t a old n) t (m : Int) = _
    unfold c287_b98
    refine bnd (c198_e b0.1 b0.2) ?_
    rw [Wb.1, if_pos (by omega)]) m 0 hF0 (by omega) (hF0_lt (by omega))
  have e70 : c287_j70 a old b n (wg t b u 4) t = some (if fAt t a old n = -1 ∨ fAt t a old n = wg t b u 4 then -1 else if anyB (sBq t b (fAt t a old n) n) m = true then n else -1) := by
    unfold c287_j70
    refine bnd ex ?_
    by_cases c : fAt t a old n = -1
    · rw [if_pos c, if_pos (.inl c)]
    · rw [if_neg c]
      by_cases c2 : fAt t a old n = wg t b u 4
      · rw [if_pos c2, if_pos (.inr c2)]
      · rw [if_neg c2, if_neg (fun z => z.elim c c2)]
        by_cases c3 : anyB (sBq t b (fAt t a old n) n) m = true
        · rw [if_pos c3]
          obtain ⟨j, j1, j2⟩ := anyB_t.1 c3
          exact (bnd (l.2 ⟨j, Nat.zero_le _, j1, by rw [j2]; decide⟩) rfl).trans rfl
        · rw [if_neg c3]
          refine (bnd (l.1 (fun j _ j1 => ?_)) rfl).trans rfl
          cases hh : sBq t b (fAt t a old n) n j
          · rfl
          · exact absurd (anyB_t.2 ⟨j, j1, hh⟩) c3
  unfold c287 SRC
  refine bnd e1 ?_
  refine bnd e4 ?_
  refine bnd e7 ?_
  refine bnd e22 ?_
  by_cases c : orgq t b u n = -1
  · rw [if_pos c, if_neg (fun z => z.1 c)]
    exact e70
  · rw [if_neg c]
    by_cases c2 : wg t b u 4 = -1
    · rw [if_pos c2, if_neg (fun z => z.2.1 c2)]
      exact e70
    · rw [if_neg c2]
      refine bnd (c237_w Wa a0.1 a0.2 (.inr ho)) ?_
      by_cases c3 : fAt t a old (orgq t b u n) = wg t b u 4
      · rw [if_pos c3, if_pos ⟨c, c2, c3⟩]
      · rw [if_neg c3, if_neg (fun z => c3 z.2.2)]
        exact e70
/-- the class's holder of a field -/
theorem c159_e (Pa : PW h t K p a m0 r0) (hu : old = -1 ∨ (0 ≤ old ∧ old < m0)) : c159 (kd h p old) n h = some (kd h p (fAt t a old n)) := by
  have W := Pa.1
  have key : ∀ (d N : Nat) (u : Int), (u = -1 ∨ ((0 ≤ u ∧ u < m0) ∧ r0 u < d)) → d < N → lp (fun s => c159_b2 n h s) N (kd h p u) = some (if fAt t a u n = -1 then .inl () else .inr (kd h p (fAt t a u n))) := by
    have base : ∀ N, 0 < N → lp (fun s => c159_b2 n h s) N (kd h p (-1)) = some (if fAt t a (-1) n = -1 then .inl () else .inr (kd h p (fAt t a (-1) n))) := fun N hN => by
      obtain ⟨N, rfl⟩ : ∃ n, N = n + 1 := ⟨N - 1, by omega⟩
      rw [show fAt t a (-1) n = -1 from clb_n _ _ 13, if_pos rfl]
      refine lp_d ?_
      show c159_b2 n h (kd h p (-1)) = _
      unfold c159_b2
      rw [kd_m]
      refine bnd hnul_0 ?_
      rw [if_pos rfl]
    intro d
    induction d with
    | zero =>
      intro N u hu hN
      have e : u = -1 := by
        rcases hu with z | ⟨-, z⟩
        · exact z
        · omega
      subst e
      exact base N hN
    | succ d ih =>
      intro N u hu hN
      obtain ⟨N, rfl⟩ : ∃ n, N = n + 1 := ⟨N - 1, by omega⟩
      rcases hu with z | ⟨⟨u0, u1⟩, z⟩
      · subst z
        exact base (N + 1) (by omega)
      · obtain ⟨Q, -, k4, -, k5, -⟩ := Pa.2.2.1 u u0 u1
        have q8 := Q.1
        obtain ⟨-, -, w3, -, -⟩ := W.2.2 u u0 u1
        have e29 : c29 (kd h p u + 1) (hI h (kd h p u) 4) n h = some (fIx t a u n) := by
          obtain ⟨A, hA⟩ : ∃ A : Nat, wg t a u 5 = (A : Int) := ⟨(wg t a u 5).toNat, by omega⟩
          rw [k5.1, hA, c29_e (KD5 Q).2.1 (by rw [(KD5 Q).2.2]; omega) (by omega)]
          have e := ixF (n := n) (Pa.2.2.1 u u0 u1)
          rw [hA, Int.toNat_natCast] at e
          exact congrArg some e
        have e := clb_st W (fun x => decide (fIx t a x n ≠ -1)) u0 u1
        have st : ∀ R, (if fIx t a u n = -1 then (gR h (kd h p u) 24 1).bind (fun v6 => some (.inl (v6))) else some (.inr (.inr (kd h p u)))) = R → c159_b2 n h (kd h p u) = R := fun R eR => by
          unfold c159_b2
          refine bnd (hnul_8 (by omega)) ?_
          rw [if_neg (by decide)]
          refine bnd (gR_s Q.2.2.1) ?_
          refine bnd (gI_s Q.2.2.1) ?_
          rw [(KD5 Q).1]
          refine bnd e29 ?_
          exact eR
        by_cases c : fIx t a u n = -1
        · have ef : fAt t a u n = fAt t a (wg t a u 1) n := by
            unfold fAt
            rw [e, if_neg (by rw [decide_eq_true_iff]; exact fun z => z c)]
          rw [ef]
          refine (lp_n (s' := kd h p (wg t a u 1)) (st _ ?_)).trans (ih N (wg t a u 1) ?_ (by omega))
          · rw [if_pos c]
            refine bnd (gR_s Q.2.2.1) ?_
            rw [k4]
          · rcases WF_ok W u ⟨u0, u1⟩ with y | ⟨y1, y2⟩
            · exact .inl y
            · exact .inr ⟨y1, by omega⟩
        · have ef : fAt t a u n = u := by
            unfold fAt
            rw [e, if_pos (decide_eq_true c)]
          rw [ef, if_neg (by omega)]
          refine lp_d (st _ ?_)
          rw [if_neg c]
  have e := key 12 hF0 old (WF_12 W hu) (hF0_lt (by omega))
  unfold c159
  refine bnd e ?_
  by_cases c : fAt t a old n = -1
  · rw [if_pos c, c, kd_m]; rfl
  · rw [if_neg c]; rfl
/-- the class's source is the other side's -/
theorem c158_e {i : Nat} (Pb : PW h t K P b m r) (F : FFq h t P b m) (Pa : PW h t K0 p a m0 r0) (Ca : CF t a m0) (Cb : CF t b m) (Og : ∀ j : Int, 0 ≤ j → j < m → KOg t b a m0 j) (u0 : 0 ≤ u) (u1 : u < m) (hi : (i : Int) < wg t b u 5) (ho : 0 ≤ old ∧ old < m0) (hn : wg t b u (6 + i) = n) : c158 P (kd h P u) (i : Int) (kd h p old) h = some (SRC t b a m old u n) := by
  have Wb := Pb.1
  have Wa := Pa.1
  have hm := Wb.2.1
  have hm0 := Wa.2.1
  obtain ⟨Q, ⟨kn, -, -⟩, -, -, k5, -⟩ := Pb.2.2.1 u u0 u1
  obtain ⟨-, -, w3, -, -⟩ := Wb.2.2 u u0 u1
  have ei : fIx t b u n = (i : Int) := by
    unfold fIx
    rw [← hn]
    exact ix_at (g := fun i : Nat => wg t b u (6 + i)) (u := i) (by omega) (fun x y x1 y1 e => (Cb u u0 u1).1 x y (by omega) (by omega) e)
  have eo : orgq t b u n = wg t b u (22 + i) := by unfold orgq; rw [ei]
  obtain ⟨g1, g2, -⟩ := Og u u0 u1
  have Qo := (Pa.2.2.1 old ho.1 ho.2).1
  have eF := F u u0 u1 i hi
  have nA : ∀ x y : Nat, x < m0 → y < m0 → wg t a (x : Int) 0 = wg t a (y : Int) 0 → x = y := fun x y x1 y1 e => by have := Pa.2.2.2 (x : Int) (y : Int) (by omega) (by omega) (by omega) (by omega) e; omega
  have nB : ∀ x y : Nat, x < m → y < m → wg t b (x : Int) 0 = wg t b (y : Int) 0 → x = y := fun x y x1 y1 e => by have := Pb.2.2.2 (x : Int) (y : Int) (by omega) (by omega) (by omega) (by omega) e; omega
  -- the name of what was found
  have e70 : c158_j28 P (kd h P u) (i : Int) (kd h p old) h = some (if fAt t a old n = -1 ∨ fAt t a old n = wg t b u 4 then -1 else if anyB (sBq t b (fAt t a old n) n) m = true then n else -1) := by
    unfold c158_j28
    refine bnd (gR_s Q.2.2.1) ?_
    rw [(KD5 Q).1]
    refine bnd (aI_s (KD5 Q).2.1 (by omega) (by rw [(KD5 Q).2.2]; omega)) ?_
    rw [Int.toNat_natCast, (k5.2 i hi).1, hn]
    refine bnd (kT_s Qo.2.2.1) ?_
    refine bnd (c159_e (n := n) Pa (.inr ho)) ?_
    by_cases c : fAt t a old n = -1
    · rw [if_pos (.inl c), c, kd_m]
      refine bnd hnul_0 ?_
      rw [if_pos rfl]
    · obtain ⟨x0, x1⟩ : 0 ≤ fAt t a old n ∧ fAt t a old n < m0 := by
        rcases fAt_b (n := n) Wa (k := old) (.inr ho) with z | z
        · exact absurd z c
        · exact z.1
      generalize hx : fAt t a old n = x at *
      obtain ⟨Qx, ⟨xn, -, -⟩, -⟩ := Pa.2.2.1 x x0 x1
      have q8 := Qx.1
      refine (bnd (hnul_8 (by omega)) rfl).trans ?_
      rw [if_neg (by decide)]
      refine bnd (gI_s Qx.2.2.1) ?_
      refine bnd (gI_s Q.2.2.1) ?_
      rw [xn, kn]
      obtain ⟨X, rfl⟩ : ∃ X : Nat, x = (X : Int) := ⟨x.toNat, by omega⟩
      have iff1 : wg t a (X : Int) 0 = wg t b u 0 ↔ (X : Int) = wg t b u 4 := by
        rw [g1]
        have q := ix_q (g := fun k : Nat => wg t a (k : Int) 0) (n := wg t b u 0) nA (x := X) (by omega)
        exact ⟨fun z => (q.2 z).symm, fun z => q.1 z.symm⟩
      by_cases c2 : (X : Int) = wg t b u 4
      · rw [if_pos (iff1.2 c2), if_pos (.inr c2)]
      · rw [if_neg (fun z => c2 (iff1.1 z)), if_neg (fun z => z.elim c c2)]
        refine bnd (gI_s Qx.2.2.1) ?_
        refine bnd (kT_s Pb.2.1.2.2.1) ?_
        rw [xn]
        refine bnd (c47_e Pb (wg t a (X : Int) 0)) ?_
        have iff2 : ∀ j : Nat, j < m → (wg t b (j : Int) 4 = (X : Int) ↔ wg t b (j : Int) 0 = wg t a (X : Int) 0) := fun j hj => by
          rw [(Og (j : Int) (by omega) (by omega)).1]
          have q := ix_q (g := fun k : Nat => wg t a (k : Int) 0) (n := wg t b (j : Int) 0) nA (x := X) (by omega)
          exact ⟨fun z => (q.1 z).symm, fun z => q.2 z.symm⟩
        rcases ix_b (fun j : Nat => wg t b (j : Int) 0) (wg t a (X : Int) 0) m with z | ⟨y, z1, z2, z3, -⟩
        · have no : ¬ anyB (sBq t b (X : Int) n) m = true := fun q => by
            obtain ⟨j, j1, j2⟩ := anyB_t.1 q
            unfold sBq at j2
            rw [decide_eq_true_iff] at j2
            exact ix_none z j j1 ((iff2 j j1).1 j2.1)
          rw [z, kd_m, if_neg no]
          refine bnd hnul_0 ?_
          rw [if_pos rfl]
          unfold c158_j90
          rw [if_pos rfl]
        · have Qy := Pb.2.2.1 (y : Int) (by omega) (by omega)
          have y8 := Qy.1.1
          obtain ⟨-, -, wy, -, -⟩ := Wb.2.2 (y : Int) (by omega) (by omega)
          rw [z1]
          refine (bnd (hnul_8 (by omega)) rfl).trans ?_
          rw [if_neg (by decide)]
          refine bnd (kT_s Qy.1.2.2.1) ?_
          refine bnd (c80_w Pb (by omega) (by omega)) ?_
          unfold c158_j90
          have iff3 : anyB (sBq t b (X : Int) n) m = true ↔ (fIx t b (y : Int) n ≠ -1 ∧ orgq t b (y : Int) n = n) := by
            rw [anyB_t]
            refine ⟨fun q => ?_, fun q => ⟨y, z2, ?_⟩⟩
            · obtain ⟨j, j1, j2⟩ := q
              unfold sBq at j2
              rw [decide_eq_true_iff] at j2
              have : j = y := nB j y j1 z2 (by rw [(iff2 j j1).1 j2.1, z3])
              rw [this] at j2
              exact j2.2
            · unfold sBq
              rw [decide_eq_true_iff]
              exact ⟨(iff2 y z2).2 z3, q⟩
          by_cases c3 : fIx t b (y : Int) n = -1
          · rw [if_pos c3, if_neg (fun q => (iff3.1 q).1 c3)]
          · rw [if_neg c3]
            obtain ⟨f0, f1, -⟩ := fIx_lt Wb (k := (y : Int)) (by omega) (by omega) c3
            have eY := F (y : Int) (by omega) (by omega) (fIx t b (y : Int) n).toNat (by omega)
            refine bnd (gR_s Qy.1.2.2.1) ?_
            rw [(KD7 Qy.1).1]
            refine bnd (aI_s (KD7 Qy.1).2.1 f0 (by rw [(KD7 Qy.1).2.2]; omega)) ?_
            rw [eY, show ((fIx t b (y : Int) n).toNat : Int) = fIx t b (y : Int) n by omega]
            by_cases c4 : wg t b (y : Int) (22 + fIx t b (y : Int) n) = n
            · rw [if_pos c4, if_pos (iff3.2 ⟨c3, c4⟩)]
            · rw [if_neg c4, if_neg (fun q => c4 (iff3.1 q).2)]
  unfold c158
  refine bnd (gR_s Q.2.2.1) ?_
  rw [(KD7 Q).1]
  refine bnd (aI_s (KD7 Q).2.1 (by omega) (by rw [(KD7 Q).2.2]; omega)) ?_
  rw [Int.toNat_natCast, eF, ← eo]
  unfold SRC
  by_cases c : orgq t b u n = -1
  · rw [if_pos c, if_neg (fun z => z.1 c)]
    exact e70
  · rw [if_neg c]
    refine bnd (gI_s Q.2.2.1) ?_
    refine bnd (kT_s Qo.2.2.1) ?_
    rw [kn]
    refine bnd (c150_w (n := wg t b u 0) Pa (.inr ho)) ?_
    rcases g2 i hi with z | ⟨z1, z2⟩
    · rw [← eo] at z
      exact absurd z c
    · rw [← eo] at z2
      obtain ⟨o, hox⟩ : ∃ o, wg t b u 4 = o := ⟨_, rfl⟩
      rw [hox] at g1 z1 z2 ⊢
      obtain ⟨o0, o1, on⟩ : 0 ≤ o ∧ o < m0 ∧ wg t a o 0 = wg t b u 0 := by
        rcases ix_b (fun k : Nat => wg t a (k : Int) 0) (wg t b u 0) m0 with y | ⟨y, y1, y2, y3, -⟩
        · exact absurd (g1.trans y) z1
        · rw [g1, y1]
          exact ⟨by omega, by omega, y3⟩
      rw [iU_n Pa o0 o1 on (.inr ho)]
      have q := fAt_iU Wa Ca o0 o1 z2 (u := old) (.inr ho)
      rw [hox] at e70
      by_cases c3 : iU t a o old = -1
      · rw [if_pos c3, if_pos rfl, if_neg (fun y => q.1 y.2.2 c3)]
        exact e70
      · rw [if_neg c3, if_neg (by omega), if_pos ⟨c, z1, q.2 c3⟩]
end SRS
