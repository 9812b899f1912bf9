/-! a patch is made: a rule is worked out -/
/-- what working out a rule changes in the class -/
def wkq (h h' : hS) : Prop := (hJ h' = hJ h ∧ hT h' = hT h ∧ hL h' = hL h ∧ hN h' = hN h ∧ hM h' = hM h) ∧ (∀ x j, ¬ (x = 24 ∧ (j = 0 ∨ j = 3)) → hR h' x j = hR h x j) ∧ ∀ x j, ¬ ((x = 22 ∧ (j = 5 ∨ j = 7 ∨ j = 8 ∨ j = 9)) ∨ x = 25 ∨ (x = 24 ∧ (j = 4 ∨ j = 5 ∨ j = 6))) → hI h' x j = hI h x j
section WOK
variable {h h' h1 h2 t t' : hS} {F x a c d k tx i N0 M : Nat} {e v : Int}
theorem wkq_rf : wkq h h := ⟨⟨rfl, rfl, rfl, rfl, rfl⟩, fun _ _ _ => rfl, fun _ _ _ => rfl⟩
theorem wkq_tr (p : wkq h h1) (q : wkq h1 h2) : wkq h h2 := ⟨⟨q.1.1.trans p.1.1, q.1.2.1.trans p.1.2.1, q.1.2.2.1.trans p.1.2.2.1, q.1.2.2.2.1.trans p.1.2.2.2.1, q.1.2.2.2.2.trans p.1.2.2.2.2⟩, fun x j z => (q.2.1 x j z).trans (p.2.1 x j z), fun x j z => (q.2.2 x j z).trans (p.2.2 x j z)⟩
theorem wkq_sI {y j : Nat} (hy : (y = 22 ∧ (j = 5 ∨ j = 7 ∨ j = 8 ∨ j = 9)) ∨ y = 25 ∨ (y = 24 ∧ (j = 4 ∨ j = 5 ∨ j = 6))) : wkq h (sI h y j v) := ⟨⟨rfl, rfl, rfl, rfl, rfl⟩, fun x i _ => hR_sI, fun x i z => by
  rw [hI_sI, if_neg]
  rintro ⟨rfl, rfl⟩
  exact z hy⟩
theorem wkq_sR {j u : Nat} (hj : j = 0 ∨ j = 3) : wkq h (sR h 24 j u) := ⟨⟨rfl, rfl, rfl, rfl, rfl⟩, fun x i z => by
  rw [hR_sR, if_neg]
  rintro ⟨rfl, rfl⟩
  exact z ⟨rfl, hj⟩, fun x i _ => hI_sR⟩
theorem wkq_ce (q : ceF 24 h h') : wkq h h' := by
  obtain ⟨e, q⟩ := q
  refine ⟨⟨by show h'.2.2.1 = h.2.2.1; rw [e], by show h'.2.2.2.1 = h.2.2.2.1; rw [e], by show h'.2.2.2.2.1 = h.2.2.2.2.1; rw [e], by show h'.2.2.2.2.2.1 = h.2.2.2.2.2.1; rw [e], by show h'.2.2.2.2.2.2 = h.2.2.2.2.2.2; rw [e]⟩, fun x j _ => by show h'.2.1 x j = h.2.1 x j; rw [e], fun x j z => q x j (by omega)⟩
theorem wkq_chg (q : wkq h h') : chg (fun x => (20 ≤ x ∧ x ≤ 47) ∨ (375 ≤ x ∧ x < 395)) h h' := ⟨q.1.1, q.1.2.1, q.1.2.2.1, q.1.2.2.2.1, q.1.2.2.2.2, fun x z j => ⟨q.2.2 x j (by omega), q.2.1 x j (by omega)⟩⟩
/-- one turn of the class's loop -/
theorem b24_1 (hT24 : hT h 24 = 12) (s : stepE 24 h = some h1) {l4 : Nat} (hl : l4 < 4000) : c161_b24 1 (l4 : Int) h = some (.inl ((if hI h1 22 7 = -1 then 1 else 0), ((l4 + 1 : Nat) : Int), h1)) := by
  unfold stepE at s
  unfold c161_b24
  rw [if_neg (by omega), if_neg (by omega)]
  refine bnd (kT_s hT24) ?_
  cases e1 : c119 24 h with
  | none => rw [e1] at s; cases s
  | some v =>
    rw [e1] at s
    simp only [bsome] at s
    refine bnd rfl ?_
    cases e2 : c120 24 v.1 v.2 with
    | none => rw [e2] at s; cases s
    | some w =>
      rw [e2] at s
      simp only [bsome] at s
      refine bnd rfl ?_
      by_cases c : w.1 = 0
      · rw [if_pos c] at s; cases s
      · rw [if_neg c] at s
        have e : w.2 = h1 := Option.some.inj s
        rw [if_neg c, e]
        unfold c161_j66 c161_j67
        by_cases c2 : hI h1 22 7 = -1
        · rw [if_pos c2, if_pos c2, wadd_n (by omega)]
        · rw [if_neg c2, if_neg c2, wadd_n (by omega)]
theorem runE_T : ∀ {k : Nat} {h h' : hS}, runE F k h h' → h'.2 = h.2
  | 0, h, h', R => by
    have R : h' = h := R
    rw [R]
  | k + 1, h, h', R => by
    obtain ⟨h1, -, -, ⟨a, -⟩, R2⟩ := R
    exact (runE_T R2).trans a
theorem b24_k : ∀ (k N l4 : Nat) {h h' : hS}, runE 24 k h h' → hT h 24 = 12 → hI h 22 7 = -1 → l4 + k < 4000 → lp (fun s => c161_b24 s.1 s.2.1 s.2.2) (N + k) (1, (l4 : Int), h) = lp (fun s => c161_b24 s.1 s.2.1 s.2.2) N ((if hI h' 22 7 = -1 then 1 else 0), ((l4 + k : Nat) : Int), h')
  | 0, N, l4, h, h', R, hT24, h7, hl => by
    have R : h' = h := R
    subst R
    rw [if_pos h7]
    rfl
  | k + 1, N, l4, h, h', R, hT24, h7, hl => by
    obtain ⟨h1, -, s, ⟨a, -⟩, R2⟩ := R
    have st := b24_1 hT24 s (l4 := l4) (by omega)
    have T1 : hT h1 24 = 12 := by
      have : hT h1 24 = hT h 24 := by show h1.2.2.2.1 24 = h.2.2.2.1 24; rw [a]
      rw [this]; exact hT24
    refine (lp_n (n := N + k) (f := fun s : Int × Int × hS => c161_b24 s.1 s.2.1 s.2.2) (s := (1, (l4 : Int), h)) st).trans ?_
    cases k with
    | zero =>
      have R2 : h' = h1 := R2
      subst R2
      rfl
    | succ k =>
      obtain ⟨h2, z7, -⟩ := id R2
      rw [if_pos z7]
      have := b24_k (k + 1) N (l4 + 1) R2 T1 z7 (by omega)
      rw [show l4 + 1 + (k + 1) = l4 + (k + 1 + 1) by omega] at this
      exact this
/-- a rule, a check: both work it out -/
theorem WO (ht : tx ≤ 6) (hi : i < 1200) {C : List Int} (E : EX (ntx t tx) (i + 1) 53 i C) (T24 : hT h 24 = 12) (x8 : 448 ≤ x) (xT : hT h x = 1) (xL : hL h x = C.length + 1 ∧ C.length ≤ 2000) (cd : ∀ (j : Nat) (z : Int), (C ++ [206])[j]? = some z → hI h x j = z) (c40 : c < 40) (e8 : hI t 408 0 = (c : Int)) (e9 : hI t 409 0 = 0) (e10 : hI t 410 0 = 0) (e54 : hI t 395 54 = 0) (HN : ∀ h' t', chg (fun x => (20 ≤ x ∧ x ≤ 47) ∨ (375 ≤ x ∧ x < 395)) h h' → (∀ y j, y ≠ 395 → y ≠ 417 → hI t' y j = hI t y j) → NVq h' t' a c) : (∃ h' t' v, c161 a x h = some (1, h') ∧ hI h' 22 8 = v ∧ g258 120 258 [gn tx i, 0] t = some (1, t') ∧ hI t' 395 52 = v ∧ wkq h h' ∧ fe 0 t t' ∧ hI t' 395 54 = 0 ∧ hI t' 395 39 = hI t 395 39) ∨ (∃ h' t', c161 a x h = some (0, h') ∧ g258 120 258 [gn tx i, 0] t = some (0, t') ∧ wkq h h' ∧ fe 0 t t' ∧ hI t' 395 54 = 0) := by
  obtain ⟨g1, e1⟩ : ∃ g, g = sR h 24 0 a := ⟨_, rfl⟩
  obtain ⟨g2, e2⟩ : ∃ g, g = sR g1 24 3 x := ⟨_, rfl⟩
  obtain ⟨g3, e3⟩ : ∃ g, g = sI g2 24 4 0 := ⟨_, rfl⟩
  obtain ⟨g4, e4⟩ : ∃ g, g = sI g3 24 5 0 := ⟨_, rfl⟩
  obtain ⟨g5, e5⟩ : ∃ g, g = sI g4 24 6 0 := ⟨_, rfl⟩
  obtain ⟨g6, e6⟩ : ∃ g, g = sI g5 22 5 0 := ⟨_, rfl⟩
  obtain ⟨g7, e7⟩ : ∃ g, g = sI g6 22 7 (-1) := ⟨_, rfl⟩
  have z1 : wkq h g1 := by rw [e1]; exact wkq_sR (.inl rfl)
  have z2 : wkq g1 g2 := by rw [e2]; exact wkq_sR (.inr rfl)
  have z3 : wkq g2 g3 := by rw [e3]; exact wkq_sI (.inr (.inr ⟨rfl, .inl rfl⟩))
  have z4 : wkq g3 g4 := by rw [e4]; exact wkq_sI (.inr (.inr ⟨rfl, .inr (.inl rfl)⟩))
  have z5 : wkq g4 g5 := by rw [e5]; exact wkq_sI (.inr (.inr ⟨rfl, .inr (.inr rfl)⟩))
  have z6 : wkq g5 g6 := by rw [e6]; exact wkq_sI (.inl ⟨rfl, .inl rfl⟩)
  have z7 : wkq g6 g7 := by rw [e7]; exact wkq_sI (.inl ⟨rfl, .inr (.inl rfl)⟩)
  have w2 : wkq h g2 := wkq_tr z1 z2
  have w5 : wkq h g5 := wkq_tr w2 (wkq_tr z3 (wkq_tr z4 z5))
  have w7 : wkq h g7 := wkq_tr w5 (wkq_tr z6 z7)
  have e162 : c162 24 a x h = some g5 := by
    unfold c162
    refine bnd ((pR_s T24).trans (congrArg some e1.symm)) ?_
    refine bnd ((pR_s (by rw [e1]; exact T24)).trans (congrArg some e2.symm)) ?_
    have T2 : hT g2 24 = 12 := by rw [w2.1.2.1]; exact T24
    refine bnd ((pI_s T2).trans (congrArg some e3.symm)) ?_
    refine bnd ((pI_s (by rw [e3]; exact T2)).trans (congrArg some e4.symm)) ?_
    exact bnd ((pI_s (by rw [e4, e3]; exact T2)).trans (congrArg some e5.symm)) rfl
  have T7 : hT g7 24 = 12 := by rw [w7.1.2.1]; exact T24
  have R0 : hR g7 24 0 = a := by rw [e7, hR_sI, e6, hR_sI, e5, hR_sI, e4, hR_sI, e3, hR_sI, e2, hR_sR, if_neg (by omega), e1, hR_sR, if_pos ⟨rfl, rfl⟩]
  have R3 : hR g7 24 3 = x := by rw [e7, hR_sI, e6, hR_sI, e5, hR_sI, e4, hR_sI, e3, hR_sI, e2, hR_sR, if_pos ⟨rfl, rfl⟩]
  have I4 : hI g7 24 4 = 0 := by rw [e7, hI_sI, if_neg (by omega), e6, hI_sI, if_neg (by omega), e5, hI_sI, if_neg (by omega), e4, hI_sI, if_neg (by omega), e3, hI_sI, if_pos ⟨rfl, rfl⟩]
  have I5 : hI g7 24 5 = 0 := by rw [e7, hI_sI, if_neg (by omega), e6, hI_sI, if_neg (by omega), e5, hI_sI, if_neg (by omega), e4, hI_sI, if_pos ⟨rfl, rfl⟩]
  have I6 : hI g7 24 6 = 0 := by rw [e7, hI_sI, if_neg (by omega), e6, hI_sI, if_neg (by omega), e5, hI_sI, if_pos ⟨rfl, rfl⟩]
  have J5 : hI g7 22 5 = 0 := by rw [e7, hI_sI, if_neg (by omega), e6, hI_sI, if_pos ⟨rfl, rfl⟩]
  have J7 : hI g7 22 7 = -1 := by rw [e7, hI_sI, if_pos ⟨rfl, rfl⟩]
  have cx : ∀ y, hI g7 x y = hI h x y := fun y => w7.2.2 x y (by omega)
  have lx : hL g7 x = C.length + 1 := by rw [w7.1.2.2.1]; exact xL.1
  have FC : FCT g7 24 x := ⟨T7, R3, x8, by rw [w7.1.2.1]; exact xT, by rw [lx]; omega, .inl rfl⟩
  have X : XCg g7 t 24 x a c 0 := ⟨FC, ⟨c40, R0⟩, by omega, e8, by rw [I6, e9], by rw [I5, e10], fun h' t' q1 q2 => HN h' t' (chg_tr (wkq_chg w7) q1) q2⟩
  have cdE : ∀ (j : Nat) (v : Int), C[j]? = some v → hI g7 x (0 + j) = v := fun j v hj => by
    rw [Nat.zero_add, cx]
    refine cd j v ?_
    have hlt : j < C.length := by
      rcases Nat.lt_or_ge j C.length with z | z
      · exact z
      · rw [List.getElem?_eq_none z] at hj; cases hj
    rw [List.getElem?_append_left hlt]
    exact hj
  have c206 : hI g7 x C.length = 206 := by
    rw [cx]
    refine cd C.length 206 ?_
    rw [List.getElem?_append_right (Nat.le_refl _), Nat.sub_self]
    rfl
  have D := DV_C (EVL (d := 0) (F := 24) ht (i + 1) (q := 0) (n := 0) (nc := 0) (f := 119) E X cdE (by rw [lx]; omega) I4 J5 (by omega) J7 e54 (by omega) (by omega)) e54 hi
  have top : ∀ R, ((lp (fun s => c161_b24 s.1 s.2.1 s.2.2) hF0 (1, 0, g7)).bind (fun r12 => (c124 r12).bind (fun v13 => (some (sI v13.2 22 8 v13.1)).bind (fun h14 => if (hI h14 22 7) = (-1) then some (1, h14) else some (0, h14))))) = R → c161 a x h = R := fun R eR => by
    unfold c161
    refine bnd (kT_s T24) ?_
    refine bnd e162 ?_
    rw [← e6]
    refine bnd rfl ?_
    rw [← e7]
    refine bnd rfl ?_
    exact eR
  obtain ⟨NN, hNN⟩ : ∃ NN, hF0 = NN + 4100 := ⟨hF0 - 4100, by have := hF0_lt (m := 4100) (by omega); omega⟩
  rcases D with ⟨t', h', kk, v, b1, b2, b3, b4, b5, b6, b7, b8⟩ | ⟨t', h', kk, e, b1, b2, b3, b4, b5, b6, b7⟩
  · obtain ⟨o1, o2, o3, o4, o5, o6, o7⟩ := b3
    have wh : wkq h h' := wkq_tr w7 (wkq_ce o1)
    have FC' := FCT_ce FC o1
    -- the next part is no number's
    have l1 := b24_k kk (NN + 4100 - kk) 0 b2 T7 J7 (by omega)
    rw [if_pos o6, show NN + 4100 - kk + kk = hF0 by omega, Nat.zero_add] at l1
    have hq : hI h' 24 4 = (C.length : Int) := by rw [o2, Nat.zero_add]
    have lx' : hL h' x = C.length + 1 := by rw [FCT_L o1]; exact lx
    have e119 : c119 24 h' = some (206, sI h' 24 4 ((C.length + 1 : Nat) : Int)) := by
      rw [c119_e FC' hq (by rw [lx']; omega), FCT_x FC o1, c206]
    have e120 : c120 24 206 (sI h' 24 4 ((C.length + 1 : Nat) : Int)) = some (0, sI h' 24 4 ((C.length + 1 : Nat) : Int)) := by
      unfold c120
      rw [if_neg (by omega), if_neg (by omega), if_neg (by omega), if_neg (by omega), if_neg (by omega), if_neg (by omega), if_neg (by omega), if_neg (by omega), if_neg (by omega), if_neg (by omega), if_neg (by omega), if_neg (by omega)]
    obtain ⟨k1, ek1⟩ : ∃ k, k = sI h' 24 4 ((C.length + 1 : Nat) : Int) := ⟨_, rfl⟩
    rw [← ek1] at e119 e120
    have wk1 : wkq h k1 := wkq_tr wh (by rw [ek1]; exact wkq_sI (.inr (.inr ⟨rfl, .inl rfl⟩)))
    obtain ⟨N2, hN2⟩ : ∃ N2, NN + 4100 - kk = N2 + 2 := ⟨NN + 4100 - kk - 2, by omega⟩
    rw [hN2] at l1
    have T8 : hT h' 24 = 12 := FC'.1
    have s1 : (fun s : Int × Int × hS => c161_b24 s.1 s.2.1 s.2.2) (1, (kk : Int), h') = some (.inl (0, ((kk + 1 : Nat) : Int), k1)) := by
      show c161_b24 1 (kk : Int) h' = _
      unfold c161_b24
      rw [if_neg (by omega), if_neg (by omega)]
      refine bnd (kT_s T8) ?_
      refine bnd e119 ?_
      refine bnd e120 ?_
      rw [if_pos rfl]
      unfold c161_j66 c161_j67
      rw [wadd_n (by omega)]
    have s2 : (fun s : Int × Int × hS => c161_b24 s.1 s.2.1 s.2.2) (0, ((kk + 1 : Nat) : Int), k1) = some (.inr k1) := by
      show c161_b24 0 ((kk + 1 : Nat) : Int) k1 = _
      unfold c161_b24
      rw [if_neg (by omega), if_pos rfl]
    have l2 : lp (fun s => c161_b24 s.1 s.2.1 s.2.2) hF0 (1, 0, g7) = some k1 := (show _ = _ from l1).trans ((lp_n (n := N2 + 1) s1).trans (lp_d (n := N2) s2))
    have p5 : hI k1 22 5 = ((0 + 1 : Nat) : Int) := by rw [ek1, hI_sI, if_neg (by omega)]; exact o3
    have pv : hI k1 25 0 = v := by rw [ek1, hI_sI, if_neg (by omega)]; exact o4
    have p7 : hI k1 22 7 = -1 := by rw [ek1, hI_sI, if_neg (by omega)]; exact o6
    refine .inl ⟨sI (sI k1 22 5 ((0 : Nat) : Int)) 22 8 v, t', v, top _ ?_, by rw [hI_sI, if_pos ⟨rfl, rfl⟩], b8, b5, wkq_tr wk1 (wkq_tr (wkq_sI (.inl ⟨rfl, .inl rfl⟩)) (wkq_sI (.inl ⟨rfl, .inr (.inr (.inl rfl))⟩))), b4, b6, b7⟩
    refine bnd l2 ?_
    refine bnd (c124_e p5 (by omega)) ?_
    rw [pv]
    refine bnd rfl ?_
    have q7 : hI (sI (sI k1 22 5 ((0 : Nat) : Int)) 22 8 v) 22 7 = -1 := by rw [hI_sI, if_neg (by omega), hI_sI, if_neg (by omega)]; exact p7
    exact if_pos q7
  · obtain ⟨o1, o2, o3, o4⟩ := b3
    have wh : wkq h h' := wkq_tr w7 (wkq_ce o1)
    have l1 := b24_k kk (NN + 4100 - kk) 0 b2 T7 J7 (by omega)
    rw [if_neg (by omega), show NN + 4100 - kk + kk = hF0 by omega, Nat.zero_add] at l1
    obtain ⟨N2, hN2⟩ : ∃ N2, NN + 4100 - kk = N2 + 1 := ⟨NN + 4100 - kk - 1, by omega⟩
    rw [hN2] at l1
    have s2 : (fun s : Int × Int × hS => c161_b24 s.1 s.2.1 s.2.2) (0, (kk : Int), h') = some (.inr h') := by
      show c161_b24 0 (kk : Int) h' = _
      unfold c161_b24
      rw [if_neg (by omega), if_pos rfl]
    have l2 : lp (fun s => c161_b24 s.1 s.2.1 s.2.2) hF0 (1, 0, g7) = some h' := (show _ = _ from l1).trans (lp_d (n := N2) s2)
    have pop : ∃ z k2, c124 h' = some (z, k2) ∧ wkq h' k2 ∧ hI k2 22 7 = hI h' 22 7 := by
      by_cases c0 : hI h' 22 5 = 0
      · refine ⟨0, h', ?_, wkq_rf, rfl⟩
        unfold c124
        rw [if_neg (by omega)]
      · obtain ⟨n, hn⟩ : ∃ n : Nat, hI h' 22 5 = ((n + 1 : Nat) : Int) := ⟨(hI h' 22 5).toNat - 1, by omega⟩
        exact ⟨_, _, c124_e hn (by omega), wkq_sI (.inl ⟨rfl, .inl rfl⟩), by rw [hI_sI, if_neg (by omega)]⟩
    obtain ⟨z, k2, q1, q2, q3⟩ := pop
    refine .inr ⟨sI k2 22 8 z, t', top _ ?_, b7, wkq_tr (wkq_tr wh q2) (wkq_sI (.inl ⟨rfl, .inr (.inr (.inl rfl))⟩)), b4, b6⟩
    refine bnd l2 ?_
    refine bnd q1 ?_
    refine bnd rfl ?_
    have q7 : ¬ hI (sI k2 22 8 z) 22 7 = -1 := by rw [hI_sI, if_neg (by omega), q3, o2]; omega
    exact if_neg q7
end WOK
