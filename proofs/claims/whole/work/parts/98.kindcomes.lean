/-! a kind is put behind the others -/
section KCM
variable {hc hr hr' : hS} {K : Nat → Int → Prop} {p m s : Nat} {r r' : Int → Nat} {n a : Int}
def nmx (hr : hS) (m : Nat) (n : Int) : Int := ix (fun j : Nat => wg hr 1 (j : Int) 0) n m
/-- what the class's heap holds behind a new kind -/
def NK (hc hc' : hS) (p m v : Nat) (n : Int) : Prop := hN hc' = hN hc + 13 ∧ hM hc' = hM hc + 267 ∧ KD hc' (hN hc) ∧ (∀ x j, hI hc' x j = if x = p ∧ j = 1 then ((m + 1 : Nat) : Int) else if x = hN hc ∧ j = 3 then 1 else if x = hN hc ∧ j = 0 then n else if hN hc ≤ x ∧ x < hN hc + 13 then 0 else hI hc x j) ∧ (∀ x j, x < hN hc → hR hc' x j = if x = p + 1 ∧ j = m then hN hc else hR hc x j) ∧ hR hc' (hN hc) 1 = v ∧ (∀ x j, hN hc + 1 ≤ x → x < hN hc + 13 → hR hc' x j = 0) ∧ (∀ x, x < hN hc → hT hc' x = hT hc x ∧ hL hc' x = hL hc x)
theorem c56_j (P : PW hc hr K p 1 m r) (h448 : 448 ≤ hN hc) (hm : m < 12) (hs : hT hc s = 22) (hsn : s < hN hc) (s2 : hI hc s 2 = n) (v : Nat) : ∃ o, c56_j48 p s v hc = some o ∧ (o.1 = 0 ∧ NK hc o.2 p m v n) := by
  obtain ⟨W, ⟨p1, p2, p3, p4, p5, p6, p7⟩, P3, P4⟩ := P
  obtain ⟨k, hk⟩ : ∃ k, hN hc = k := ⟨_, rfl⟩
  unfold c56_j48 NK
  rw [hk] at h448 hsn p2 ⊢
  refine bex (fun h => h = mkH hc 24 19) ⟨_, rfl, rfl⟩ (fun h1 e1 => ?_)
  have n1 : hN h1 = k + 1 := by rw [e1, hN_mk, hk]
  have m1 : hM h1 = hM hc + 19 := by rw [e1, hM_mk]
  have i1 : ∀ x j, hI h1 x j = if x = k then 0 else hI hc x j := fun x j => by rw [e1, hI_mk, hk]
  have r1 : ∀ x j, hR h1 x j = if x = k then 0 else hR hc x j := fun x j => by rw [e1, hR_mk, hk]
  have t1 : ∀ x, hT h1 x = if x = k then 24 else hT hc x := fun x => by rw [e1, hT_mk, hk]
  have l1 : ∀ x, hL h1 x = if x = k then 19 else hL hc x := fun x => by rw [e1, hL_mk, hk]
  clear e1
  refine bex (fun z => z = n) ⟨_, gI_s (by rw [t1, if_neg (by omega)]; exact hs), by rw [i1, if_neg (by omega)]; exact s2⟩ (fun z e2 => ?_)
  subst e2
  refine bex (fun _ => True) ⟨_, k8_s (by omega), trivial⟩ (fun _ _ => ?_)
  obtain ⟨h2', x0, x1, x2, x3, x4, x5, x6, x7, x8⟩ := c57_k (n := z) h448 n1 (show hT h1 k = 24 by rw [t1, if_pos rfl])
  refine bex (fun h => h = h2') ⟨_, x0, rfl⟩ (fun h2 e2 => ?_)
  subst e2
  refine bex (fun h => h = sR h2 k 1 v) ⟨_, pR_s x3.2.2.1, rfl⟩ (fun h3 e3 => ?_)
  have tt : ∀ x, x < k → hT h2 x = hT hc x ∧ hL h2 x = hL hc x := fun x hx => by
    obtain ⟨u1, u2⟩ := x8 x (by omega)
    rw [u1, u2, t1, l1, if_neg (by omega), if_neg (by omega)]
    exact ⟨rfl, rfl⟩
  have T3 : hT h3 = hT h2 := by rw [e3]; rfl
  have L3 : hL h3 = hL h2 := by rw [e3]; rfl
  refine bex (fun h => h = sI h3 k 3 1) ⟨_, pI_s (by rw [T3]; exact x3.2.2.1), rfl⟩ (fun h4 e4 => ?_)
  have T4 : hT h4 = hT h2 := by rw [e4]; exact T3
  have L4 : hL h4 = hL h2 := by rw [e4]; exact L3
  have R4 : ∀ x j, x < k → hR h4 x j = hR hc x j := fun x j hx => by
    rw [e4, hR_sI, e3, hR_sR, if_neg (by omega), x5 x j hx, r1, if_neg (by omega)]
  have I4 : ∀ x j, x < k → hI h4 x j = hI hc x j := fun x j hx => by
    rw [e4, hI_sI, if_neg (by omega), e3, hI_sR, x4, if_neg (by omega), if_neg (by omega), i1, if_neg (by omega)]
  refine bex (fun z => z = p + 1) ⟨_, gR_s (by rw [T4, (tt p (by omega)).1]; exact p3), by rw [R4 p 0 (by omega)]; exact p4⟩ (fun z5 e5 => ?_)
  subst e5
  refine bex (fun z => z = (m : Int)) ⟨_, gI_s (by rw [T4, (tt p (by omega)).1]; exact p3), by rw [I4 p 1 (by omega)]; exact p7⟩ (fun z6 e6 => ?_)
  subst e6
  refine bex (fun h => h = sR h4 (p + 1) m k) ⟨_, wR_s (by rw [T4, (tt (p + 1) (by omega)).1]; exact p5) (by omega) (by omega) (by rw [L4, (tt (p + 1) (by omega)).2, p6]; omega) (.inr (by rw [T4]; exact x3.2.2.1)), by rw [Int.toNat_natCast]⟩ (fun h5 e7 => ?_)
  have T5 : hT h5 = hT h2 := by rw [e7]; exact T4
  refine bex (fun z => z = (m : Int)) ⟨_, gI_s (by rw [T5, (tt p (by omega)).1]; exact p3), by rw [e7, hI_sR, I4 p 1 (by omega)]; exact p7⟩ (fun z8 e8 => ?_)
  subst e8
  refine bex (fun h => h = sI h5 p 1 ((m + 1 : Nat) : Int)) ⟨_, pI_s (by rw [T5, (tt p (by omega)).1]; exact p3), by rw [wadd_n (by omega)]⟩ (fun h6 e9 => ?_)
  refine ⟨_, rfl, rfl, ?_⟩
  show hN h6 = k + 13 ∧ hM h6 = hM hc + 267 ∧ KD h6 k ∧ (∀ x j, hI h6 x j = _) ∧ (∀ x j, x < k → hR h6 x j = _) ∧ hR h6 k 1 = v ∧ (∀ x j, k + 1 ≤ x → x < k + 13 → hR h6 x j = 0) ∧ (∀ x, x < k → hT h6 x = hT hc x ∧ hL h6 x = hL hc x)
  have T6 : hT h6 = hT h2 := by rw [e9]; exact T5
  have L6 : hL h6 = hL h2 := by rw [e9, e7]; exact L4
  have N6 : hN h6 = hN h2 := by rw [e9, e7, e4, e3]; rfl
  have M6 : hM h6 = hM h2 := by rw [e9, e7, e4, e3]; rfl
  have R6 : ∀ x j, hR h6 x j = if x = p + 1 ∧ j = m then k else if x = k ∧ j = 1 then v else hR h2 x j := fun x j => by
    rw [e9, hR_sI, e7, hR_sR, e4, hR_sI, e3, hR_sR]
  have I6 : ∀ x j, hI h6 x j = if x = p ∧ j = 1 then ((m + 1 : Nat) : Int) else if x = k ∧ j = 3 then 1 else hI h2 x j := fun x j => by
    rw [e9, hI_sI, e7, hI_sR, e4, hI_sI, e3, hI_sR]
  refine ⟨by rw [N6]; exact x1, by rw [M6, x2, m1], ⟨h448, by rw [N6, x1]; omega, by rw [T6]; exact x3.2.2.1, fun e he => ?_⟩, fun x j => ?_, fun x j hx => ?_, ?_, fun x j h1 h2 => ?_, fun x hx => ?_⟩
  · have h5 : e.1 ≠ 1 := by
      have : ∀ e ∈ karL, e.1 ≠ 1 := by decide
      exact this e he
    rw [R6, if_neg (by omega), if_neg (by omega), T6, L6]
    exact x3.2.2.2 e he
  · rw [I6, x4, i1]
    by_cases c1 : x = p ∧ j = 1
    · rw [if_pos c1, if_pos c1]
    · rw [if_neg c1, if_neg c1]
      by_cases c2 : x = k ∧ j = 3
      · rw [if_pos c2, if_pos c2]
      · rw [if_neg c2, if_neg c2]
        by_cases c3 : x = k ∧ j = 0
        · rw [if_pos c3, if_pos c3]
        · rw [if_neg c3, if_neg c3]
          by_cases c4 : k + 1 ≤ x ∧ x < k + 13
          · rw [if_pos c4, if_pos (by omega)]
          · rw [if_neg c4]
            by_cases c5 : x = k
            · rw [if_pos c5, if_pos (by omega)]
            · rw [if_neg c5, if_neg (by omega)]
  · rw [R6]
    by_cases c1 : x = p + 1 ∧ j = m
    · rw [if_pos c1, if_pos c1]
    · rw [if_neg c1, if_neg c1, if_neg (by omega), x5 x j hx, r1, if_neg (by omega)]
  · rw [R6, if_neg (by omega), if_pos ⟨rfl, rfl⟩]
  · rw [R6, if_neg (by omega), if_neg (by omega)]
    exact x7 x j h1 h2
  · rw [T6, L6]
    exact tt x hx
theorem nmx_k (P : PW hc hr K p 1 m r) (n : Int) : c47 p n hc = some (kd hc p (nmx hr m n)) := c47_e P n
theorem nmx_b (n : Int) : nmx hr m n = -1 ∨ (0 ≤ nmx hr m n ∧ nmx hr m n < m ∧ wg hr 1 (nmx hr m n) 0 = n) := by
  unfold nmx
  rcases ix_b (fun j : Nat => wg hr 1 (j : Int) 0) n m with e | ⟨j, e, h1, h2, -⟩
  · exact .inl e
  · exact .inr ⟨by omega, by omega, by rw [e]; exact h2⟩
theorem nmx_m (P : PW hc hr K p 1 m r) : nmx hr m (-1) = -1 := by
  rcases nmx_b (hr := hr) (m := m) (-1) with e | ⟨h0, h1, h2⟩
  · exact e
  · have := (P.2.2.1 _ h0 h1).2.1.2.1
    omega
/-- a new kind in the class's pond -/
theorem c56_e (P : PW hc hr K p 1 m r) (h448 : 448 ≤ hN hc) (hm : m < 12) (hs : hT hc s = 22) (hsn : s < hN hc) (s2 : hI hc s 2 = n) (s4 : hI hc s 4 = a) (hn : nmx hr m n = -1) (ha : a = -1 ∨ nmx hr m a ≠ -1) : ∃ hc', c56 p s hc = some (0, hc') ∧ NK hc hc' p m (kd hc p (nmx hr m a)) n := by
  obtain ⟨o, e1, e2, e3⟩ := c56_j P h448 hm hs hsn s2 (kd hc p (nmx hr m a))
  have p3 := P.2.1.2.2.1
  have p7 := P.2.1.2.2.2.2.2.2
  refine ⟨o.2, ?_, e3⟩
  have e1 : c56_j48 p s (kd hc p (nmx hr m a)) hc = some (0, o.2) := by rw [e1, ← e2]
  unfold c56
  rw [gI_s hs, s2]
  simp only [bsome]
  rw [kT_s p3]
  simp only [bsome]
  rw [nmx_k P, hn]
  simp only [bsome]
  rw [kd_m, hnul_0]
  simp only [bsome]
  rw [if_pos trivial, gI_s p3, p7]
  simp only [bsome]
  rw [if_pos (by omega), gI_s hs, s4]
  simp only [bsome]
  rw [nmx_k P]
  simp only [bsome]
  by_cases c : a = -1
  · rw [if_pos c]; exact e1
  · have h1 : nmx hr m a ≠ -1 := by
      rcases ha with z | z
      · exact absurd z c
      · exact z
    obtain ⟨b0, b1, -⟩ : 0 ≤ nmx hr m a ∧ nmx hr m a < m ∧ wg hr 1 (nmx hr m a) 0 = a := by
      rcases nmx_b (hr := hr) (m := m) a with z | z
      · exact absurd z h1
      · exact z
    have := kd_8 P b0 b1
    rw [if_neg c, hnul_8 (by omega)]
    simp only [bsome]
    rw [if_neg (by decide)]
    exact e1
/-- the pond beside the world, with one kind more -/
theorem BW_k {hc' : hS} {u : Int} (B : BW hc hr K p m r) (h448 : 448 ≤ hN hc) (hm : m < 12) (N : NK hc hc' p m (kd hc p u) n) (hu : u = -1 ∨ (0 ≤ u ∧ u < m)) (n0 : 0 ≤ n ∧ n < 40) (hn : nmx hr m n = -1) (em : wm hr' 1 = ((m + 1 : Nat) : Int)) (eo : ∀ k f : Int, 0 ≤ k → k < m → 0 ≤ f → f < 64 → wg hr' 1 k f = wg hr 1 k f) (g0 : wg hr' 1 m 0 = n) (g1 : wg hr' 1 m 1 = u) (g2 : wg hr' 1 m 2 = 0) (g3 : wg hr' 1 m 3 = 1) (g5 : wg hr' 1 m 5 = 0) (g30 : wg hr' 1 m 30 = 0) (g39 : wg hr' 1 m 39 = 0) (rk : ∀ k : Int, 0 ≤ k → k < ((m + 1 : Nat) : Int) → r' k < 12 ∧ (wg hr' 1 k 1 = -1 ∨ r' (wg hr' 1 k 1) < r' k)) : BW hc' hr' K p (m + 1) r' := by
  obtain ⟨⟨W, ⟨p1, p2, p3, p4, p5, p6, p7⟩, P3, P4⟩, b1, b2, b3, b4⟩ := B
  obtain ⟨k, hk⟩ : ∃ k, hN hc = k := ⟨_, rfl⟩
  unfold NK at N
  rw [hk] at N h448 p2
  obtain ⟨x1, x2, x3, x4, x5, x6, x7, x8⟩ := N
  have kdm : kd hc' p (m : Int) = k := by
    rw [kd_n (by omega), Int.toNat_natCast, x5 (p + 1) m p2, if_pos ⟨rfl, rfl⟩]
  have kdo : ∀ i : Int, i = -1 ∨ (0 ≤ i ∧ i < m) → kd hc' p i = kd hc p i := fun i hi => by
    rcases hi with rfl | ⟨i0, i1⟩
    · rfl
    · rw [kd_n i0, kd_n i0, x5 (p + 1) _ p2, if_neg (by omega)]
  have far : ∀ i : Int, 0 ≤ i → i < m → kd hc p i + 12 < k ∧ ∀ o, o ≤ 12 → sm hc hc' (kd hc p i + o) := fun i i0 i1 => by
    have hn := (P3 i i0 i1).1.2.1
    have hb := b1 i i0 i1
    rw [hk] at hn
    refine ⟨hn, fun o ho => ⟨fun j => ?_, fun j => ?_, (x8 _ (by omega)).1, (x8 _ (by omega)).2⟩⟩
    · rw [x4, if_neg (by omega), if_neg (by omega), if_neg (by omega), if_neg (by omega)]
    · rw [x5 _ _ (by omega), if_neg (by omega)]
  have up : ∀ i : Int, 0 ≤ i → i < m → wg hr 1 i 1 = -1 ∨ (0 ≤ wg hr 1 i 1 ∧ wg hr 1 i 1 < m) := fun i i0 i1 => WF_up W ⟨i0, i1⟩
  refine ⟨⟨⟨em, by omega, fun i i0 i1 => ?_⟩, ⟨p1, by omega, by rw [(x8 p (by omega)).1]; exact p3, by rw [x5 p 0 (by omega), if_neg (by omega)]; exact p4, by rw [(x8 (p + 1) (by omega)).1]; exact p5, by rw [(x8 (p + 1) (by omega)).2]; exact p6, by rw [x4, if_pos ⟨rfl, rfl⟩]⟩, fun i i0 i1 => ?_, fun i j i0 i1 j0 j1 => ?_⟩, fun i i0 i1 => ?_, fun i j i0 ij j1 => ?_, fun x v hx => ?_, fun i i0 i1 => ?_⟩
  · by_cases c : i = m
    · subst c
      obtain ⟨q1, q2⟩ := rk (m : Int) i0 i1
      rw [g5, g30, g39]
      rw [g1] at q2 ⊢
      refine ⟨q1, ?_, by omega, by omega, by omega⟩
      rcases q2 with z | z
      · exact .inl z
      · rcases hu with y | ⟨y1, y2⟩
        · exact .inl y
        · exact .inr ⟨y1, by omega, z⟩
    · have im : i < m := by omega
      obtain ⟨q1, q2⟩ := rk i i0 i1
      obtain ⟨-, w2, w3, w4, w5⟩ := W.2.2 i i0 im
      rw [eo i 1 i0 im (by omega) (by omega)] at q2 ⊢
      rw [eo i 5 i0 im (by omega) (by omega), eo i 30 i0 im (by omega) (by omega), eo i 39 i0 im (by omega) (by omega)]
      refine ⟨q1, ?_, w3, w4, w5⟩
      rcases up i i0 im with z | ⟨z1, z2⟩
      · exact .inl z
      · rcases q2 with y | y
        · exact .inl y
        · exact .inr ⟨z1, by omega, y⟩
  · by_cases c : i = m
    · subst c
      unfold KR
      rw [kdm, g0, g1, g2, g5, g30, g39]
      refine ⟨x3, ⟨?_, n0.1, n0.2⟩, ?_, ?_, ⟨?_, fun t ht => by omega⟩, ⟨?_, fun t ht => by omega⟩, ?_, fun t ht => by omega⟩
      · rw [x4, if_neg (by omega), if_neg (by omega), if_pos ⟨rfl, rfl⟩]
      · rw [x6, kdo u hu]
      · rw [x4, if_neg (by omega), if_neg (by omega), if_neg (by omega), if_pos (by omega)]
      · rw [x4, if_neg (by omega), if_neg (by omega), if_neg (by omega), if_pos (by omega)]
      · rw [x4, if_neg (by omega), if_neg (by omega), if_neg (by omega), if_pos (by omega)]
      · rw [x4, if_neg (by omega), if_neg (by omega), if_neg (by omega), if_pos (by omega)]
    · have im : i < m := by omega
      obtain ⟨-, -, w3, w4, w5⟩ := W.2.2 i i0 im
      exact KR_c2 (P3 i i0 im) (kdo i (.inr ⟨i0, im⟩)) (kdo _ (up i i0 im)) (far i i0 im).2 (by rw [hk]; omega) (fun f f0 f1 => eo i f i0 im f0 f1) w3.2 w4.2 w5.2 (fun _ _ h => h)
  · have nn := ix_none (show ix (fun j : Nat => wg hr 1 (j : Int) 0) n m = -1 from hn)
    have nn' : ∀ i : Int, 0 ≤ i → i < m → wg hr 1 i 0 ≠ n := fun i i0 i1 => by
      have := nn i.toNat (by omega)
      rw [show ((i.toNat : Nat) : Int) = i by omega] at this
      exact this
    by_cases c : i = m
    · by_cases c2 : j = m
      · omega
      · have jm : j < m := by omega
        rw [c, g0, eo j 0 j0 jm (by omega) (by omega)]
        intro z
        exact absurd z.symm (nn' j j0 jm)
    · have im : i < m := by omega
      by_cases c2 : j = m
      · rw [c2, g0, eo i 0 i0 im (by omega) (by omega)]
        intro z
        exact absurd z (nn' i i0 im)
      · have jm : j < m := by omega
        rw [eo i 0 i0 im (by omega) (by omega), eo j 0 j0 jm (by omega) (by omega)]
        exact P4 i j i0 im j0 jm
  · by_cases c : i = m
    · rw [c, kdm]; omega
    · rw [kdo i (.inr ⟨i0, by omega⟩)]
      exact b1 i i0 (by omega)
  · by_cases c : j = m
    · rw [c, kdm, kdo i (.inr ⟨i0, by omega⟩)]
      have := (far i i0 (by omega)).1
      omega
    · rw [kdo i (.inr ⟨i0, by omega⟩), kdo j (.inr ⟨by omega, by omega⟩)]
      exact b2 i j i0 ij (by omega)
  · obtain ⟨y1, y2, y3⟩ := b3 x v hx
    rw [hk] at y1
    refine ⟨by omega, y2, fun i i0 i1 => ?_⟩
    by_cases c : i = m
    · rw [c, kdm]; omega
    · rw [kdo i (.inr ⟨i0, by omega⟩)]
      exact y3 i i0 (by omega)
  · unfold XR
    by_cases c : i = m
    · subst c
      rw [kdm, g3, g5]
      refine ⟨?_, fun t ht => by omega⟩
      rw [x4, if_neg (by omega), if_pos ⟨rfl, rfl⟩]
    · have im : i < m := by omega
      obtain ⟨y1, y2⟩ := b4 i i0 im
      obtain ⟨-, -, w3, -, -⟩ := W.2.2 i i0 im
      have z0 := (far i i0 im).2 0 (by omega)
      rw [Nat.add_zero] at z0
      rw [kdo i (.inr ⟨i0, im⟩), z0.1, eo i 3 i0 im (by omega) (by omega), eo i 5 i0 im (by omega) (by omega)]
      refine ⟨y1, fun t ht => ?_⟩
      rw [((far i i0 im).2 3 (by omega)).1, eo i _ i0 im (by omega) (by omega)]
      exact y2 t ht
/-- the other side's new kind -/
theorem c200_l {k : Int} (k0 : 0 ≤ k) (k1 : k < 12) : ∀ (d i N : Nat) (h : hS), i + d = 64 → d < N → ∃ h', lp (fun s => c200_b23 1 k s.1 s.2) N ((i : Int), h) = some h' ∧ fw h h' ∧ wm h' 1 = wm h 1 ∧ ∀ u g, 0 ≤ u → u < 12 → 0 ≤ g → g < 64 → wg h' 1 u g = if u = k ∧ (i : Int) ≤ g then 0 else wg h 1 u g
  | 0, i, N, h, h1, h2 => by
    obtain ⟨N, rfl⟩ : ∃ N1, N = N1 + 1 := ⟨N - 1, by omega⟩
    refine ⟨h, lp_d ?_, fp_rf, rfl, fun u g u0 u1 g0 g1 => by rw [if_neg (by omega)]⟩
    show c200_b23 1 k (i : Int) h = _
    unfold c200_b23
    rw [if_pos (by omega)]
  | d + 1, i, N, h, h1, h2 => by
    obtain ⟨N, rfl⟩ : ∃ N1, N = N1 + 1 := ⟨N - 1, by omega⟩
    obtain ⟨h', q1, q2, q3, q4⟩ := c200_l k0 k1 d (i + 1) N (wset h 1 k i 0) (by omega) (by omega)
    refine ⟨h', ?_, fp_tr (fw_set k0 k1 (by omega) (by omega)) q2, q3.trans (wms k0 k1 (by omega) (by omega)), fun u g u0 u1 g0 g1 => ?_⟩
    · rw [lp_n (s' := (((i + 1 : Nat) : Int), wset h 1 k i 0))]
      · exact q1
      · show c200_b23 1 k (i : Int) h = _
        unfold c200_b23
        rw [if_neg (by omega), c201_e (by omega) (by omega) k0 k1 (by omega) (by omega), wadd_n (by omega)]
        rfl
    · rw [q4 u g u0 u1 g0 g1, wgs k0 k1 (by omega) (by omega) u0 u1 g0 g1]
      by_cases c : u = k
      · by_cases c2 : ((i + 1 : Nat) : Int) ≤ g
        · rw [if_pos ⟨c, c2⟩, if_pos ⟨c, by omega⟩]
        · rw [if_neg (fun z => c2 z.2)]
          by_cases c3 : g = i
          · rw [if_pos ⟨c, c3⟩, if_pos ⟨c, by omega⟩]
          · rw [if_neg (fun z => c3 z.2), if_neg (by omega)]
      · rw [if_neg (fun z => c z.1), if_neg (fun z => c z.1), if_neg (fun z => c z.1)]
theorem c200_e {h : hS} (hm : wm h 1 = (m : Int)) (m12 : m < 12) : ∃ h', c200 1 n h = some ((m : Int), h') ∧ fw h h' ∧ wm h' 1 = ((m + 1 : Nat) : Int) ∧ ∀ u g, 0 ≤ u → u < 12 → 0 ≤ g → g < 64 → wg h' 1 u g = if u = m then (if g = 0 then n else if g = 1 then -1 else if g = 3 then 1 else if g = 4 then -1 else 0) else wg h 1 u g := by
  have hmm : hI h 400 769 = (m : Int) := hm
  have f0 : fw h (sI h 400 769 ((m + 1 : Nat) : Int)) := fp_sI ⟨rfl, by omega, by omega⟩
  have w0 : wm (sI h 400 769 ((m + 1 : Nat) : Int)) 1 = ((m + 1 : Nat) : Int) := by
    show hI (sI h 400 769 ((m + 1 : Nat) : Int)) 400 769 = _
    rw [hI_sI, if_pos ⟨rfl, rfl⟩]
  have g0 : ∀ u g, 0 ≤ u → u < 12 → 0 ≤ g → g < 64 → wg (sI h 400 769 ((m + 1 : Nat) : Int)) 1 u g = wg h 1 u g := fun u g u0 u1 g0 g1 => by
    unfold wg
    rw [hI_sI, if_neg (by omega)]
  obtain ⟨h1, q1, q2, q3, q4⟩ := c200_l (k := (m : Int)) (by omega) (by omega) 64 0 hF0 (sI h 400 769 ((m + 1 : Nat) : Int)) rfl (hF0_lt (by omega))
  have q1 : lp (fun s => c200_b23 1 (m : Int) s.1 s.2) hF0 (0, sI h 400 769 ((m + 1 : Nat) : Int)) = some h1 := q1
  refine ⟨wset (wset (wset (wset h1 1 m 0 n) 1 m 1 (-1)) 1 m 4 (-1)) 1 m 3 1, ?_, fp_tr f0 (fp_tr q2 (fp_tr (fp_tr (fp_tr (fw_set (by omega) (by omega) (by omega) (by omega)) (fw_set (by omega) (by omega) (by omega) (by omega))) (fw_set (by omega) (by omega) (by omega) (by omega))) (fw_set (by omega) (by omega) (by omega) (by omega)))), ?_, fun u g u0 u1 g0' g1' => ?_⟩
  · unfold c200
    rw [c198_e (by omega) (by omega), hm]
    simp only [bsome]
    rw [wmul_e (by omega) (by omega), aIs_s (by omega) (by omega)]
    simp only [bsome]
    rw [show hI h 400 (769 * 1 : Int).toNat = (m : Int) from hmm, wadd_n (by omega), wIs_s (by omega) (by omega)]
    simp only [bsome]
    rw [show sI h 400 (769 * 1 : Int).toNat ((m + 1 : Nat) : Int) = sI h 400 769 ((m + 1 : Nat) : Int) from rfl, q1]
    simp only [bsome]
    rw [c201_e (by omega) (by omega) (by omega) (by omega) (by omega) (by omega)]
    simp only [bsome]
    rw [c201_e (by omega) (by omega) (by omega) (by omega) (by omega) (by omega)]
    simp only [bsome]
    rw [c201_e (by omega) (by omega) (by omega) (by omega) (by omega) (by omega)]
    simp only [bsome]
    rw [c201_e (by omega) (by omega) (by omega) (by omega) (by omega) (by omega)]
    rfl
  · rw [wms (by omega) (by omega) (by omega) (by omega), wms (by omega) (by omega) (by omega) (by omega), wms (by omega) (by omega) (by omega) (by omega), wms (by omega) (by omega) (by omega) (by omega), q3, w0]
  · rw [wgs (by omega) (by omega) (by omega) (by omega) u0 u1 g0' g1', wgs (by omega) (by omega) (by omega) (by omega) u0 u1 g0' g1', wgs (by omega) (by omega) (by omega) (by omega) u0 u1 g0' g1', wgs (by omega) (by omega) (by omega) (by omega) u0 u1 g0' g1', q4 u g u0 u1 g0' g1', g0 u g u0 u1 g0' g1']
    by_cases c : u = (m : Int)
    · rw [if_pos c]
      by_cases c0 : g = 0
      · rw [if_neg (by omega), if_neg (by omega), if_neg (by omega), if_pos ⟨c, c0⟩, if_pos c0]
      · rw [if_neg c0]
        by_cases c1 : g = 1
        · rw [if_neg (by omega), if_neg (by omega), if_pos ⟨c, c1⟩, if_pos c1]
        · rw [if_neg c1]
          by_cases c3 : g = 3
          · rw [if_pos ⟨c, c3⟩, if_pos c3]
          · rw [if_neg (fun z => c3 z.2), if_neg c3]
            by_cases c4 : g = 4
            · rw [if_pos ⟨c, c4⟩, if_pos c4]
            · rw [if_neg (fun z => c4 z.2), if_neg (fun z => c1 z.2), if_neg (fun z => c0 z.2), if_neg c4, if_pos ⟨c, by omega⟩]
    · rw [if_neg c, if_neg (fun z => c z.1), if_neg (fun z => c z.1), if_neg (fun z => c z.1), if_neg (fun z => c z.1), if_neg (fun z => c z.1)]
end KCM
