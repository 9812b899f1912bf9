/-! settle: generations, names -/
section ST3
variable {h0 hr : hS} {K : Nat → Int → Prop} {p m : Nat} {r : Int → Nat} {j : Int} {gen : Int}
/-- is it touched, or one above it -/
def tch (h0 hr : hS) (p : Nat) (i : Int) : Int := clb (fun u => decide (hI h0 (kd h0 p u) 3 ≠ 0)) (fun u => wg hr 1 u 1) 13 i
/-- the climb of one kind -/
theorem c88_c (B : BW h0 hr K p m r) {i : Int} (i0 : 0 ≤ i) (i1 : i < m) : ∀ (d N : Nat) (u : Int) (h : hS), (u = -1 ∨ ((0 ≤ u ∧ u < m) ∧ r u < d)) → d < N → gch p m h0 h → ∃ h', lp (fun s => c88_b18 p gen i s.1 s.2) N (kd h0 p u, h) = some h' ∧ (h'.2 = h.2 ∧ ∀ x j, ¬ (x = kd h0 p i ∧ j = 2) → hI h' x j = hI h x j) ∧ (hI h' (kd h0 p i) 2 = if clb (fun u => decide (hI h0 (kd h0 p u) 3 ≠ 0)) (fun u => wg hr 1 u 1) (d + 1) u = -1 then hI h (kd h0 p i) 2 else gen)
  | 0, N, u, h, hu, hN, q => by
    obtain ⟨N, rfl⟩ : ∃ N1, N = N1 + 1 := ⟨N - 1, by omega⟩
    rcases hu with rfl | ⟨-, z⟩
    · exact ⟨h, lp_d rfl, ⟨rfl, fun _ _ _ => rfl⟩, by rw [clb_n, if_pos rfl]⟩
    · omega
  | d + 1, N, u, h, hu, hN, q => by
    obtain ⟨N, rfl⟩ : ∃ N1, N = N1 + 1 := ⟨N - 1, by omega⟩
    rcases hu with rfl | ⟨⟨u0, u1⟩, hr'⟩
    · exact ⟨h, lp_d rfl, ⟨rfl, fun _ _ _ => rfl⟩, by rw [clb_n, if_pos rfl]⟩
    · have Qu := B.1.2.2.1 u u0 u1
      have Qi := B.1.2.2.1 i i0 i1
      have k448 := Qu.1.1
      obtain ⟨-, w2, -⟩ := B.1.1.2.2 u u0 u1
      have fu := gch_far B u0 u1 (o := 0) (by omega)
      rw [Nat.add_zero] at fu
      obtain ⟨r1, s1⟩ := q.2.2.2.2 (kd h0 p u) fu
      have s3 := s1 3 (fun v v0 v1 => by omega)
      have p1 := B.1.2.1
      have rp : ∀ x, x = p ∨ x = p + 1 → ∀ j, hR h x j = hR h0 x j := fun x hx => (q.2.2.2.2 x (fun v v0 v1 => by have := B.2.1 v v0 v1; omega)).1
      have cu : clb (fun u => decide (hI h0 (kd h0 p u) 3 ≠ 0)) (fun u => wg hr 1 u 1) (d + 1 + 1) u = if decide (hI h0 (kd h0 p u) 3 ≠ 0) = true then u else clb (fun u => decide (hI h0 (kd h0 p u) 3 ≠ 0)) (fun u => wg hr 1 u 1) (d + 1) (wg hr 1 u 1) := by
        show (if u = -1 then -1 else _) = _
        rw [if_neg (by omega)]
      have up : wg hr 1 u 1 = -1 ∨ ((0 ≤ wg hr 1 u 1 ∧ wg hr 1 u 1 < m) ∧ r (wg hr 1 u 1) < d) := by rcases w2 with z | ⟨z1, z2, z3⟩; exact .inl z; exact .inr ⟨⟨z1, z2⟩, by omega⟩
      by_cases c : hI h0 (kd h0 p u) 3 = 0
      · have e : c88_b18 p gen i (kd h0 p u) h = some (.inl (kd h0 p (wg hr 1 u 1), h)) := by
          unfold c88_b18 c88_j41
          rw [hnul_8 (by omega)]
          simp only [bsome]
          rw [if_neg (by decide), gI_s (by rw [q.2.2.1]; exact Qu.1.2.2.1), s3]
          simp only [bsome]
          rw [if_pos c, gR_s (by rw [q.2.2.1]; exact Qu.1.2.2.1), r1, Qu.2.2.1]
          rfl
        obtain ⟨h', a1, a2, a3⟩ := c88_c B i0 i1 d N (wg hr 1 u 1) h up (by omega) q
        refine ⟨h', ?_, a2, ?_⟩
        · rw [lp_n (s' := (kd h0 p (wg hr 1 u 1), h)) e]
          exact a1
        · rw [a3, cu, if_neg (show ¬ decide (hI h0 (kd h0 p u) 3 ≠ 0) = true by rw [decide_eq_true_eq]; exact fun z => z c)]
      · have ik : hR h (p + 1) i.toNat = kd h0 p i := by
          rw [rp (p + 1) (.inr rfl), kd_n i0]
        have q' : gch p m h0 (sI h (kd h0 p i) 2 gen) := ⟨q.1, q.2.1, q.2.2.1, q.2.2.2.1, fun x hx => ⟨(q.2.2.2.2 x hx).1, fun j hj => by
          rw [hI_sI, if_neg (fun z => hj i i0 i1 z)]
          exact (q.2.2.2.2 x hx).2 j hj⟩⟩
        have e : c88_b18 p gen i (kd h0 p u) h = some (.inl (kd h0 p (wg hr 1 u 1), sI h (kd h0 p i) 2 gen)) := by
          unfold c88_b18 c88_j41
          rw [hnul_8 (by omega)]
          simp only [bsome]
          rw [if_neg (by decide), gI_s (by rw [q.2.2.1]; exact Qu.1.2.2.1), s3]
          simp only [bsome]
          rw [if_neg c, gR_s (by rw [q.2.2.1]; exact p1.2.2.1), rp p (.inl rfl), p1.2.2.2.1]
          simp only [bsome]
          rw [aR_s (by rw [q.2.2.1]; exact p1.2.2.2.2.1) i0 (by rw [q.2.2.2.1, p1.2.2.2.2.2.1]; have := B.1.1.2.1; omega), ik]
          simp only [bsome]
          rw [pI_s (by rw [q.2.2.1]; exact Qi.1.2.2.1)]
          simp only [bsome]
          rw [gR_s (h := sI h (kd h0 p i) 2 gen) (x := kd h0 p u) (t := 24) (by show hT h (kd h0 p u) = 24; rw [q.2.2.1]; exact Qu.1.2.2.1), hR_sI, r1, Qu.2.2.1]
          rfl
        obtain ⟨h', a1, a2, a3⟩ := c88_c B i0 i1 d N (wg hr 1 u 1) (sI h (kd h0 p i) 2 gen) up (by omega) q'
        refine ⟨h', ?_, ?_, ?_⟩
        · rw [lp_n (s' := (kd h0 p (wg hr 1 u 1), sI h (kd h0 p i) 2 gen)) e]
          exact a1
        · refine ⟨a2.1, fun x t hx => ?_⟩
          rw [a2.2 x t hx, hI_sI, if_neg hx]
        · rw [a3, cu, if_pos (decide_eq_true c), if_neg (show ¬ u = -1 by omega)]
          split
          · rw [hI_sI, if_pos ⟨rfl, rfl⟩]
          · rfl
/-- a table row is worked out -/
def TBr (h0 hr h : hS) (p : Nat) (j : Int) : Prop := ∀ n : Nat, n < 40 → hI h (kd h0 p j + 8) n = (if fAt hr 1 j n = -1 then 0 else 1) ∧ (hR h (kd h0 p j + 9) n = kd h0 p (sAt hr 1 j n) ∧ (sAt hr 1 j n ≠ -1 → hI h (kd h0 p j + 10) n = sIx hr 1 (sAt hr 1 j n) n)) ∧ (hR h (kd h0 p j + 11) n = kd h0 p (aAt hr 1 j n) ∧ (aAt hr 1 j n ≠ -1 → hI h (kd h0 p j + 12) n = aIx hr 1 (aAt hr 1 j n) n))
/-- no table is written yet -/
def TB0 (h0 h : hS) (p : Nat) (j : Int) : Prop := ∀ n : Nat, n < 40 → hI h (kd h0 p j + 8) n = 0 ∧ hR h (kd h0 p j + 9) n = 0 ∧ hR h (kd h0 p j + 11) n = 0
theorem c88_l (B : BW h0 hr K p m r) (C : CF hr 1 m) (T0 : ∀ j : Int, 0 ≤ j → j < m → TB0 h0 h0 p j) : ∀ (d i N : Nat) (h : hS), i + d = m → d < N → gch p m h0 h → (∀ u : Int, 0 ≤ u → u < i → hI h (kd h0 p u) 2 = (if tch h0 hr p u = -1 then hI h0 (kd h0 p u) 2 else gen) ∧ TBr h0 hr h p u) → (∀ u : Int, (i : Int) ≤ u → u < m → hI h (kd h0 p u) 2 = hI h0 (kd h0 p u) 2 ∧ TB0 h0 h p u) → ∃ h', lp (fun s => c88_b2 p gen s.1 s.2) N ((i : Int), h) = some h' ∧ gch p m h0 h' ∧ ∀ u : Int, 0 ≤ u → u < m → hI h' (kd h0 p u) 2 = (if tch h0 hr p u = -1 then hI h0 (kd h0 p u) 2 else gen) ∧ TBr h0 hr h' p u
  | 0, i, N, h, e1, e2, q, a, b => by
    obtain ⟨N, rfl⟩ : ∃ N1, N = N1 + 1 := ⟨N - 1, by omega⟩
    have p1 := B.1.2.1
    have ip : hI h p 1 = (m : Int) := by
      rw [(q.2.2.2.2 p (fun v v0 v1 => by have := B.2.1 v v0 v1; omega)).2 1 (fun v v0 v1 => by omega)]
      exact p1.2.2.2.2.2.2
    refine ⟨h, lp_d ?_, q, fun u u0 u1 => a u u0 (by omega)⟩
    show c88_b2 p gen (i : Int) h = _
    unfold c88_b2
    rw [gI_s (by rw [q.2.2.1]; exact p1.2.2.1), ip]
    simp only [bsome]
    rw [if_pos (by omega)]
  | d + 1, i, N, h, e1, e2, q, a, b => by
    obtain ⟨N, rfl⟩ : ∃ N1, N = N1 + 1 := ⟨N - 1, by omega⟩
    have p1 := B.1.2.1
    have hm := B.1.1.2.1
    have Qi := B.1.2.2.1 (i : Int) (by omega) (by omega)
    obtain ⟨wi, -⟩ := B.1.1.2.2 (i : Int) (by omega) (by omega)
    have fp' : ∀ x, x = p ∨ x = p + 1 → ∀ v : Int, 0 ≤ v → v < m → ¬ (kd h0 p v + 8 ≤ x ∧ x ≤ kd h0 p v + 12) := fun x hx v v0 v1 => by have := B.2.1 v v0 v1; omega
    have ip : hI h p 1 = (m : Int) := by
      rw [(q.2.2.2.2 p (fp' p (.inl rfl))).2 1 (fun v v0 v1 => by omega)]
      exact p1.2.2.2.2.2.2
    have ik : hR h (p + 1) i = kd h0 p (i : Int) := by
      rw [(q.2.2.2.2 (p + 1) (fp' (p + 1) (.inr rfl))).1, kd_n (by omega), Int.toNat_natCast]
    obtain ⟨h1, x1, x2, x3⟩ := c88_c (gen := gen) B (i := (i : Int)) (by omega) (by omega) 12 hF0 (i : Int) h (.inr ⟨⟨by omega, by omega⟩, wi⟩) (hF0_lt (by omega)) q
    have o1 : ∀ x j, ¬ (x = kd h0 p (i : Int) ∧ j = 2) → hI h1 x j = hI h x j := x2.2
    have oR : ∀ x j, hR h1 x j = hR h x j := fun x j => by
      show h1.2.1 x j = h.2.1 x j
      rw [x2.1]
    have q1 : gch p m h0 h1 := by
      have eN : hN h1 = hN h := congrArg (fun z : (Nat → Nat → Nat) × (Nat → Nat → Int64) × (Nat → Nat) × (Nat → Nat) × Nat × Nat => z.2.2.2.2.1) x2.1
      have eM : hM h1 = hM h := congrArg (fun z : (Nat → Nat → Nat) × (Nat → Nat → Int64) × (Nat → Nat) × (Nat → Nat) × Nat × Nat => z.2.2.2.2.2) x2.1
      have eT : hT h1 = hT h := congrArg (fun z : (Nat → Nat → Nat) × (Nat → Nat → Int64) × (Nat → Nat) × (Nat → Nat) × Nat × Nat => z.2.2.1) x2.1
      have eL : hL h1 = hL h := congrArg (fun z : (Nat → Nat → Nat) × (Nat → Nat → Int64) × (Nat → Nat) × (Nat → Nat) × Nat × Nat => z.2.2.2.1) x2.1
      exact ⟨eN.trans q.1, eM.trans q.2.1, eT.trans q.2.2.1, eL.trans q.2.2.2.1, fun x hx => ⟨fun j => (oR x j).trans ((q.2.2.2.2 x hx).1 j), fun j hj => (o1 x j (hj (i : Int) (by omega) (by omega))).trans ((q.2.2.2.2 x hx).2 j hj)⟩⟩
    have B1 := gch_BW B q1
    have ag := gw_a (hr := hr) (m := m) (fun k => hI h1 (kd h1 p (k : Int)) 2) hm
    have C1 := CF_v ag B.1.1 C
    have hk1 := gch_kd B q1
    have T1 : ∀ n, n < 40 → hI h1 (kd h1 p (i : Int) + 8) n = 0 ∧ hR h1 (kd h1 p (i : Int) + 9) n = 0 ∧ hR h1 (kd h1 p (i : Int) + 11) n = 0 := fun n hn => by
      rw [hk1]
      obtain ⟨y1, y2, y3⟩ := (b (i : Int) (by omega) (by omega)).2 n hn
      rw [o1 _ _ (by omega), oR, oR]
      exact ⟨y1, y2, y3⟩
    obtain ⟨h2, z1, z2, z3⟩ := c89_e B1 C1 (j := (i : Int)) (by omega) (by omega) rfl q5_rf T1
    rw [hk1] at z1 z2 z3
    have ki : ∀ u : Int, 0 ≤ u → u < m → u ≠ i → kd h0 p u + 13 ≤ kd h0 p (i : Int) ∨ kd h0 p (i : Int) + 13 ≤ kd h0 p u := fun u u0 u1 hu => by
      by_cases c : u < i
      · exact .inl (B.2.2.1 u i u0 c (by omega))
      · exact .inr (B.2.2.1 i u (by omega) (by omega) u1)
    have q2 : gch p m h0 h2 := ⟨z2.1.trans q1.1, z2.2.1.trans q1.2.1, z2.2.2.1.trans q1.2.2.1, z2.2.2.2.1.trans q1.2.2.2.1, fun x hx => by
      obtain ⟨y1, y2⟩ := z2.2.2.2.2 x (hx (i : Int) (by omega) (by omega))
      obtain ⟨y3, y4⟩ := q1.2.2.2.2 x hx
      exact ⟨fun j => (y2 j).trans (y3 j), fun j hj => (y1 j).trans (y4 j hj)⟩⟩
    have e : c88_b2 p gen (i : Int) h = some (.inl (((i + 1 : Nat) : Int), h2)) := by
      have x1 : lp (fun s => c88_b18 p gen (i : Int) s.1 s.2) hF0 (kd h0 p (i : Int), h) = some h1 := x1
      unfold c88_b2
      rw [gI_s (by rw [q.2.2.1]; exact p1.2.2.1), ip]
      simp only [bsome]
      rw [if_neg (by omega), gR_s (by rw [q.2.2.1]; exact p1.2.2.1), (q.2.2.2.2 p (fp' p (.inl rfl))).1, p1.2.2.2.1]
      simp only [bsome]
      rw [aR_s (by rw [q.2.2.1]; exact p1.2.2.2.2.1) (by omega) (by rw [q.2.2.2.1, p1.2.2.2.2.2.1]; omega), Int.toNat_natCast, ik]
      simp only [bsome]
      rw [x1]
      simp only [bsome]
      rw [gR_s (by rw [q1.2.2.1]; exact p1.2.2.1), (q1.2.2.2.2 p (fp' p (.inl rfl))).1, p1.2.2.2.1]
      simp only [bsome]
      rw [aR_s (by rw [q1.2.2.1]; exact p1.2.2.2.2.1) (by omega) (by rw [q1.2.2.2.1, p1.2.2.2.2.2.1]; omega), Int.toNat_natCast, oR, ik]
      simp only [bsome]
      rw [kT_s (by rw [q1.2.2.1]; exact Qi.1.2.2.1)]
      simp only [bsome]
      rw [z1, wadd_n (by omega)]
      rfl
    have row : ∀ u : Int, 0 ≤ u → u < m → u ≠ i → (∀ o, o ≤ 12 → ∀ j, hR h2 (kd h0 p u + o) j = hR h (kd h0 p u + o) j) ∧ ∀ o, o ≤ 12 → ∀ j, hI h2 (kd h0 p u + o) j = hI h (kd h0 p u + o) j := fun u u0 u1 hu => by
      have kk := ki u u0 u1 hu
      refine ⟨fun o ho j => ?_, fun o ho j => ?_⟩
      · rw [(z2.2.2.2.2 _ (by omega)).2, oR]
      · rw [(z2.2.2.2.2 _ (by omega)).1, o1 _ _ (by omega)]
    have ti : hI h2 (kd h0 p (i : Int)) 2 = (if tch h0 hr p i = -1 then hI h0 (kd h0 p (i : Int)) 2 else gen) ∧ TBr h0 hr h2 p i := by
      refine ⟨?_, fun n hn => ?_⟩
      · rw [(z2.2.2.2.2 _ (by omega)).1, x3, (b (i : Int) (by omega) (by omega)).1]
        rfl
      · have y := z3 n hn
        have bi : (i : Int) = -1 ∨ (0 ≤ (i : Int) ∧ (i : Int) < m) := .inr ⟨by omega, by omega⟩
        rw [fAt_v ag B.1.1 bi, sAt_v ag B.1.1 bi, aAt_v ag B.1.1 bi, hk1, hk1] at y
        refine ⟨y.1, ⟨y.2.1.1, fun hx => ?_⟩, y.2.2.1, fun hx => ?_⟩
        · rw [y.2.1.2 hx]
          rcases sAt_b (n := (n : Int)) B.1.1 bi with z | ⟨⟨z, z'⟩, -⟩
          · exact absurd z hx
          · exact sIx_v ag B.1.1 z z'
        · rw [y.2.2.2 hx]
          rcases aAt_b (n := (n : Int)) B.1.1 bi with z | ⟨⟨z, z'⟩, -⟩
          · exact absurd z hx
          · exact aIx_v ag B.1.1 z z'
    obtain ⟨h', y1, y2, y3⟩ := c88_l B C T0 d (i + 1) N h2 (by omega) (by omega) q2 (fun u u0 u1 => by
      by_cases c : u = i
      · rw [c]; exact ti
      · obtain ⟨rR, rI⟩ := row u u0 (by omega) c
        obtain ⟨v1, v2⟩ := a u u0 (by omega)
        have r0 := rI 0 (by omega) 2
        rw [Nat.add_zero] at r0
        refine ⟨by rw [r0]; exact v1, fun n hn => ?_⟩
        rw [rI 8 (by omega), rR 9 (by omega), rI 10 (by omega), rR 11 (by omega), rI 12 (by omega)]
        exact v2 n hn) (fun u u0 u1 => by
      have c : u ≠ i := by omega
      obtain ⟨rR, rI⟩ := row u (by omega) u1 c
      obtain ⟨v1, v2⟩ := b u (by omega) u1
      have r0 := rI 0 (by omega) 2
      rw [Nat.add_zero] at r0
      refine ⟨by rw [r0]; exact v1, fun n hn => ?_⟩
      rw [rI 8 (by omega), rR 9 (by omega), rR 11 (by omega)]
      exact v2 n hn)
    refine ⟨h', ?_, y2, y3⟩
    rw [lp_n (s' := (((i + 1 : Nat) : Int), h2)) e]
    exact y1
/-- settle, of a told pond -/
theorem c88_e (B : BW h0 hr K p m r) (C : CF hr 1 m) (T0 : ∀ j : Int, 0 ≤ j → j < m → TB0 h0 h0 p j) : ∃ h', lp (fun s => c88_b2 p gen s.1 s.2) hF0 (0, h0) = some h' ∧ gch p m h0 h' ∧ ∀ u : Int, 0 ≤ u → u < m → hI h' (kd h0 p u) 2 = (if tch h0 hr p u = -1 then hI h0 (kd h0 p u) 2 else gen) ∧ TBr h0 hr h' p u := c88_l B C T0 m 0 hF0 h0 (by omega) (hF0_lt (by have := B.1.1.2.1; omega)) gch_rf (fun u u0 u1 => by omega) (fun u u0 u1 => ⟨rfl, T0 u (by omega) u1⟩)
end ST3
