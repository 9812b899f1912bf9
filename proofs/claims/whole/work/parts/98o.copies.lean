/-! what is copied and cleared when a text is taken -/
/-- the nodes of text t -/
def ntx (h : hS) (t : Nat) (i j : Nat) : Int := hI h 399 (5 * (1200 * t + i) + j)
section CPY
variable {h hr : hS}
theorem c225_l {t m : Nat} (ht : t ≤ 6) (hm : m ≤ 1200) (h0 : hS) (e16 : hI h0 395 16 = (m : Int)) : ∀ (d i N : Nat) (h : hS), i + d = 5 * m → d < N → fp (fun x j => x = 399 ∧ 6000 * t ≤ j ∧ j < 6000 * t + i) h0 h → (∀ j, j < i → hI h 399 (6000 * t + j) = hI h0 399 (42000 + j)) → ∃ h', lp (fun s => c225_b2 t s.1 s.2) N ((i : Int), h) = some h' ∧ fp (fun x j => x = 399 ∧ 6000 * t ≤ j ∧ j < 6000 * t + 5 * m) h0 h' ∧ ∀ j, j < 5 * m → hI h' 399 (6000 * t + j) = hI h0 399 (42000 + j)
  | 0, i, N, h, e1, e2, f, g => by
    obtain ⟨N, rfl⟩ : ∃ N1, N = N1 + 1 := ⟨N - 1, by omega⟩
    have e : i = 5 * m := by omega
    subst e
    refine ⟨h, lp_d ?_, f, g⟩
    show c225_b2 t ((5 * m : Nat) : Int) h = _
    unfold c225_b2
    rw [f.2 395 16 (by omega), e16, wmul_e (by omega) (by omega), if_pos (by omega)]
  | d + 1, i, N, h, e1, e2, f, g => by
    obtain ⟨N, rfl⟩ : ∃ N1, N = N1 + 1 := ⟨N - 1, by omega⟩
    have e : c225_b2 t (i : Int) h = some (.inl (((i + 1 : Nat) : Int), sI h 399 (6000 * t + i) (hI h0 399 (42000 + i)))) := by
      unfold c225_b2
      rw [f.2 395 16 (by omega), e16, wmul_e (by omega) (by omega), if_neg (by omega), wadd_e (x := 42000) (by omega) (by omega), aIs_s (by omega) (by omega)]
      simp only [bsome]
      rw [wmul_e (x := 6000) (by omega) (by omega), wadd_e (x := 6000 * (t : Int)) (by omega) (by omega), wIs_s (by omega) (by omega), show wadd (i : Int) 1 = ((i + 1 : Nat) : Int) from by rw [wadd_e (by omega) (by omega)]; rfl]
      simp only [bsome]
      rw [show (42000 + (i : Int)).toNat = 42000 + i by omega, show (6000 * (t : Int) + (i : Int)).toNat = 6000 * t + i by omega, f.2 399 (42000 + i) (by omega)]
    obtain ⟨h', a1, a2, a3⟩ := c225_l ht hm h0 e16 d (i + 1) N (sI h 399 (6000 * t + i) (hI h0 399 (42000 + i))) (by omega) (by omega) (fp_tr ⟨f.1, fun x j hx => f.2 x j (by omega)⟩ (fp_sI ⟨rfl, by omega, by omega⟩)) (fun j hj => by
      by_cases c : j = i
      · rw [c, hI_sI, if_pos ⟨rfl, rfl⟩]
      · rw [hI_sI, if_neg (by omega)]
        exact g j (by omega))
    refine ⟨h', ?_, a2, a3⟩
    rw [lp_n (s' := (((i + 1 : Nat) : Int), sI h 399 (6000 * t + i) (hI h0 399 (42000 + i)))) e]
    exact a1
/-- a text's nodes are kept -/
theorem c225_e {t m : Nat} (ht : t ≤ 6) (hm : m ≤ 1200) (e16 : hI h 395 16 = (m : Int)) : ∃ h', c225 t h = some h' ∧ fp (fun x j => x = 399 ∧ 6000 * t ≤ j ∧ j < 6000 * t + 6000) h h' ∧ ∀ i, i < m → ∀ j, j < 5 → ntx h' t i j = nd h i j := by
  obtain ⟨h', a1, a2, a3⟩ := c225_l ht hm h e16 (5 * m) 0 hF0 h (by omega) (hF0_lt (by omega)) fp_rf (fun j hj => by omega)
  have a1 : lp (fun s => c225_b2 t s.1 s.2) hF0 (0, h) = some h' := a1
  refine ⟨h', ?_, ⟨a2.1, fun x j hx => a2.2 x j (by omega)⟩, fun i hi j hj => ?_⟩
  · unfold c225
    rw [a1]
    rfl
  · unfold ntx nd
    have := a3 (5 * i + j) (by omega)
    rw [show 5 * (1200 * t + i) + j = 6000 * t + (5 * i + j) by omega, this]
    congr 1
    omega
theorem c226_l {w1 w2 : Nat} (h1 : w1 < 3) (h2 : w2 < 3) (hne : w1 ≠ w2) (h0 : hS) : ∀ (d i N : Nat) (h : hS), i + d = 769 → d < N → fp (fun x j => x = 400 ∧ 769 * w2 ≤ j ∧ j < 769 * w2 + i) h0 h → (∀ j, j < i → hI h 400 (769 * w2 + j) = hI h0 400 (769 * w1 + j)) → ∃ h', lp (fun s => c226_b2 w1 w2 s.1 s.2) N ((i : Int), h) = some h' ∧ fp (fun x j => x = 400 ∧ 769 * w2 ≤ j ∧ j < 769 * w2 + 769) h0 h' ∧ ∀ j, j < 769 → hI h' 400 (769 * w2 + j) = hI h0 400 (769 * w1 + j)
  | 0, i, N, h, e1, e2, f, g => by
    obtain ⟨N, rfl⟩ : ∃ N1, N = N1 + 1 := ⟨N - 1, by omega⟩
    have e : i = 769 := by omega
    subst e
    refine ⟨h, lp_d ?_, f, g⟩
    show c226_b2 w1 w2 769 h = _
    unfold c226_b2
    rw [if_pos (by omega)]
  | d + 1, i, N, h, e1, e2, f, g => by
    obtain ⟨N, rfl⟩ : ∃ N1, N = N1 + 1 := ⟨N - 1, by omega⟩
    have dj : ¬ (769 * w2 ≤ 769 * w1 + i ∧ 769 * w1 + i < 769 * w2 + i) := by
      rcases (show w1 = 0 ∨ w1 = 1 ∨ w1 = 2 by omega) with z | z | z <;> rcases (show w2 = 0 ∨ w2 = 1 ∨ w2 = 2 by omega) with y | y | y <;> omega
    have e : c226_b2 w1 w2 (i : Int) h = some (.inl (((i + 1 : Nat) : Int), sI h 400 (769 * w2 + i) (hI h0 400 (769 * w1 + i)))) := by
      unfold c226_b2
      rw [if_neg (by omega), wmul_e (x := 769) (y := (w1 : Int)) (by omega) (by omega), wmul_e (x := 769) (y := (w2 : Int)) (by omega) (by omega), wadd_e (x := 769 * (w1 : Int)) (by omega) (by omega), wadd_e (x := 769 * (w2 : Int)) (by omega) (by omega), aIs_s (by omega) (by omega)]
      simp only [bsome]
      rw [wIs_s (by omega) (by omega), wadd_n (by omega)]
      simp only [bsome]
      rw [show (769 * (w1 : Int) + (i : Int)).toNat = 769 * w1 + i by omega, show (769 * (w2 : Int) + (i : Int)).toNat = 769 * w2 + i by omega, f.2 400 (769 * w1 + i) (fun z => dj z.2)]
    obtain ⟨h', a1, a2, a3⟩ := c226_l h1 h2 hne h0 d (i + 1) N (sI h 400 (769 * w2 + i) (hI h0 400 (769 * w1 + i))) (by omega) (by omega) (fp_tr ⟨f.1, fun x j hx => f.2 x j (by omega)⟩ (fp_sI ⟨rfl, by omega, by omega⟩)) (fun j hj => by
      by_cases c : j = i
      · rw [c, hI_sI, if_pos ⟨rfl, rfl⟩]
      · rw [hI_sI, if_neg (by omega)]
        exact g j (by omega))
    refine ⟨h', ?_, a2, a3⟩
    rw [lp_n (s' := (((i + 1 : Nat) : Int), sI h 400 (769 * w2 + i) (hI h0 400 (769 * w1 + i)))) e]
    exact a1
/-- a world is laid over another one -/
theorem c226_e {w1 w2 : Nat} (h1 : w1 < 3) (h2 : w2 < 3) (hne : w1 ≠ w2) : ∃ h', c226 w1 w2 h = some h' ∧ fp (fun x j => x = 400 ∧ 769 * w2 ≤ j ∧ j < 769 * w2 + 769) h h' ∧ wm h' w2 = wm h w1 ∧ ∀ k f : Int, 0 ≤ k → k < 12 → 0 ≤ f → f < 64 → wg h' w2 k f = wg h w1 k f := by
  obtain ⟨h', a1, a2, a3⟩ := c226_l h1 h2 hne h 769 0 hF0 h rfl (hF0_lt (by omega)) fp_rf (fun j hj => by omega)
  have a1 : lp (fun s => c226_b2 w1 w2 s.1 s.2) hF0 (0, h) = some h' := a1
  refine ⟨h', ?_, a2, ?_, fun k f k0 k1 f0 f1 => ?_⟩
  · unfold c226
    rw [a1]
    rfl
  · have := a3 0 (by omega)
    unfold wm
    rw [show (769 * (w2 : Int)).toNat = 769 * w2 + 0 by omega, show (769 * (w1 : Int)).toNat = 769 * w1 + 0 by omega]
    exact this
  · have := a3 (1 + 64 * k.toNat + f.toNat) (by omega)
    unfold wg
    rw [show (769 * (w2 : Int) + 1 + 64 * k + f).toNat = 769 * w2 + (1 + 64 * k.toNat + f.toNat) by omega, show (769 * (w1 : Int) + 1 + 64 * k + f).toNat = 769 * w1 + (1 + 64 * k.toNat + f.toNat) by omega]
    exact this
/-- no creature lives any more -/
theorem c41_c (SH0 : ∀ c : Nat, c < 40 → hR h 19 c = 215 + 4 * c ∧ hT h (215 + 4 * c) = 16) : ∀ (d i N : Nat) (h1 : hS), i + d = 40 → d < N → fp (fun x j => j = 1 ∧ ∃ c, c < 40 ∧ x = 215 + 4 * c) h h1 → (∀ c, c < i → hI h1 (215 + 4 * c) 1 = 0) → ∃ h', lp (fun s => c41_b34 s.1 s.2) N ((i : Int), h1) = some h' ∧ fp (fun x j => j = 1 ∧ ∃ c, c < 40 ∧ x = 215 + 4 * c) h h' ∧ ∀ c, c < 40 → hI h' (215 + 4 * c) 1 = 0
  | 0, i, N, h1, e1, e2, f, g => by
    obtain ⟨N, rfl⟩ : ∃ N1, N = N1 + 1 := ⟨N - 1, by omega⟩
    have e : i = 40 := by omega
    subst e
    refine ⟨h1, lp_d ?_, f, g⟩
    show c41_b34 40 h1 = _
    unfold c41_b34
    rw [if_pos (by omega)]
  | d + 1, i, N, h1, e1, e2, f, g => by
    obtain ⟨N, rfl⟩ : ∃ N1, N = N1 + 1 := ⟨N - 1, by omega⟩
    obtain ⟨s1, s2⟩ := SH0 i (by omega)
    have e : c41_b34 (i : Int) h1 = some (.inl (((i + 1 : Nat) : Int), sI h1 (215 + 4 * i) 1 0)) := by
      unfold c41_b34
      rw [if_neg (by omega), aRs_s (by omega) (by omega), Int.toNat_natCast]
      simp only [bsome]
      have : hR h1 19 i = 215 + 4 * i := by
        show h1.2.1 19 i = _
        rw [f.1]; exact s1
      rw [this, pI_s (by show h1.2.2.2.1 (215 + 4 * i) = 16; rw [f.1]; exact s2), wadd_n (by omega)]
      rfl
    obtain ⟨h', a1, a2, a3⟩ := c41_c SH0 d (i + 1) N (sI h1 (215 + 4 * i) 1 0) (by omega) (by omega) (fp_tr f (fp_sI ⟨rfl, i, by omega, rfl⟩)) (fun c hc => by
      by_cases z : c = i
      · rw [z, hI_sI, if_pos ⟨rfl, rfl⟩]
      · rw [hI_sI, if_neg (by omega)]
        exact g c (by omega))
    refine ⟨h', ?_, a2, a3⟩
    rw [lp_n (s' := (((i + 1 : Nat) : Int), sI h1 (215 + 4 * i) 1 0)) e]
    exact a1
/-- no long act is known any more -/
theorem c41_a (SL0 : ∀ c : Nat, c < 10 → hR h 21 c = 375 + 2 * c ∧ hT h (375 + 2 * c) = 20) : ∀ (d i N : Nat) (h1 : hS), i + d = 10 → d < N → fp (fun x j => (j = 1 ∨ j = 2) ∧ ∃ c, c < 10 ∧ x = 375 + 2 * c) h h1 → (∀ c, c < i → hI h1 (375 + 2 * c) 1 = 0 ∧ hI h1 (375 + 2 * c) 2 = 0) → ∃ h', lp (fun s => c41_b58 s.1 s.2) N ((i : Int), h1) = some h' ∧ fp (fun x j => (j = 1 ∨ j = 2) ∧ ∃ c, c < 10 ∧ x = 375 + 2 * c) h h' ∧ ∀ c, c < 10 → hI h' (375 + 2 * c) 1 = 0 ∧ hI h' (375 + 2 * c) 2 = 0
  | 0, i, N, h1, e1, e2, f, g => by
    obtain ⟨N, rfl⟩ : ∃ N1, N = N1 + 1 := ⟨N - 1, by omega⟩
    have e : i = 10 := by omega
    subst e
    refine ⟨h1, lp_d ?_, f, g⟩
    show c41_b58 10 h1 = _
    unfold c41_b58
    rw [if_pos (by omega)]
  | d + 1, i, N, h1, e1, e2, f, g => by
    obtain ⟨N, rfl⟩ : ∃ N1, N = N1 + 1 := ⟨N - 1, by omega⟩
    obtain ⟨s1, s2⟩ := SL0 i (by omega)
    have r1 : ∀ h2 : hS, h2.2 = h1.2 → hR h2 21 i = 375 + 2 * i ∧ hT h2 (375 + 2 * i) = 20 := fun h2 e => by
      refine ⟨?_, ?_⟩
      · show h2.2.1 21 i = _
        rw [e, f.1]; exact s1
      · show h2.2.2.2.1 (375 + 2 * i) = _
        rw [e, f.1]; exact s2
    have e : c41_b58 (i : Int) h1 = some (.inl (((i + 1 : Nat) : Int), sI (sI h1 (375 + 2 * i) 1 0) (375 + 2 * i) 2 0)) := by
      unfold c41_b58
      rw [if_neg (by omega), aRs_s (by omega) (by omega), Int.toNat_natCast]
      simp only [bsome]
      rw [(r1 h1 rfl).1, pI_s (r1 h1 rfl).2]
      simp only [bsome]
      rw [aRs_s (by omega) (by omega), Int.toNat_natCast]
      simp only [bsome]
      rw [(r1 (sI h1 (375 + 2 * i) 1 0) rfl).1, pI_s (r1 (sI h1 (375 + 2 * i) 1 0) rfl).2, wadd_n (by omega)]
      rfl
    obtain ⟨h', a1, a2, a3⟩ := c41_a SL0 d (i + 1) N (sI (sI h1 (375 + 2 * i) 1 0) (375 + 2 * i) 2 0) (by omega) (by omega) (fp_tr f (fp_tr (fp_sI ⟨.inl rfl, i, by omega, rfl⟩) (fp_sI ⟨.inr rfl, i, by omega, rfl⟩))) (fun c hc => by
      by_cases z : c = i
      · rw [z, hI_sI, if_neg (by omega), hI_sI, if_pos ⟨rfl, rfl⟩, hI_sI, if_pos ⟨rfl, rfl⟩]
        exact ⟨rfl, rfl⟩
      · rw [hI_sI, if_neg (by omega), hI_sI, if_neg (by omega), hI_sI, if_neg (by omega), hI_sI, if_neg (by omega)]
        exact g c (by omega))
    refine ⟨h', ?_, a2, a3⟩
    rw [lp_n (s' := (((i + 1 : Nat) : Int), sI (sI h1 (375 + 2 * i) 1 0) (375 + 2 * i) 2 0)) e]
    exact a1
/-- the other side's long acts -/
theorem c183_a : ∀ (d i N : Nat) (h1 : hS), i + d = 10 → d < N → fp (fun x j => (x = 423 ∨ x = 424) ∧ j < 10) h h1 → (∀ c, c < i → hI h1 423 c = 0 ∧ hI h1 424 c = 0) → ∃ h', lp (fun s => c183_b90 s.1 s.2) N ((i : Int), h1) = some h' ∧ fp (fun x j => (x = 423 ∨ x = 424) ∧ j < 10) h h' ∧ ∀ c, c < 10 → hI h' 423 c = 0 ∧ hI h' 424 c = 0
  | 0, i, N, h1, e1, e2, f, g => by
    obtain ⟨N, rfl⟩ : ∃ N1, N = N1 + 1 := ⟨N - 1, by omega⟩
    have e : i = 10 := by omega
    subst e
    refine ⟨h1, lp_d ?_, f, g⟩
    show c183_b90 10 h1 = _
    unfold c183_b90
    rw [if_pos (by omega)]
  | d + 1, i, N, h1, e1, e2, f, g => by
    obtain ⟨N, rfl⟩ : ∃ N1, N = N1 + 1 := ⟨N - 1, by omega⟩
    have e : c183_b90 (i : Int) h1 = some (.inl (((i + 1 : Nat) : Int), sI (sI h1 423 i 0) 424 i 0)) := by
      unfold c183_b90
      rw [if_neg (by omega), wIs_s (by omega) (by omega), Int.toNat_natCast]
      simp only [bsome]
      rw [wIs_s (by omega) (by omega), Int.toNat_natCast, wadd_n (by omega)]
      rfl
    obtain ⟨h', a1, a2, a3⟩ := c183_a d (i + 1) N (sI (sI h1 423 i 0) 424 i 0) (by omega) (by omega) (fp_tr f (fp_tr (fp_sI ⟨.inl rfl, by omega⟩) (fp_sI ⟨.inr rfl, by omega⟩))) (fun c hc => by
      by_cases z : c = i
      · rw [z, hI_sI, if_neg (by omega), hI_sI, if_pos ⟨rfl, rfl⟩, hI_sI, if_pos ⟨rfl, rfl⟩]
        exact ⟨rfl, rfl⟩
      · rw [hI_sI, if_neg (by omega), hI_sI, if_neg (by omega), hI_sI, if_neg (by omega), hI_sI, if_neg (by omega)]
        exact g c (by omega))
    refine ⟨h', ?_, a2, a3⟩
    rw [lp_n (s' := (((i + 1 : Nat) : Int), sI (sI h1 423 i 0) 424 i 0)) e]
    exact a1
end CPY
