/-! what the names of a kind mean is worked out -/
/-- the tables of the kind k alone are other -/
def q5 (k : Nat) (h h' : hS) : Prop := hN h' = hN h ∧ hM h' = hM h ∧ hT h' = hT h ∧ hL h' = hL h ∧ ∀ x, ¬ (k + 8 ≤ x ∧ x ≤ k + 12) → (∀ j, hI h' x j = hI h x j) ∧ ∀ j, hR h' x j = hR h x j
theorem q5_rf {k : Nat} {h : hS} : q5 k h h := ⟨rfl, rfl, rfl, rfl, fun _ _ => ⟨fun _ => rfl, fun _ => rfl⟩⟩
theorem q5_tr {k : Nat} {h h1 h2 : hS} (a : q5 k h h1) (b : q5 k h1 h2) : q5 k h h2 := ⟨b.1.trans a.1, b.2.1.trans a.2.1, b.2.2.1.trans a.2.2.1, b.2.2.2.1.trans a.2.2.2.1, fun x hx => ⟨fun j => ((b.2.2.2.2 x hx).1 j).trans ((a.2.2.2.2 x hx).1 j), fun j => ((b.2.2.2.2 x hx).2 j).trans ((a.2.2.2.2 x hx).2 j)⟩⟩
theorem q5_sI {k : Nat} {h : hS} {o i : Nat} {v : Int} (ho : 8 ≤ o ∧ o ≤ 12) : q5 k h (sI h (k + o) i v) := ⟨rfl, rfl, rfl, rfl, fun x hx => ⟨fun j => by rw [hI_sI, if_neg (by omega)], fun _ => rfl⟩⟩
theorem q5_sR {k : Nat} {h : hS} {o i : Nat} {v : Nat} (ho : 8 ≤ o ∧ o ≤ 12) : q5 k h (sR h (k + o) i v) := ⟨rfl, rfl, rfl, rfl, fun x hx => ⟨fun _ => rfl, fun j => by rw [hR_sR, if_neg (by omega)]⟩⟩
section STL
variable {h0 : hS} {k g : Nat}
/-- the fields of one kind of the chain -/
theorem c89_f {F : Nat} (Kk : KD h0 k) (Kg : KD h0 g) (far : ∀ o, o ≤ 7 → ¬ (k + 8 ≤ g + o ∧ g + o ≤ k + 12)) (hF : hI h0 g 4 = (F : Int)) (F8 : F ≤ 8) (nm : ∀ i : Nat, i < F → 0 ≤ hI h0 (g + 1) i ∧ hI h0 (g + 1) i < 40) : ∀ (d i N : Nat) (h : hS), i + d = F → d < N → q5 k h0 h → ∃ h', lp (fun s => c89_b8 k g s.1 s.2) N ((i : Int), h) = some h' ∧ q5 k h0 h' ∧ (∀ x, x ≠ k + 8 → ∀ j, hI h' x j = hI h x j) ∧ hR h' = hR h ∧ ∀ n : Nat, n < 40 → (hI h' (k + 8) n = 1 ∧ ∃ i', i ≤ i' ∧ i' < F ∧ hI h0 (g + 1) i' = n) ∨ (hI h' (k + 8) n = hI h (k + 8) n ∧ ∀ i', i ≤ i' → i' < F → hI h0 (g + 1) i' ≠ n)
  | 0, i, N, h, e1, e2, q => by
    obtain ⟨N, rfl⟩ : ∃ N1, N = N1 + 1 := ⟨N - 1, by omega⟩
    refine ⟨h, lp_d ?_, q, fun _ _ _ => rfl, rfl, fun n hn => .inr ⟨rfl, fun i' h1 h2 => by omega⟩⟩
    show c89_b8 k g (i : Int) h = _
    have f0 := far 0 (by omega)
    rw [Nat.add_zero] at f0
    unfold c89_b8
    rw [gI_s (by rw [q.2.2.1]; exact Kg.2.2.1), (q.2.2.2.2 g f0).1, hF]
    simp only [bsome]
    rw [if_pos (by omega)]
  | d + 1, i, N, h, e1, e2, q => by
    obtain ⟨N, rfl⟩ : ∃ N1, N = N1 + 1 := ⟨N - 1, by omega⟩
    have f0 := far 0 (by omega)
    rw [Nat.add_zero] at f0
    obtain ⟨n0, n1⟩ := nm i (by omega)
    obtain ⟨t, ht⟩ : ∃ t : Nat, hI h0 (g + 1) i = (t : Int) := ⟨(hI h0 (g + 1) i).toNat, by omega⟩
    have e : c89_b8 k g (i : Int) h = some (.inl (((i + 1 : Nat) : Int), sI h (k + 8) t 1)) := by
      unfold c89_b8
      rw [gI_s (by rw [q.2.2.1]; exact Kg.2.2.1), (q.2.2.2.2 g f0).1, hF]
      simp only [bsome]
      rw [if_neg (by omega), gR_s (by rw [q.2.2.1]; exact Kk.2.2.1), (q.2.2.2.2 k (by omega)).2, (KD14 Kk).1]
      simp only [bsome]
      rw [gR_s (by rw [q.2.2.1]; exact Kg.2.2.1), (q.2.2.2.2 g f0).2, (KD5 Kg).1]
      simp only [bsome]
      rw [aI_s (by rw [q.2.2.1]; exact (KD5 Kg).2.1) (by omega) (by rw [q.2.2.2.1, (KD5 Kg).2.2]; omega), Int.toNat_natCast, (q.2.2.2.2 (g + 1) (far 1 (by omega))).1, ht]
      simp only [bsome]
      rw [wI_s (by rw [q.2.2.1]; exact (KD14 Kk).2.1) (by omega) (by rw [q.2.2.2.1, (KD14 Kk).2.2]; omega), Int.toNat_natCast, wadd_n (by omega)]
      rfl
    obtain ⟨h', a1, a2, a3, a4, a5⟩ := c89_f Kk Kg far hF F8 nm d (i + 1) N (sI h (k + 8) t 1) (by omega) (by omega) (q5_tr q (q5_sI (by omega)))
    refine ⟨h', ?_, a2, fun x hx j => ?_, a4, fun n hn => ?_⟩
    · rw [lp_n (s' := (((i + 1 : Nat) : Int), sI h (k + 8) t 1)) e]
      exact a1
    · rw [a3 x hx, hI_sI, if_neg (by omega)]
    · rcases a5 n hn with ⟨b1, i', b2, b3, b4⟩ | ⟨b1, b2⟩
      · exact .inl ⟨b1, i', by omega, b3, b4⟩
      · by_cases c : n = t
        · refine .inl ⟨?_, i, Nat.le_refl _, by omega, by rw [ht, c]⟩
          rw [b1, hI_sI, if_pos ⟨rfl, c⟩]
        · refine .inr ⟨?_, fun i' h1 h2 => ?_⟩
          · rw [b1, hI_sI, if_neg (fun z => c z.2)]
          · by_cases z : i' = i
            · rw [z, ht]; omega
            · exact b2 i' (by omega) h2
/-- the statics of one kind of the chain -/
theorem c89_s {F : Nat} (Kk : KD h0 k) (Kg : KD h0 g) (far : ∀ o, o ≤ 7 → ¬ (k + 8 ≤ g + o ∧ g + o ≤ k + 12)) (hF : hI h0 g 8 = (F : Int)) (F8 : F ≤ 4) (nm : ∀ i : Nat, i < F → 0 ≤ hI h0 (g + 4) i ∧ hI h0 (g + 4) i < 40) : ∀ (d i N : Nat) (h : hS), i + d = F → d < N → q5 k h0 h → ∃ h', lp (fun s => c89_b36 k g s.1 s.2) N ((i : Int), h) = some h' ∧ q5 k h0 h' ∧ (∀ x, x ≠ k + 10 → ∀ j, hI h' x j = hI h x j) ∧ (∀ x, x ≠ k + 9 → ∀ j, hR h' x j = hR h x j) ∧ ∀ n : Nat, n < 40 → (hR h' (k + 9) n = g ∧ ∃ i' : Nat, i ≤ i' ∧ i' < F ∧ hI h0 (g + 4) i' = n ∧ hI h' (k + 10) n = (i' : Int)) ∨ (hR h' (k + 9) n = hR h (k + 9) n ∧ hI h' (k + 10) n = hI h (k + 10) n ∧ ∀ i', i ≤ i' → i' < F → hI h0 (g + 4) i' ≠ n)
  | 0, i, N, h, e1, e2, q => by
    obtain ⟨N, rfl⟩ : ∃ N1, N = N1 + 1 := ⟨N - 1, by omega⟩
    refine ⟨h, lp_d ?_, q, fun _ _ _ => rfl, fun _ _ _ => rfl, fun n hn => .inr ⟨rfl, rfl, fun i' h1 h2 => by omega⟩⟩
    show c89_b36 k g (i : Int) h = _
    have f0 := far 0 (by omega)
    rw [Nat.add_zero] at f0
    unfold c89_b36
    rw [gI_s (by rw [q.2.2.1]; exact Kg.2.2.1), (q.2.2.2.2 g f0).1, hF]
    simp only [bsome]
    rw [if_pos (by omega)]
  | d + 1, i, N, h, e1, e2, q => by
    obtain ⟨N, rfl⟩ : ∃ N1, N = N1 + 1 := ⟨N - 1, by omega⟩
    have f0 := far 0 (by omega)
    rw [Nat.add_zero] at f0
    have f4 := far 4 (by omega)
    obtain ⟨n0, n1⟩ := nm i (by omega)
    obtain ⟨t, ht⟩ : ∃ t : Nat, hI h0 (g + 4) i = (t : Int) := ⟨(hI h0 (g + 4) i).toNat, by omega⟩
    have gk := Kk.1
    have e : c89_b36 k g (i : Int) h = some (.inl (((i + 1 : Nat) : Int), sI (sR h (k + 9) t g) (k + 10) t (i : Int))) := by
      unfold c89_b36
      rw [gI_s (by rw [q.2.2.1]; exact Kg.2.2.1), (q.2.2.2.2 g f0).1, hF]
      simp only [bsome]
      rw [if_neg (by omega), gR_s (by rw [q.2.2.1]; exact Kk.2.2.1), (q.2.2.2.2 k (by omega)).2, (KD15 Kk).1]
      simp only [bsome]
      rw [gR_s (by rw [q.2.2.1]; exact Kg.2.2.1), (q.2.2.2.2 g f0).2, (KD9 Kg).1]
      simp only [bsome]
      rw [aI_s (by rw [q.2.2.1]; exact (KD9 Kg).2.1) (by omega) (by rw [q.2.2.2.1, (KD9 Kg).2.2]; omega), Int.toNat_natCast, (q.2.2.2.2 (g + 4) f4).1, ht]
      simp only [bsome]
      rw [wR_s (by rw [q.2.2.1]; exact (KD15 Kk).2.1) (by omega) (by omega) (by rw [q.2.2.2.1, (KD15 Kk).2.2]; omega) (.inr (by rw [q.2.2.1]; exact Kg.2.2.1)), Int.toNat_natCast]
      simp only [bsome]
      rw [gR_s (h := sR h (k + 9) t g) (x := k) (t := 24) (by show hT h k = 24; rw [q.2.2.1]; exact Kk.2.2.1), hR_sR, if_neg (by omega), (q.2.2.2.2 k (by omega)).2, (KD16 Kk).1]
      simp only [bsome]
      rw [gR_s (h := sR h (k + 9) t g) (x := g) (t := 24) (by show hT h g = 24; rw [q.2.2.1]; exact Kg.2.2.1), hR_sR, if_neg (by omega), (q.2.2.2.2 g f0).2, (KD9 Kg).1]
      simp only [bsome]
      rw [aI_s (h := sR h (k + 9) t g) (x := g + 4) (t := 1) (by show hT h (g + 4) = 1; rw [q.2.2.1]; exact (KD9 Kg).2.1) (by omega) (by show (i : Int) < (hL h (g + 4) : Int); rw [q.2.2.2.1, (KD9 Kg).2.2]; omega), Int.toNat_natCast, hI_sR, (q.2.2.2.2 (g + 4) f4).1, ht]
      simp only [bsome]
      rw [wI_s (h := sR h (k + 9) t g) (x := k + 10) (t := 1) (by show hT h (k + 10) = 1; rw [q.2.2.1]; exact (KD16 Kk).2.1) (by omega) (by show (t : Int) < (hL h (k + 10) : Int); rw [q.2.2.2.1, (KD16 Kk).2.2]; omega), Int.toNat_natCast, wadd_n (by omega)]
      rfl
    obtain ⟨h', a1, a2, a3, a4, a5⟩ := c89_s Kk Kg far hF F8 nm d (i + 1) N (sI (sR h (k + 9) t g) (k + 10) t (i : Int)) (by omega) (by omega) (q5_tr q (q5_tr (q5_sR (by omega)) (q5_sI (by omega))))
    refine ⟨h', ?_, a2, fun x hx j => ?_, fun x hx j => ?_, fun n hn => ?_⟩
    · rw [lp_n (s' := (((i + 1 : Nat) : Int), sI (sR h (k + 9) t g) (k + 10) t (i : Int))) e]
      exact a1
    · rw [a3 x hx, hI_sI, if_neg (by omega), hI_sR]
    · rw [a4 x hx, hR_sI, hR_sR, if_neg (by omega)]
    · rcases a5 n hn with ⟨b1, i', b2, b3, b4, b5⟩ | ⟨b1, b2, b3⟩
      · exact .inl ⟨b1, i', by omega, b3, b4, b5⟩
      · by_cases c : n = t
        · refine .inl ⟨?_, i, Nat.le_refl _, by omega, by rw [ht, c], ?_⟩
          · rw [b1, hR_sI, hR_sR, if_pos ⟨rfl, c⟩]
          · rw [b2, hI_sI, if_pos ⟨rfl, c⟩]
        · refine .inr ⟨?_, ?_, fun i' h1 h2 => ?_⟩
          · rw [b1, hR_sI, hR_sR, if_neg (fun z => c z.2)]
          · rw [b2, hI_sI, if_neg (fun z => c z.2), hI_sR]
          · by_cases z : i' = i
            · rw [z, ht]; omega
            · exact b3 i' (by omega) h2
/-- the acts of one kind of the chain: the first one counts -/
theorem c89_a {F : Nat} (Kk : KD h0 k) (Kg : KD h0 g) (far : ∀ o, o ≤ 7 → ¬ (k + 8 ≤ g + o ∧ g + o ≤ k + 12)) (hF : hI h0 g 11 = (F : Int)) (F8 : F ≤ 8) (nm : ∀ i : Nat, i < F → 0 ≤ hI h0 (g + 6) i ∧ hI h0 (g + 6) i < 40) : ∀ (d i N : Nat) (h : hS), i + d = F → d < N → q5 k h0 h → (∀ n, n < 40 → hR h (k + 11) n = 0 ∨ 8 ≤ hR h (k + 11) n) → ∃ h', lp (fun s => c89_b76 k g s.1 s.2) N ((i : Int), h) = some h' ∧ q5 k h0 h' ∧ (∀ x, x ≠ k + 12 → ∀ j, hI h' x j = hI h x j) ∧ (∀ x, x ≠ k + 11 → ∀ j, hR h' x j = hR h x j) ∧ ∀ n : Nat, n < 40 → (hR h (k + 11) n ≠ 0 ∧ hR h' (k + 11) n = hR h (k + 11) n ∧ hI h' (k + 12) n = hI h (k + 12) n) ∨ (hR h (k + 11) n = 0 ∧ hR h' (k + 11) n = g ∧ ∃ i' : Nat, i ≤ i' ∧ i' < F ∧ hI h0 (g + 6) i' = n ∧ hI h' (k + 12) n = (i' : Int) ∧ ∀ a, i ≤ a → a < i' → hI h0 (g + 6) a ≠ n) ∨ (hR h (k + 11) n = 0 ∧ hR h' (k + 11) n = 0 ∧ ∀ i', i ≤ i' → i' < F → hI h0 (g + 6) i' ≠ n)
  | 0, i, N, h, e1, e2, q, z0 => by
    obtain ⟨N, rfl⟩ : ∃ N1, N = N1 + 1 := ⟨N - 1, by omega⟩
    refine ⟨h, lp_d ?_, q, fun _ _ _ => rfl, fun _ _ _ => rfl, fun n hn => ?_⟩
    · show c89_b76 k g (i : Int) h = _
      have f0 := far 0 (by omega)
      rw [Nat.add_zero] at f0
      unfold c89_b76
      rw [gI_s (by rw [q.2.2.1]; exact Kg.2.2.1), (q.2.2.2.2 g f0).1, hF]
      simp only [bsome]
      rw [if_pos (by omega)]
    · by_cases c : hR h (k + 11) n = 0
      · exact .inr (.inr ⟨c, c, fun i' h1 h2 => by omega⟩)
      · exact .inl ⟨c, rfl, rfl⟩
  | d + 1, i, N, h, e1, e2, q, z0 => by
    obtain ⟨N, rfl⟩ : ∃ N1, N = N1 + 1 := ⟨N - 1, by omega⟩
    have f0 := far 0 (by omega)
    rw [Nat.add_zero] at f0
    have f6 := far 6 (by omega)
    obtain ⟨n0, n1⟩ := nm i (by omega)
    obtain ⟨t, ht⟩ : ∃ t : Nat, hI h0 (g + 6) i = (t : Int) := ⟨(hI h0 (g + 6) i).toNat, by omega⟩
    have gk := Kk.1
    have gg := Kg.1
    have e : c89_b76 k g (i : Int) h = some (.inl (((i + 1 : Nat) : Int), if hR h (k + 11) t = 0 then sI (sR h (k + 11) t g) (k + 12) t (i : Int) else h)) := by
      unfold c89_b76
      rw [gI_s (by rw [q.2.2.1]; exact Kg.2.2.1), (q.2.2.2.2 g f0).1, hF]
      simp only [bsome]
      rw [if_neg (by omega), gR_s (by rw [q.2.2.1]; exact Kk.2.2.1), (q.2.2.2.2 k (by omega)).2, (KD17 Kk).1]
      simp only [bsome]
      rw [gR_s (by rw [q.2.2.1]; exact Kg.2.2.1), (q.2.2.2.2 g f0).2, (KD12 Kg).1]
      simp only [bsome]
      rw [aI_s (by rw [q.2.2.1]; exact (KD12 Kg).2.1) (by omega) (by rw [q.2.2.2.1, (KD12 Kg).2.2]; omega), Int.toNat_natCast, (q.2.2.2.2 (g + 6) f6).1, ht]
      simp only [bsome]
      rw [aR_s (by rw [q.2.2.1]; exact (KD17 Kk).2.1) (by omega) (by rw [q.2.2.2.1, (KD17 Kk).2.2]; omega), Int.toNat_natCast]
      simp only [bsome]
      unfold c89_j122
      by_cases c : hR h (k + 11) t = 0
      · rw [c, hnul_0, if_pos rfl]
        simp only [bsome]
        rw [if_pos trivial]
        rw [wR_s (by rw [q.2.2.1]; exact (KD17 Kk).2.1) (by omega) (by omega) (by rw [q.2.2.2.1, (KD17 Kk).2.2]; omega) (.inr (by rw [q.2.2.1]; exact Kg.2.2.1)), Int.toNat_natCast]
        simp only [bsome]
        rw [gR_s (h := sR h (k + 11) t g) (x := k) (t := 24) (by show hT h k = 24; rw [q.2.2.1]; exact Kk.2.2.1), hR_sR, if_neg (by omega), (q.2.2.2.2 k (by omega)).2, (KD18 Kk).1]
        simp only [bsome]
        rw [gR_s (h := sR h (k + 11) t g) (x := g) (t := 24) (by show hT h g = 24; rw [q.2.2.1]; exact Kg.2.2.1), hR_sR, if_neg (by omega), (q.2.2.2.2 g f0).2, (KD12 Kg).1]
        simp only [bsome]
        rw [aI_s (h := sR h (k + 11) t g) (x := g + 6) (t := 1) (by show hT h (g + 6) = 1; rw [q.2.2.1]; exact (KD12 Kg).2.1) (by omega) (by show (i : Int) < (hL h (g + 6) : Int); rw [q.2.2.2.1, (KD12 Kg).2.2]; omega), Int.toNat_natCast, hI_sR, (q.2.2.2.2 (g + 6) f6).1, ht]
        simp only [bsome]
        rw [wI_s (h := sR h (k + 11) t g) (x := k + 12) (t := 1) (by show hT h (k + 12) = 1; rw [q.2.2.1]; exact (KD18 Kk).2.1) (by omega) (by show (t : Int) < (hL h (k + 12) : Int); rw [q.2.2.2.1, (KD18 Kk).2.2]; omega), Int.toNat_natCast, wadd_n (by omega)]
        rfl
      · rw [hnul_8 (by rcases z0 t (by omega) with z | z; exact absurd z c; exact z), if_neg c]
        simp only [bsome]
        rw [if_neg (by decide), wadd_n (by omega)]
    obtain ⟨h1, hh1⟩ : ∃ h1, h1 = if hR h (k + 11) t = 0 then sI (sR h (k + 11) t g) (k + 12) t (i : Int) else h := ⟨_, rfl⟩
    rw [← hh1] at e
    have r1 : ∀ x j, hR h1 x j = if hR h (k + 11) t = 0 ∧ x = k + 11 ∧ j = t then g else hR h x j := fun x j => by
      rw [hh1]
      by_cases c : hR h (k + 11) t = 0
      · rw [if_pos c, hR_sI, hR_sR]
        by_cases c2 : x = k + 11 ∧ j = t
        · rw [if_pos c2, if_pos ⟨c, c2⟩]
        · rw [if_neg c2, if_neg (fun z => c2 z.2)]
      · rw [if_neg c, if_neg (fun z => c z.1)]
    have i1 : ∀ x j, hI h1 x j = if hR h (k + 11) t = 0 ∧ x = k + 12 ∧ j = t then (i : Int) else hI h x j := fun x j => by
      rw [hh1]
      by_cases c : hR h (k + 11) t = 0
      · rw [if_pos c, hI_sI, hI_sR]
        by_cases c2 : x = k + 12 ∧ j = t
        · rw [if_pos c2, if_pos ⟨c, c2⟩]
        · rw [if_neg c2, if_neg (fun z => c2 z.2)]
      · rw [if_neg c, if_neg (fun z => c z.1)]
    have qq : q5 k h0 h1 := by
      rw [hh1]
      split
      · exact q5_tr q (q5_tr (q5_sR (by omega)) (q5_sI (by omega)))
      · exact q
    obtain ⟨h', a1, a2, a3, a4, a5⟩ := c89_a Kk Kg far hF F8 nm d (i + 1) N h1 (by omega) (by omega) qq (fun n hn => by
      rw [r1]
      split
      · exact .inr (by omega)
      · exact z0 n hn)
    refine ⟨h', ?_, a2, fun x hx j => ?_, fun x hx j => ?_, fun n hn => ?_⟩
    · rw [lp_n (s' := (((i + 1 : Nat) : Int), h1)) e]
      exact a1
    · rw [a3 x hx, i1, if_neg (by omega)]
    · rw [a4 x hx, r1, if_neg (by omega)]
    · have x1 := r1 (k + 11) n
      have x2 := i1 (k + 12) n
      by_cases c : n = t
      · subst c
        by_cases c0 : hR h (k + 11) n = 0
        · rw [if_pos ⟨c0, rfl, rfl⟩] at x1 x2
          rcases a5 n hn with ⟨b1, b2, b3⟩ | ⟨b1, -⟩ | ⟨b1, -⟩
          · exact .inr (.inl ⟨c0, by rw [b2, x1], i, Nat.le_refl _, by omega, ht, by rw [b3, x2], fun a h1 h2 => by omega⟩)
          · omega
          · omega
        · rw [if_neg (fun z => c0 z.1)] at x1 x2
          rcases a5 n hn with ⟨b1, b2, b3⟩ | ⟨b1, -⟩ | ⟨b1, -⟩
          · exact .inl ⟨c0, by rw [b2, x1], by rw [b3, x2]⟩
          · rw [x1] at b1; exact absurd b1 c0
          · rw [x1] at b1; exact absurd b1 c0
      · rw [if_neg (fun z => c z.2.2)] at x1 x2
        rcases a5 n hn with ⟨b1, b2, b3⟩ | ⟨b1, b2, i', b3, b4, b5, b6, b7⟩ | ⟨b1, b2, b3⟩
        · rw [x1] at b1
          exact .inl ⟨b1, by rw [b2, x1], by rw [b3, x2]⟩
        · rw [x1] at b1
          refine .inr (.inl ⟨b1, b2, i', by omega, b4, b5, b6, fun a h1 h2 => ?_⟩)
          by_cases z : a = i
          · rw [z, ht]; omega
          · exact b7 a (by omega) h2
        · rw [x1] at b1
          refine .inr (.inr ⟨b1, b2, fun i' h1 h2 => ?_⟩)
          by_cases z : i' = i
          · rw [z, ht]; omega
          · exact b3 i' (by omega) h2
end STL
