/-! call 18: beat, the loop over the long acts -/
/-- is one of the first i that runs held -/
def fbI (t : hS) : Nat → Int
  | 0 => 0
  | i + 1 => if hI t 423 i ≠ 0 ∧ hI t 425 i ≠ 0 then 1 else fbI t i
def W2q (K : Nat → Int → Prop) (p m q : Nat) (r : Int → Nat) (κ : Nat) (h0 t0 h t : hS) : Prop := RUNp K p m q r κ h t ∧ SL h ∧ LA h t ∧ LRs h t K κ ∧ BTc p m h0 h ∧ BTr t0 t
section BTZ
variable {h h' h0 h1 t t' t0 t1 t2 t4 : hS} {K : Nat → Int → Prop} {p m q κ l x c i : Nat} {r : Int → Nat} {n v out how w l1 : Int}
theorem fbI_cg : ∀ (i : Nat), (∀ l, l < i → hI t' 423 l = hI t 423 l ∧ hI t' 425 l = hI t 425 l) → fbI t' i = fbI t i
  | 0, _ => rfl
  | i + 1, e => by
    obtain ⟨a, b⟩ := e i (by omega)
    show (if hI t' 423 i ≠ 0 ∧ hI t' 425 i ≠ 0 then (1 : Int) else fbI t' i) = (if hI t 423 i ≠ 0 ∧ hI t 425 i ≠ 0 then 1 else fbI t i)
    rw [a, b, fbI_cg i (fun l hl => e l (by omega))]
theorem fbI_b : ∀ (i : Nat), fbI t i = 0 ∨ fbI t i = 1
  | 0 => .inl rfl
  | i + 1 => by
    show (if hI t 423 i ≠ 0 ∧ hI t 425 i ≠ 0 then (1 : Int) else fbI t i) = 0 ∨ (if hI t 423 i ≠ 0 ∧ hI t 425 i ≠ 0 then (1 : Int) else fbI t i) = 1
    split
    · exact .inr rfl
    · exact fbI_b i
theorem wor_0 (e : l1 = 0 ∨ l1 = 1) : wor l1 0 = l1 := by
  rcases e with e | e <;> subst e <;> rfl
theorem wor_1 (e : l1 = 0 ∨ l1 = 1) : wor l1 1 = 1 := by
  rcases e with e | e <;> subst e <;> rfl
theorem j137_e (Ss : SL h) (La : LA h t) (i10 : i < 10) : c136_j137 (fbI t i) (i : Int) (375 + 2 * i) h = some (.inl (fbI t (i + 1), ((i + 1 : Nat) : Int), h)) := by
  obtain ⟨s1, s2, s3, s4⟩ := Ss i i10
  obtain ⟨x1, x2, x3, x4, x5, x6⟩ := La i i10
  have wn : wadd (i : Int) 1 = ((i + 1 : Nat) : Int) := wadd_n (by omega)
  have no : ¬ (hI t 423 i ≠ 0 ∧ hI t 425 i ≠ 0) → c136_j156 (fbI t i) (i : Int) h = some (.inl (fbI t (i + 1), ((i + 1 : Nat) : Int), h)) := fun z => by
    unfold c136_j156 c136_j157
    rw [wor_0 (fbI_b i), wn]
    show _ = some (Sum.inl ((if hI t 423 i ≠ 0 ∧ hI t 425 i ≠ 0 then (1 : Int) else fbI t i), _, h))
    rw [if_neg z]
  unfold c136_j137
  refine bnd (gI_s s2) ?_
  rw [x3]
  by_cases z : hI t 423 i = 0
  · rw [if_pos z]
    exact no (fun w => w.1 z)
  · rw [if_neg z]
    obtain ⟨⟨y1, y1'⟩, -⟩ := x6 (x5 (by omega))
    refine bnd (gI_s s2) ?_
    rw [y1]
    by_cases z2 : hI t 425 i = 0
    · rw [if_pos z2]
      exact no (fun w => w.2 z2)
    · rw [if_neg z2]
      unfold c136_j157
      rw [wor_1 (fbI_b i), wn]
      show _ = some (Sum.inl ((if hI t 423 i ≠ 0 ∧ hI t 425 i ≠ 0 then (1 : Int) else fbI t i), _, h))
      rw [if_pos ⟨z, z2⟩]
theorem b95_l : ∀ (D i N : Nat) (h t : hS), i + D = 10 → D < N → W2q K p m q r κ h0 t0 h t → ∃ h' t', lp (fun s => c136_b95 s.1 s.2.1 s.2.2) N (fbI t i, (i : Int), h) = some (fbI t' 10, h') ∧ lp (fun s => c271_b135 s.1 s.2) N ((i : Int), t) = some t' ∧ W2q K p m q r κ h0 t0 h' t' ∧ (∀ j, hI h' 20 j = hI h 20 j) ∧ ∀ j, hI t' 418 j = hI t 418 j
  | 0, i, N, h, t, hi, hN, W => by
    obtain ⟨N, rfl⟩ : ∃ n, N = n + 1 := ⟨N - 1, by omega⟩
    obtain rfl : i = 10 := by omega
    refine ⟨h, t, ?_, ?_, W, fun _ => rfl, fun _ => rfl⟩
    · refine lp_d ?_
      show c136_b95 (fbI t 10) ((10 : Nat) : Int) h = _
      unfold c136_b95
      rw [if_pos (by omega)]
    · refine lp_d ?_
      show c271_b135 ((10 : Nat) : Int) t = _
      unfold c271_b135
      rw [if_pos (by omega)]
  | D + 1, i, N, h, t, hi, hN, W => by
    obtain ⟨N, rfl⟩ : ∃ n, N = n + 1 := ⟨N - 1, by omega⟩
    obtain ⟨U, Ss, La, LR, B, B'⟩ := id W
    have i10 : i < 10 := by omega
    obtain ⟨s1, s2, s3, s4⟩ := Ss i i10
    obtain ⟨x1, x2, x3, x4, x5, x6⟩ := La i i10
    have wn : wadd (i : Int) 1 = ((i + 1 : Nat) : Int) := wadd_n (by omega)
    have e21 : aRs h 21 10 (i : Int) = some (375 + 2 * i) := by rw [aRs_s (by omega) (by omega), Int.toNat_natCast, s1]
    have e423 : aIs t 423 10 (i : Int) = some (hI t 423 i) := by rw [aIs_s (by omega) (by omega), Int.toNat_natCast]
    by_cases z : hI t 423 i = 0
    · obtain ⟨h', t', g1, g2, g3⟩ := b95_l D (i + 1) N h t (by omega) (by omega) W
      refine ⟨h', t', ?_, ?_, g3⟩
      · refine (lp_n (s' := (fbI t (i + 1), ((i + 1 : Nat) : Int), h)) ?_).trans g1
        show c136_b95 (fbI t i) (i : Int) h = _
        unfold c136_b95
        rw [if_neg (by omega)]
        refine bnd e21 ?_
        refine bnd (gI_s s2) ?_
        rw [x3, if_pos z]
        exact j137_e Ss La i10
      · refine (lp_n (s' := (((i + 1 : Nat) : Int), t)) ?_).trans g2
        show c271_b135 (i : Int) t = _
        unfold c271_b135 c271_j155
        rw [if_neg (by omega)]
        refine bnd e423 ?_
        rw [if_pos z, wn]
    · obtain ⟨out, h1, h2, t2, a1, a2, a3, U2, S2, L2, R2, B2, B2', o2, T20, q20, q418⟩ := LSTEP U Ss La LR i10 (by omega)
      have W' : W2q K p m q r κ h0 t0 h2 t2 := ⟨U2, S2, L2, R2, BTc_tr U.1.2.2.2.2.1 B B2, BTr_tr B' B2'⟩
      obtain ⟨h', t', g1, g2, g3⟩ := b95_l D (i + 1) N h2 t2 (by omega) (by omega) W'
      have ef : fbI t2 i = fbI t i := fbI_cg i (fun l hl => ⟨o2 l (by omega) (by omega) 423 (by omega) (by omega), o2 l (by omega) (by omega) 425 (by omega) (by omega)⟩)
      refine ⟨h', t', ?_, ?_, g3.1, fun j => (g3.2.1 j).trans (q20 j), fun j => (g3.2.2 j).trans (q418 j)⟩
      · refine (lp_n (s' := (fbI t2 (i + 1), ((i + 1 : Nat) : Int), h2)) ?_).trans g1
        show c136_b95 (fbI t i) (i : Int) h = _
        unfold c136_b95
        rw [if_neg (by omega)]
        refine bnd e21 ?_
        refine bnd (gI_s s2) ?_
        rw [x3, if_neg z]
        refine bnd (gR_s s2) ?_
        rw [s3]
        refine bnd a1 ?_
        refine bnd (kT_s T20) ?_
        refine bnd a2 ?_
        rw [← ef]
        exact j137_e S2 L2 i10
      · refine (lp_n (s' := (((i + 1 : Nat) : Int), t2)) ?_).trans g2
        show c271_b135 (i : Int) t = _
        unfold c271_b135 c271_j155
        rw [if_neg (by omega)]
        refine bnd e423 ?_
        rw [if_neg z]
        refine bnd a3 ?_
        rw [wn]
theorem b13_l : ∀ (D i N : Nat), i + D = 10 → D < N → lp (fun s => c273_b13 t s.1 s.2) N (fbI t i, (i : Int)) = some (fbI t 10)
  | 0, i, N, hi, hN => by
    obtain ⟨N, rfl⟩ : ∃ n, N = n + 1 := ⟨N - 1, by omega⟩
    obtain rfl : i = 10 := by omega
    refine lp_d ?_
    show c273_b13 t (fbI t 10) ((10 : Nat) : Int) = _
    unfold c273_b13
    rw [if_pos (by omega)]
  | D + 1, i, N, hi, hN => by
    obtain ⟨N, rfl⟩ : ∃ n, N = n + 1 := ⟨N - 1, by omega⟩
    refine (lp_n (s' := (fbI t (i + 1), ((i + 1 : Nat) : Int))) ?_).trans (b13_l D (i + 1) N (by omega) (by omega))
    have wn : wadd (i : Int) 1 = ((i + 1 : Nat) : Int) := wadd_n (by omega)
    show c273_b13 t (fbI t i) (i : Int) = some (Sum.inl ((if hI t 423 i ≠ 0 ∧ hI t 425 i ≠ 0 then (1 : Int) else fbI t i), ((i + 1 : Nat) : Int)))
    unfold c273_b13 c273_j41 c273_j45 c273_j46
    rw [if_neg (by omega), wn]
    by_cases z : fbI t i = 0
    · rw [if_pos z, z, aIs_s (by omega) (by omega), Int.toNat_natCast]
      refine bnd rfl ?_
      by_cases z1 : hI t 423 i = 0
      · rw [if_pos z1, if_neg (fun w => w.1 z1)]
      · rw [if_neg z1, aIs_s (by omega) (by omega), Int.toNat_natCast]
        refine bnd rfl ?_
        by_cases z2 : hI t 425 i = 0
        · rw [if_pos z2, if_neg (fun w => w.2 z2)]
        · rw [if_neg z2, if_pos ⟨z1, z2⟩]
    · rw [if_neg z]
      rcases fbI_b (t := t) i with z1 | z1
      · exact absurd z1 z
      · rw [z1]
        split <;> rfl
end BTZ
