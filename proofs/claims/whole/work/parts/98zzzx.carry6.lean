/-! a patch is made: all the creatures are carried (3) -/
section CA6
variable {hZ tZ h0 h1 t1 h t h' t' : hS} {K : Nat → Int → Prop} {p P m0 m q pt S A qq N0 tx pk c i : Nat} {r0 r : Int → Nat} {G f old k u : Int} {us Lc : List Nat}
/-- behind the last creature the class goes on alone -/
theorem CY_r (B : CAB hZ tZ h0 K p P m0 m q r0 r G pt S A qq N0 tx pk us Lc f) : ∀ (D i N : Nat) (h : hS), i + D = 40 → D < N → q ≤ i → CYq hZ tZ P m q i h t → ∃ h', lp (fun s => c153_b2 pt P s.1 s.2) N ((i : Int), h) = some (.inl h') ∧ CYq hZ tZ P m q 40 h' t
  | 0, i, N, h, hi, hN, hq, C => by
    obtain ⟨N, rfl⟩ : ∃ n, N = n + 1 := ⟨N - 1, by omega⟩
    obtain rfl : i = 40 := by omega
    refine ⟨h, lp_d ?_, C⟩
    show c153_b2 pt P ((40 : Nat) : Int) h = _
    unfold c153_b2
    rw [if_pos (by omega)]
  | D + 1, i, N, h, hi, hN, hq, C => by
    obtain ⟨N, rfl⟩ : ∃ n, N = n + 1 := ⟨N - 1, by omega⟩
    obtain ⟨RT0, -, -, -, -, -, -, -, -, BL, -⟩ := id B
    obtain ⟨SH0, -, -, CR0, -⟩ := RT0
    obtain ⟨⟨cH, cT⟩, e54, D', E⟩ := id C
    have i40 : i < 40 := by omega
    obtain ⟨h4, a1, a2, a3⟩ := CY_b (c := i) B i40 cH
    obtain ⟨b1, b2, b3, b4, b5, b6⟩ := id a2
    have lz : hI hZ (215 + 4 * i) 1 = 0 := (CR0.2.2.2 i i40).2.2.1 hq
    have lvF : hI h4 (53 + 4 * i) 1 = 0 := by rw [b5, cH.2.2 _ _ (by omega)]; exact lz
    have C' : CYq hZ tZ P m q (i + 1) h4 t := by
      refine ⟨⟨a3, cT⟩, e54, fun a ha => ?_, fun a n ha a40 hn => E a n (by omega) a40 hn⟩
      by_cases z : a = i
      · subst z
        refine ⟨fun _ => ⟨lvF, fun w => by omega⟩, fun w => by omega, fun n hn => ?_⟩
        have w2 := (b6 n hn).2.1
        rw [show 53 + 4 * a + 2 = 55 + 4 * a by omega, show 215 + 4 * a + 2 = 217 + 4 * a by omega] at w2
        rw [w2, cH.2.2 _ _ (by omega)]
        exact BL a n i40 hn
      · exact CCq_s (D' a (by omega)) (fun x j x1 x2 => ⟨b3 x j (by omega), b2 x j (by omega)⟩) (fun _ _ _ _ _ => rfl) rfl
    obtain ⟨h', y1, y2⟩ := CY_r B D (i + 1) N h4 (by omega) (by omega) (by omega) C'
    refine ⟨h', (lp_n (s' := (((i + 1 : Nat) : Int), h4)) ?_).trans y1, y2⟩
    refine c153_st (lv := 0) i40 (by rw [aRs_s (by omega) (by omega), Int.toNat_natCast, cH.2.1 19 i (by omega), (SH0.1 i i40).1]) (by rw [aRs_s (by omega) (by omega), Int.toNat_natCast, cH.2.1 49 i (by omega), (SH0.2 i i40).1]) (by rw [cH.1.2.1]; exact (SH0.2 i i40).2.1) a1 (by rw [a3.1.2.1]; exact (SH0.1 i i40).2.1) (by rw [a3.2.2 _ _ (by omega)]; exact lz) ?_
    rw [if_pos rfl]
    unfold c153_j106
    rw [wadd_n (by omega)]
theorem CY_l (B : CAB hZ tZ h0 K p P m0 m q r0 r G pt S A qq N0 tx pk us Lc f) (H0 : ∀ y ∈ us, y ≠ 0) : ∀ (D i N : Nat) (h t : hS), i + D = q → D + 40 < N → CYq hZ tZ P m q i h t → (∃ h' t', lp (fun s => c153_b2 pt P s.1 s.2) N ((i : Int), h) = some (.inl h') ∧ lp (fun s => c283_b29 (pk : Int) s.1 s.2) N ((i : Int), t) = some (.inl t') ∧ CYq hZ tZ P m q 40 h' t') ∨ (∃ h' t', lp (fun s => c153_b2 pt P s.1 s.2) N ((i : Int), h) = some (.inr (0, h')) ∧ lp (fun s => c283_b29 (pk : Int) s.1 s.2) N ((i : Int), t) = some (.inr (0, t')) ∧ RFq hZ tZ h' t')
  | 0, i, N, h, t, hi, hN, C => by
    obtain ⟨RT0, -⟩ := id B
    obtain ⟨-, -, -, CR0, -⟩ := RT0
    have q40 := CR0.2.2.1
    obtain ⟨h', y1, y2⟩ := CY_r B (40 - i) i N h (by omega) (by omega) (by omega) C
    obtain ⟨N, rfl⟩ : ∃ n, N = n + 1 := ⟨N - 1, by omega⟩
    refine .inl ⟨h', t, y1, lp_d ?_, y2⟩
    show c283_b29 (pk : Int) (i : Int) t = _
    unfold c283_b29
    rw [C.1.2.2 395 33 (by omega), CR0.2.1, if_pos (by omega)]
  | D + 1, i, N, h, t, hi, hN, C => by
    obtain ⟨N, rfl⟩ : ∃ n, N = n + 1 := ⟨N - 1, by omega⟩
    rcases CY_s B H0 (show i < q by omega) C with ⟨g, s, a1, a2, a3⟩ | ⟨g, s, a1, a2, a3⟩
    · rcases CY_l B H0 D (i + 1) N g s (by omega) (by omega) a3 with ⟨g', s', b1, b2, b3⟩ | ⟨g', s', b1, b2, b3⟩
      · refine .inl ⟨g', s', ?_, ?_, b3⟩
        · refine (lp_n (s' := (((i + 1 : Nat) : Int), g)) ?_).trans b1
          exact a1
        · refine (lp_n (s' := (((i + 1 : Nat) : Int), s)) ?_).trans b2
          exact a2
      · refine .inr ⟨g', s', ?_, ?_, b3⟩
        · refine (lp_n (s' := (((i + 1 : Nat) : Int), g)) ?_).trans b1
          exact a1
        · refine (lp_n (s' := (((i + 1 : Nat) : Int), s)) ?_).trans b2
          exact a2
    · refine .inr ⟨g, s, ?_, ?_, a3⟩
      · refine lp_d ?_
        exact a1
      · refine lp_d ?_
        exact a2
/-- no value has come yet -/
theorem c283_2 : ∀ (D i N : Nat) (t : hS), i + D = 1600 → D < N → (∀ n, n < i → hI t 442 n = 0) → ∃ t', lp (fun s => c283_b2 s.1 s.2) N ((i : Int), t) = some t' ∧ fp (fun x _ => x = 442) t t' ∧ ∀ n, n < 1600 → hI t' 442 n = 0
  | 0, i, N, t, hi, hN, H => by
    obtain ⟨N, rfl⟩ : ∃ n, N = n + 1 := ⟨N - 1, by omega⟩
    obtain rfl : i = 1600 := by omega
    refine ⟨t, lp_d ?_, fp_rf, H⟩
    show c283_b2 ((1600 : Nat) : Int) t = _
    unfold c283_b2
    rw [if_pos (by omega)]
  | D + 1, i, N, t, hi, hN, H => by
    obtain ⟨N, rfl⟩ : ∃ n, N = n + 1 := ⟨N - 1, by omega⟩
    obtain ⟨t1, et⟩ : ∃ t1, t1 = sI t 442 i (wbol 0) := ⟨_, rfl⟩
    obtain ⟨t', a1, a2, a3⟩ := c283_2 D (i + 1) N t1 (by omega) (by omega) (fun n hn => by
      rw [et, hI_sI]
      by_cases c : n = i
      · rw [if_pos ⟨rfl, c⟩]
        rfl
      · rw [if_neg (fun z => c z.2)]
        exact H n (by omega))
    refine ⟨t', (lp_n (s' := (((i + 1 : Nat) : Int), t1)) ?_).trans a1, fp_tr (by rw [et]; exact fp_sI rfl) a2, a3⟩
    show c283_b2 (i : Int) t = _
    unfold c283_b2
    rw [if_neg (by omega)]
    refine bnd ((wIs_s (by omega) (by omega)).trans (congrArg some (show sI t 442 ((i : Int)).toNat (wbol 0) = t1 by rw [Int.toNat_natCast]; exact et.symm))) ?_
    rw [wadd_n (by omega)]
/-- the creatures are carried by both, or both stop -/
theorem CY_e (B : CAB hZ tZ h0 K p P m0 m q r0 r G pt S A qq N0 tx pk us Lc f) (H0 : ∀ y ∈ us, y ≠ 0) : (∃ h' t', c153 pt P hZ = some (1, h') ∧ (∃ ta, lp (fun s => c283_b2 s.1 s.2) hF0 (0, tZ) = some ta ∧ lp (fun s => c283_b29 (pk : Int) s.1 s.2) hF0 (0, sI ta 395 39 0) = some (.inl t')) ∧ CYq hZ tZ P m q 40 h' t') ∨ (∃ h' t', c153 pt P hZ = some (0, h') ∧ (∃ ta, lp (fun s => c283_b2 s.1 s.2) hF0 (0, tZ) = some ta ∧ lp (fun s => c283_b29 (pk : Int) s.1 s.2) hF0 (0, sI ta 395 39 0) = some (.inr (0, t'))) ∧ RFq hZ tZ h' t') := by
  obtain ⟨RT0, -, -, -, -, -, e54, -⟩ := id B
  obtain ⟨-, -, -, CR0, -⟩ := RT0
  have q40 := CR0.2.2.1
  obtain ⟨ta, a1, a2, a3⟩ := c283_2 1600 0 hF0 tZ (by omega) (hF0_lt (by omega)) (fun n hn => by omega)
  have qa : cyT tZ ta := ⟨a2.1, fun x j z => a2.2 x j (by omega)⟩
  have qb : cyT ta (sI ta 395 39 0) := cyT_sI (by omega)
  have C : CYq hZ tZ P m q 0 hZ (sI ta 395 39 0) := ⟨⟨cyH_rf, fp_tr qa qb⟩, by rw [hI_sI, if_neg (by omega), a2.2 395 54 (by omega)]; exact e54, fun c hc => by omega, fun c n _ c40 hn => by rw [hI_sI, if_neg (by omega)]; exact a3 _ (by omega)⟩
  rcases CY_l B H0 q 0 hF0 hZ _ (by omega) (hF0_lt (by omega)) C with ⟨g, s, b1, b2, b3⟩ | ⟨g, s, b1, b2, b3⟩
  · refine .inl ⟨g, s, ?_, ⟨ta, a1, b2⟩, b3⟩
    unfold c153
    refine bnd b1 ?_
    rw [xs_il]
  · refine .inr ⟨g, s, ?_, ⟨ta, a1, b2⟩, b3⟩
    unfold c153
    refine bnd b1 ?_
    rw [xs_ir]
end CA6
