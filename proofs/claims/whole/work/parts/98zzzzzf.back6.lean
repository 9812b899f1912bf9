/-! call 27: back: both loops; what the statics leave alone -/
/-- all the creatures are back -/
def BEq (hB tB : hS) (p q : Nat) (h t : hS) : Prop := (bkH hB h ∧ bkT tB t) ∧ (∀ c, c < 40 → BCq hB tB p c h t) ∧ DBq (gnBq tB) tB t q
/-- the statics of the former pond have been put back -/
def svH (p m0 : Nat) (h h' : hS) : Prop := (hJ h' = hJ h ∧ hT h' = hT h ∧ hL h' = hL h ∧ hN h' = hN h ∧ hM h' = hM h) ∧ (∀ x j, ¬ (x = 48 ∧ j = 7) → hR h' x j = hR h x j) ∧ ∀ x j, (∀ v : Int, 0 ≤ v → v < m0 → x ≠ kd h p v + 5) → hI h' x j = hI h x j
def svT (t t' : hS) : Prop := fp (fun x j => (x = 395 ∧ j = 29) ∨ (x = 400 ∧ 769 ≤ j ∧ j < 1538)) t t'
section BK6
variable {h hB h0 g0 h' h1 h9 t tB tt t' t1 t9 : hS} {K : Nat → Int → Prop} {p P m m0 q len c a i κ k pt : Nat} {r r0 : Int → Nat} {old u s G : Int} {R0 R1 : Nat → Nat}
/-- the loops side by side, up to the last creature that was made -/
theorem BL_l (B : BKB hB tB K p P m m0 q r r0 G) : ∀ (D i M : Nat) (h t : hS), i + D = q → D < M → BLq hB tB p i h t → ∃ h' t', (∀ N, lp (fun s => c179_b12 P p s.1 s.2) (N + D) ((i : Int), h) = lp (fun s => c179_b12 P p s.1 s.2) N ((q : Int), h')) ∧ lp (fun s => c299_b126 s.1 s.2) M ((i : Int), t) = some t' ∧ BLq hB tB p q h' t'
  | 0, i, M, h, t, hi, hM', C => by
    obtain ⟨M, rfl⟩ : ∃ n, M = n + 1 := ⟨M - 1, by omega⟩
    obtain rfl : i = q := by omega
    refine ⟨h, t, fun N => rfl, lp_d ?_, C⟩
    show c299_b126 (i : Int) t = _
    unfold c299_b126
    rw [C.1.2.2 395 33 (by omega), B.2.2.1.2.1, if_pos (by omega)]
  | D + 1, i, M, h, t, hi, hM', C => by
    obtain ⟨M, rfl⟩ : ∃ n, M = n + 1 := ⟨M - 1, by omega⟩
    obtain ⟨h1, t1, a1, a2, a3⟩ := BL_s B (show i < q by omega) C
    obtain ⟨h', t', b1, b2, b3⟩ := BL_l B D (i + 1) M h1 t1 (by omega) (by omega) a3
    exact ⟨h', t', fun N => (lp_n (show (fun s : Int × hS => c179_b12 P p s.1 s.2) ((i : Int), h) = _ from a1)).trans (b1 N), (lp_n (show (fun s : Int × hS => c299_b126 s.1 s.2) ((i : Int), t) = _ from a2)).trans b2, b3⟩
/-- the class goes on alone -/
theorem BL_t (B : BKB hB tB K p P m m0 q r r0 G) : ∀ (D i N : Nat) (h : hS), i + D = 40 → q ≤ i → D < N → bkH hB h → (∀ c, c < i → BCq hB tB p c h t) → (∀ c, i ≤ c → c < 40 → ∀ x j, 215 + 4 * c ≤ x → x ≤ 218 + 4 * c → hI h x j = hI hB x j ∧ hR h x j = hR hB x j) → ∃ h', lp (fun s => c179_b12 P p s.1 s.2) N ((i : Int), h) = some h' ∧ bkH hB h' ∧ ∀ c, c < 40 → BCq hB tB p c h' t
  | 0, i, N, h, hi, hq, hN', cH, E, Fr => by
    obtain ⟨N, rfl⟩ : ∃ n, N = n + 1 := ⟨N - 1, by omega⟩
    obtain rfl : i = 40 := by omega
    refine ⟨h, lp_d ?_, cH, E⟩
    show c179_b12 P p ((40 : Nat) : Int) h = _
    unfold c179_b12
    rw [if_pos (by omega)]
  | D + 1, i, N, h, hi, hq, hN', cH, E, Fr => by
    obtain ⟨N, rfl⟩ : ∃ n, N = n + 1 := ⟨N - 1, by omega⟩
    have i40 : i < 40 := by omega
    have f1 := Fr i (Nat.le_refl _) i40
    have z := (B.2.2.1.2.2.2 i i40).2.2.1 hq
    obtain ⟨h1, e1⟩ : ∃ h1, h1 = sI h (215 + 4 * i) 1 0 := ⟨_, rfl⟩
    have b1 : bkH h h1 := by
      rw [e1]
      exact ⟨⟨rfl, rfl, rfl, rfl, rfl⟩, fun x j _ => hR_sI, fun x j z => by rw [hI_sI, if_neg (by omega)]⟩
    have o1 : ∀ x j, ¬ (x = 215 + 4 * i ∧ j = 1) → hI h1 x j = hI h x j := fun x j hx => by rw [e1, hI_sI, if_neg hx]
    have r1 : ∀ x j, hR h1 x j = hR h x j := fun x j => by rw [e1, hR_sI]
    obtain ⟨h', a1, a2, a3⟩ := BL_t B D (i + 1) N h1 (by omega) (by omega) (by omega) (bkH_tr cH b1) (fun c hc => by
      by_cases w : c = i
      · subst w
        refine ⟨fun _ => by rw [e1, hI_sI, if_pos ⟨rfl, rfl⟩], fun w => by omega, fun n hn => ?_⟩
        rw [o1 _ _ (by omega), o1 _ _ (by omega)]
        exact ⟨(f1 _ n (by omega) (by omega)).1, (f1 _ n (by omega) (by omega)).1⟩
      · exact BC_s (E c (by omega)) (fun x j x1 x2 => ⟨o1 x j (by omega), r1 x j⟩) rfl (fun _ _ => rfl)) (fun c hc c40 x j x1 x2 => by
      rw [o1 x j (by omega), r1]
      exact Fr c (by omega) c40 x j x1 x2)
    refine ⟨h', (lp_n (s' := (((i + 1 : Nat) : Int), h1)) ?_).trans a1, a2, a3⟩
    show c179_b12 P p (i : Int) h = _
    refine c179_st B cH f1 i40 ?_
    rw [if_pos z, ← e1]
    unfold c179_j106
    rw [wadd_n (by omega)]
theorem BL_e (B : BKB hB tB K p P m m0 q r r0 G) : ∃ h' t', lp (fun s => c179_b12 P p s.1 s.2) hF0 (0, hB) = some h' ∧ lp (fun s => c299_b126 s.1 s.2) hF0 (0, tB) = some t' ∧ BEq hB tB p q h' t' := by
  have q40 := B.2.2.1.2.2.1
  obtain ⟨h1, t1, a1, a2, a3⟩ := BL_l B q 0 hF0 hB tB (by omega) (hF0_lt (by omega)) ⟨⟨bkH_rf, fp_rf⟩, fun c hc => by omega, fun c _ _ => ⟨fun _ _ _ _ => ⟨rfl, rfl⟩, rfl, fun _ _ => rfl⟩, ⟨fun c => ⟨fun w => by omega, fun _ => rfl⟩, fun l => ⟨fun w => by obtain ⟨-, -, c, w, -⟩ := w; omega, fun _ => ⟨rfl, rfl⟩⟩⟩⟩
  obtain ⟨⟨cH, cT⟩, E, Fr, DD⟩ := a3
  obtain ⟨h', b1, b2, b3⟩ := BL_t (t := t1) B (40 - q) q (hF0 - q) h1 (by omega) (Nat.le_refl _) (by have := hF0_lt (m := 1000) (by omega); omega) cH E (fun c hc c40 => (Fr c hc c40).1)
  refine ⟨h', t1, ?_, a2, ⟨b2, cT⟩, b3, DD⟩
  have e : hF0 = (hF0 - q) + q := by have := hF0_lt (m := 1000) (by omega); omega
  rw [e]
  exact (a1 (hF0 - q)).trans b1
end BK6
section BK6b
variable {h h' t t' : hS} {K : Nat → Int → Prop} {p m m0 : Nat} {r : Int → Nat} {w w' a a' b b' j : Int}
theorem TB_x (W : WF t w m r) (T : TB h t p w m) (hk : ∀ u, kd h' p u = kd h p u) (e : ∀ j : Int, 0 ≤ j → j < m → ∀ o, 8 ≤ o → o ≤ 12 → (∀ i, hI h' (kd h p j + o) i = hI h (kd h p j + o) i) ∧ ∀ i, hR h' (kd h p j + o) i = hR h (kd h p j + o) i) (ax : agx w w' m t t') : TB h' t' p w' m := fun j j0 j1 n hn => by
  obtain ⟨y1, ⟨y2, y3⟩, y4, y5⟩ := T j j0 j1 n hn
  have bj : j = -1 ∨ (0 ≤ j ∧ j < m) := .inr ⟨j0, j1⟩
  have ee := fun o (h8 : 8 ≤ o) (ho : o ≤ 12) => e j j0 j1 o h8 ho
  rw [hk, hk, hk, (ee 8 (by omega) (by omega)).1, (ee 9 (by omega) (by omega)).2, (ee 10 (by omega) (by omega)).1, (ee 11 (by omega) (by omega)).2, (ee 12 (by omega) (by omega)).1, fAt_x ax W bj, sAt_x ax W bj, aAt_x ax W bj]
  refine ⟨y1, ⟨y2, fun z => ?_⟩, y4, fun z => ?_⟩
  · rw [y3 z]
    rcases sAt_b (n := (n : Int)) W bj with v | ⟨⟨v, v'⟩, -⟩
    · exact absurd v z
    · exact (sIx_x ax W v v').symm
  · rw [y5 z]
    rcases aAt_b (n := (n : Int)) W bj with v | ⟨⟨v, v'⟩, -⟩
    · exact absurd v z
    · exact (aIx_x ax W v v').symm
theorem KOg_x (W : WF t a m0 r) (O : KOg t b a m0 j) (hb : 0 ≤ j) (h5 : wg t b j 5 ≤ 8) (m12 : m0 ≤ 12) (eb : ∀ g : Int, 0 ≤ g → g < 30 → wg t' b' j g = wg t b j g) (ax : agx a a' m0 t t') : KOg t' b' a' m0 j := by
  obtain ⟨o1, o2, o3⟩ := O
  unfold KOg
  rw [eb 4 (by omega) (by omega), eb 0 (by omega) (by omega), eb 5 (by omega) (by omega)]
  have ix4 : ix (fun k : Nat => wg t' a' (k : Int) 0) (wg t b j 0) m0 = wg t b j 4 := by
    rw [o1]
    exact ix_congr (fun u hu => ax u 0 (by omega) (by omega) (by omega) (by omega) (by omega))
  refine ⟨ix4.symm, fun i hi => ?_, fun i k hi hk => ?_⟩
  · rw [eb _ (by omega) (by omega)]
    rcases o2 i hi with z | ⟨z1, z2⟩
    · exact .inl z
    · refine .inr ⟨z1, ?_⟩
      have b4 : 0 ≤ wg t b j 4 ∧ wg t b j 4 < m0 := by
        rcases ix_b (fun k : Nat => wg t a (k : Int) 0) (wg t b j 0) m0 with y | ⟨y, y1, y2, -⟩
        · exact absurd (o1.trans y) z1
        · rw [o1, y1]
          exact ⟨by omega, by omega⟩
      rw [fIx_x ax W b4.1 b4.2]
      exact z2
  · rw [eb _ (by omega) (by omega), eb _ (by omega) (by omega)]
    exact o3 i k hi hk
end BK6b
