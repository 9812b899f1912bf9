/-! a patch is made: one creature's fields are carried -/
section CA2
variable {hZ tZ h0 h1 t1 h t h' t' : hS} {K : Nat → Int → Prop} {p P m0 m q pt S A qq N0 tx pk c : Nat} {r0 r : Int → Nat} {G f old k u : Int} {us Lc : List Nat} {pr : Nat → Prop}
theorem wadd_m1 {i : Nat} (hi : i < 1000) : wadd (i : Int) (-1) = (i : Int) - 1 := (wadd_e (by omega) (by omega)).trans (by omega)
theorem wadd_m2 {i : Nat} (hi : i < 1000) : wadd ((i + 1 : Nat) : Int) (-1) = (i : Int) := (wadd_e (by omega) (by omega)).trans (by omega)
theorem FIq_im {pr pr' : Nat → Prop} (F : FIq hZ tZ h1 t1 m old k c pr h t) (e : ∀ n, n < 40 → (pr n ↔ pr' n)) : FIq hZ tZ h1 t1 m old k c pr' h t := by
  obtain ⟨a, b, c', d, g⟩ := F
  refine ⟨a, b, c', fun n hn => ⟨fun z => (d n hn).1 ((e n hn).2 z), fun z => (d n hn).2 (fun y => z ((e n hn).1 y))⟩, fun s hs => ⟨fun z => ?_, fun z => ?_⟩⟩
  · obtain ⟨n, n1, n2, n3⟩ := (g s hs).1 z
    exact ⟨n, n1, (e n n1).1 n2, n3⟩
  · obtain ⟨n, n1, n2, n3⟩ := z
    exact (g s hs).2 ⟨n, n1, (e n n1).2 n2, n3⟩
/-- both stop, alike -/
def RFq (hZ tZ h' t' : hS) : Prop := cyL hZ h' ∧ cyM tZ t' ∧ hI t' 395 54 = 0 ∧ hI h' 48 10 = hI t' 395 82 ∧ hI h' 48 11 = hI t' 395 83 ∧ hI h' 48 12 = hI t' 395 84
/-- the fields of one kind of the chain -/
theorem CA_u {i len : Nat} (B : CAB hZ tZ h0 K p P m0 m q r0 r G pt S A qq N0 tx pk us Lc f) (c40 : c < 40) (lv : hI hZ (215 + 4 * c) 1 = 1) (eo : hI tZ 404 c = old) (hk : 0 ≤ k ∧ k < m) (hc : chq tZ 1 k m len) (hi : i < len) (ek : hR h1 (53 + 4 * c) 2 = kd hZ P k) (e4 : hI t1 408 0 = (c : Int) ∧ hI t1 409 0 = 0 ∧ hI t1 410 0 = 0) (RU : RUq h0 tZ t1 tx N0 k us) : ∀ (D fd N : Nat) (pr : Nat → Prop) (h t : hS), fd + D = (wg tZ 1 (upn tZ 1 k i) 5).toNat → D < N → FIq hZ tZ h1 t1 m old k c pr h t → (∃ h' t', lp (fun s => c155_b38 pt P (215 + 4 * c) (53 + 4 * c) (kd hZ P (upn tZ 1 k i)) s.1 s.2) N ((fd : Int), h) = some (.inl h') ∧ lp (fun s => c285_b92 (c : Int) k (upn tZ 1 k i) s.1 s.2) N ((fd : Int), t) = some (.inl t') ∧ FIq hZ tZ h1 t1 m old k c (fun x => pr x ∨ ∃ g : Nat, fd ≤ g ∧ (g : Int) < wg tZ 1 (upn tZ 1 k i) 5 ∧ wg tZ 1 (upn tZ 1 k i) (6 + g) = (x : Int)) h' t') ∨ (∃ h' t', lp (fun s => c155_b38 pt P (215 + 4 * c) (53 + 4 * c) (kd hZ P (upn tZ 1 k i)) s.1 s.2) N ((fd : Int), h) = some (.inr (0, h')) ∧ lp (fun s => c285_b92 (c : Int) k (upn tZ 1 k i) s.1 s.2) N ((fd : Int), t) = some (.inr (0, t')) ∧ RFq hZ tZ h' t')
  | 0, fd, N, pr, h, t, hd, hN, F => by
    obtain ⟨N, rfl⟩ : ∃ n, N = n + 1 := ⟨N - 1, by omega⟩
    obtain ⟨RT0, ⟨Pw1, -, C1', -, KOs⟩, ⟨C0, P448, hP⟩, -⟩ := id B
    have hm := Pw1.1.2.1
    obtain ⟨u0, u1⟩ := hc.2.1 i hi
    obtain ⟨-, -, w3, -, -⟩ := Pw1.1.2.2 _ u0 u1
    obtain ⟨cH, cT⟩ := F.1
    have Q := (PW_cy Pw1 cH cT (.inr P448)).2.2.1 _ u0 u1
    have k1 : kd h P (upn tZ 1 k i) = kd hZ P (upn tZ 1 k i) := kd_cy Pw1 cH (.inr P448) _
    refine .inl ⟨h, t, lp_d ?_, lp_d ?_, FIq_im F (fun n _ => ⟨fun z => .inl z, fun z => ?_⟩)⟩
    · show c155_b38 pt P (215 + 4 * c) (53 + 4 * c) (kd hZ P (upn tZ 1 k i)) (fd : Int) h = _
      unfold c155_b38
      rw [← k1]
      refine bnd (gI_s Q.1.2.2.1) ?_
      rw [Q.2.2.2.2.1.1, cyT_w cT, if_pos (by omega)]
    · show c285_b92 (c : Int) k (upn tZ 1 k i) (fd : Int) t = _
      unfold c285_b92
      refine bnd (c199_e (by omega) (by omega) u0 (by omega) (by omega) (by omega)) ?_
      rw [cyT_w cT, if_pos (by omega)]
    · rcases z with z | ⟨g, g1, g2, -⟩
      · exact z
      · omega
  | D + 1, fd, N, pr, h, t, hd, hN, F => by
    obtain ⟨N, rfl⟩ : ∃ n, N = n + 1 := ⟨N - 1, by omega⟩
    obtain ⟨RT0, ⟨Pw1, -, C1', -, KOs⟩, ⟨C0, P448, hP⟩, -⟩ := id B
    obtain ⟨u0, u1⟩ := hc.2.1 i hi
    have hf : (fd : Int) < wg tZ 1 (upn tZ 1 k i) 5 := by omega
    have nb := ((Pw1.2.2.1 _ u0 u1).2.2.2.2.1.2 fd hf).2.2
    obtain ⟨n, hn⟩ : ∃ n : Nat, wg tZ 1 (upn tZ 1 k i) (6 + fd) = (n : Int) := ⟨(wg tZ 1 (upn tZ 1 k i) (6 + fd)).toNat, by omega⟩
    rcases CA_f B c40 lv eo hk hc hi hf ek e4 RU hn F with ⟨g, s, a1, a2, a3⟩ | ⟨g, s, a1, a2, a3⟩
    · rcases CA_u B c40 lv eo hk hc hi ek e4 RU D (fd + 1) N _ g s (by omega) (by omega) a3 with ⟨g', s', b1, b2, b3⟩ | ⟨g', s', b1, b2, b3⟩
      · refine .inl ⟨g', s', by refine (lp_n (s' := (((fd + 1 : Nat) : Int), g)) ?_).trans b1; exact a1, by refine (lp_n (s' := (((fd + 1 : Nat) : Int), s)) ?_).trans b2; exact a2, FIq_im b3 (fun x _ => ⟨fun z => ?_, fun z => ?_⟩)⟩
        · rcases z with (z | z) | ⟨y, y1, y2, y3⟩
          · exact .inl z
          · exact .inr ⟨fd, Nat.le_refl _, hf, by rw [z]; exact hn⟩
          · exact .inr ⟨y, by omega, y2, y3⟩
        · rcases z with z | ⟨y, y1, y2, y3⟩
          · exact .inl (.inl z)
          · by_cases q : y = fd
            · subst q
              exact .inl (.inr (by rw [hn] at y3; omega))
            · exact .inr ⟨y, by omega, y2, y3⟩
      · exact .inr ⟨g', s', by refine (lp_n (s' := (((fd + 1 : Nat) : Int), g)) ?_).trans b1; exact a1, by refine (lp_n (s' := (((fd + 1 : Nat) : Int), s)) ?_).trans b2; exact a2, b3⟩
    · exact .inr ⟨g, s, by refine lp_d ?_; exact a1, by refine lp_d ?_; exact a2, a3⟩
/-- the names done when the kinds from place i of the chain on are done -/
def prC (tZ : hS) (k : Int) (len i : Nat) (x : Nat) : Prop := ∃ j g : Nat, i ≤ j ∧ j < len ∧ (g : Int) < wg tZ 1 (upn tZ 1 k j) 5 ∧ wg tZ 1 (upn tZ 1 k j) (6 + g) = (x : Int)
/-- the whole chain, from the farthest on -/
theorem CA_c {len : Nat} (B : CAB hZ tZ h0 K p P m0 m q r0 r G pt S A qq N0 tx pk us Lc f) (c40 : c < 40) (lv : hI hZ (215 + 4 * c) 1 = 1) (eo : hI tZ 404 c = old) (hk : 0 ≤ k ∧ k < m) (hc : chq tZ 1 k m len) (ek : hR h1 (53 + 4 * c) 2 = kd hZ P k) (e5 : ∀ j, j < len → hR h1 51 j = kd hZ P (upn tZ 1 k j)) (e4 : hI t1 408 0 = (c : Int) ∧ hI t1 409 0 = 0 ∧ hI t1 410 0 = 0) (RU : RUq h0 tZ t1 tx N0 k us) : ∀ (i N : Nat) (h t : hS), i ≤ len → i < N → FIq hZ tZ h1 t1 m old k c (prC tZ k len i) h t → (∃ h' t', lp (fun s => c155_b21 pt P (215 + 4 * c) (53 + 4 * c) s.1 s.2) N ((i : Int) - 1, h) = some (.inl h') ∧ lp (fun s => c285_b55 (c : Int) k s.1 s.2) N ((i : Int), t) = some (.inl t') ∧ FIq hZ tZ h1 t1 m old k c (prC tZ k len 0) h' t') ∨ (∃ h' t', lp (fun s => c155_b21 pt P (215 + 4 * c) (53 + 4 * c) s.1 s.2) N ((i : Int) - 1, h) = some (.inr (0, h')) ∧ lp (fun s => c285_b55 (c : Int) k s.1 s.2) N ((i : Int), t) = some (.inr (0, t')) ∧ RFq hZ tZ h' t')
  | 0, N, h, t, hi, hN, F => by
    obtain ⟨N, rfl⟩ : ∃ n, N = n + 1 := ⟨N - 1, by omega⟩
    refine .inl ⟨h, t, lp_d ?_, lp_d ?_, F⟩
    · show c155_b21 pt P (215 + 4 * c) (53 + 4 * c) (((0 : Nat) : Int) - 1) h = _
      unfold c155_b21
      rw [if_pos (by omega)]
    · show c285_b55 (c : Int) k ((0 : Nat) : Int) t = _
      unfold c285_b55
      rw [if_pos (by omega)]
  | i + 1, N, h, t, hi, hN, F => by
    obtain ⟨N, rfl⟩ : ∃ n, N = n + 1 := ⟨N - 1, by omega⟩
    obtain ⟨RT0, ⟨Pw1, -, C1', -, KOs⟩, ⟨C0, P448, hP⟩, -⟩ := id B
    obtain ⟨u0, u1⟩ := hc.2.1 i (by omega)
    have hl := hc.1.2
    obtain ⟨-, -, w3, -, -⟩ := Pw1.1.2.2 _ u0 u1
    obtain ⟨cH, cT⟩ := F.1
    have ec : upn t 1 k = upn tZ 1 k := by
      funext a
      induction a with
      | zero => rfl
      | succ a ih =>
        show wg t 1 (upn t 1 k a) 1 = wg tZ 1 (upn tZ 1 k a) 1
        rw [ih, cyT_w cT]
    have hct : chq t 1 k m len := by
      unfold chq
      rw [ec]
      exact hc
    have e66 : lp (fun s => c285_b66 ((i + 1 : Nat) : Int) t s.1 s.2) hF0 (k, 1) = some (upn tZ 1 k i) := by
      have := c285_66 (WF_cy Pw1.1 cT) hct (deep := i + 1) (by omega) i 0 hF0 (by omega) (hF0_lt (by omega))
      rw [ec] at this
      exact this
    have key : ∀ x, (prC tZ k len (i + 1) x ∨ ∃ g : Nat, 0 ≤ g ∧ (g : Int) < wg tZ 1 (upn tZ 1 k i) 5 ∧ wg tZ 1 (upn tZ 1 k i) (6 + g) = (x : Int)) ↔ prC tZ k len i x := fun x => by
      refine ⟨fun z => ?_, fun z => ?_⟩
      · rcases z with ⟨j, g, z1, z2, z3, z4⟩ | ⟨g, -, z3, z4⟩
        · exact ⟨j, g, by omega, z2, z3, z4⟩
        · exact ⟨i, g, Nat.le_refl _, by omega, z3, z4⟩
      · obtain ⟨j, g, z1, z2, z3, z4⟩ := z
        by_cases q : j = i
        · subst q
          exact .inr ⟨g, Nat.zero_le _, z3, z4⟩
        · exact .inl ⟨j, g, by omega, z2, z3, z4⟩
    have ei : (((i + 1 : Nat) : Int) - 1) = (i : Int) := by omega
    have e51 : aRs h 51 12 (i : Int) = some (kd hZ P (upn tZ 1 k i)) := by rw [aRs_s (by omega) (by omega), Int.toNat_natCast, F.2.1.2.2.2.2, e5 i (by omega)]
    rw [ei]
    rcases CA_u B c40 lv eo hk hc (show i < len by omega) ek e4 RU (wg tZ 1 (upn tZ 1 k i) 5).toNat 0 hF0 _ h t (by omega) (hF0_lt (by omega)) F with ⟨g, s, a1, a2, a3⟩ | ⟨g, s, a1, a2, a3⟩
    · rcases CA_c B c40 lv eo hk hc ek e5 e4 RU i N g s (by omega) (by omega) (FIq_im a3 (fun x _ => key x)) with ⟨g', s', b1, b2, b3⟩ | ⟨g', s', b1, b2, b3⟩
      · refine .inl ⟨g', s', ?_, ?_, b3⟩
        · refine (lp_n (s' := ((i : Int) - 1, g)) ?_).trans b1
          show c155_b21 pt P (215 + 4 * c) (53 + 4 * c) (i : Int) h = _
          unfold c155_b21
          rw [if_neg (by omega)]
          refine bnd e51 ?_
          refine bnd a1 ?_
          rw [xs_il, wadd_m1 (show i < 1000 by omega)]
        · refine (lp_n (s' := ((i : Int), s)) ?_).trans b2
          show c285_b55 (c : Int) k ((i + 1 : Nat) : Int) t = _
          unfold c285_b55
          rw [if_neg (by omega)]
          refine bnd e66 ?_
          refine bnd a2 ?_
          rw [xs_il, wadd_m2 (show i < 1000 by omega)]
      · refine .inr ⟨g', s', ?_, ?_, b3⟩
        · refine (lp_n (s' := ((i : Int) - 1, g)) ?_).trans b1
          show c155_b21 pt P (215 + 4 * c) (53 + 4 * c) (i : Int) h = _
          unfold c155_b21
          rw [if_neg (by omega)]
          refine bnd e51 ?_
          refine bnd a1 ?_
          rw [xs_il, wadd_m1 (show i < 1000 by omega)]
        · refine (lp_n (s' := ((i : Int), s)) ?_).trans b2
          show c285_b55 (c : Int) k ((i + 1 : Nat) : Int) t = _
          unfold c285_b55
          rw [if_neg (by omega)]
          refine bnd e66 ?_
          refine bnd a2 ?_
          rw [xs_il, wadd_m2 (show i < 1000 by omega)]
    · refine .inr ⟨g, s, ?_, ?_, a3⟩
      · refine lp_d ?_
        show c155_b21 pt P (215 + 4 * c) (53 + 4 * c) (i : Int) h = _
        unfold c155_b21
        rw [if_neg (by omega)]
        refine bnd e51 ?_
        refine bnd a1 ?_
        rw [xs_ir]
      · refine lp_d ?_
        show c285_b55 (c : Int) k ((i + 1 : Nat) : Int) t = _
        unfold c285_b55
        rw [if_neg (by omega)]
        refine bnd e66 ?_
        refine bnd a2 ?_
        rw [xs_ir]
end CA2
