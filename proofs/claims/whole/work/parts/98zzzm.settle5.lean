/-! a patch is made: the new pond is settled, in both -/
section STV
variable {h h' h0 h1 t t0 t' t1 tZ hZ hA tA : hS} {m m0 P p k B : Nat} {r r0 : Int → Nat} {G j w : Int} {K : Nat → Int → Prop}
theorem PW_lt (Pw : PW h t K p w m r) (pB : p + 1 < B) (kB : ∀ v : Int, 0 ≤ v → v < m → kd h p v + 13 ≤ B) (e : ∀ x, x < B → sm h h' x) (en : hN h ≤ hN h') (ew : ∀ v g : Int, 0 ≤ v → v < m → 0 ≤ g → g < 64 → wg t' w v g = wg t w v g) (em : wm t' w = wm t w) : PW h' t' K p w m r := by
  obtain ⟨W, ⟨p1, p2, p3, p4, p5, p6, p7⟩, P3, P4⟩ := id Pw
  have sp := e p (by omega)
  have sp1 := e (p + 1) pB
  have hk : ∀ u : Int, kd h' p u = kd h p u := fun u => by
    unfold kd
    split
    · rfl
    · exact sp1.2.1 _
  refine ⟨⟨by rw [em]; exact W.1, W.2.1, fun k k0 k1 => ?_⟩, ⟨p1, by omega, by rw [sp.2.2.1]; exact p3, by rw [sp.2.1]; exact p4, by rw [sp1.2.2.1]; exact p5, by rw [sp1.2.2.2]; exact p6, by rw [sp.1]; exact p7⟩, fun j j0 j1 => ?_, fun i j i0 i1 j0 j1 => ?_⟩
  · rw [ew k 1 k0 k1 (by omega) (by omega), ew k 5 k0 k1 (by omega) (by omega), ew k 30 k0 k1 (by omega) (by omega), ew k 39 k0 k1 (by omega) (by omega)]
    exact W.2.2 k k0 k1
  · obtain ⟨-, -, w3, w4, w5⟩ := W.2.2 j j0 j1
    have kb := kB j j0 j1
    exact KR_c2 (P3 j j0 j1) (hk _) (hk _) (fun o ho => e _ (by omega)) en (fun f f0 f1 => ew j f j0 j1 f0 f1) w3.2 w4.2 w5.2 (fun _ _ z => z)
  · rw [ew i 0 i0 i1 (by omega) (by omega), ew j 0 j0 j1 (by omega) (by omega)]
    exact P4 i j i0 i1 j0 j1
/-- the statics of all the kinds -/
theorem c90_l (B0 : BW hA tA K P m r) (V : Int → Nat → Int) (hV : ∀ v : Int, 0 ≤ v → v < m → ∀ i : Nat, (i : Int) < wg tA 1 v 30 → V v i = if nm0 t0 m0 (wg tA 1 v 0) = -1 then hI h1 (kd hA P v + 5) i else if sIx t0 0 (nm0 t0 m0 (wg tA 1 v 0)) (hI h1 (kd hA P v + 4) i) = -1 then hI h1 (kd hA P v + 5) i else wg t0 0 (nm0 t0 m0 (wg tA 1 v 0)) (35 + sIx t0 0 (nm0 t0 m0 (wg tA 1 v 0)) (hI h1 (kd hA P v + 4) i))) (g1 : gch P m hA h1) (Pw : PW h1 t0 K p 0 m0 r0) (pP : p + 1 < P) (kP : ∀ v : Int, 0 ≤ v → v < m0 → kd h1 p v + 13 ≤ P) : ∀ (D i N : Nat) (h : hS), i + D = m → D < N → h.2 = h1.2 → (∀ x j, (∀ v : Int, 0 ≤ v → v < i → x ≠ kd hA P v + 5) → hI h x j = hI h1 x j) → (∀ v : Int, 0 ≤ v → v < i → ∀ j : Nat, hI h (kd hA P v + 5) j = if (j : Int) < wg tA 1 v 30 then V v j else hI h1 (kd hA P v + 5) j) → ∃ h', lp (fun s => c90_b2 P p s.1 s.2) N ((i : Int), h) = some h' ∧ h'.2 = h1.2 ∧ (∀ x j, (∀ v : Int, 0 ≤ v → v < m → x ≠ kd hA P v + 5) → hI h' x j = hI h1 x j) ∧ ∀ v : Int, 0 ≤ v → v < m → ∀ j : Nat, hI h' (kd hA P v + 5) j = if (j : Int) < wg tA 1 v 30 then V v j else hI h1 (kd hA P v + 5) j
  | 0, i, N, h, hi, hN', e2, H1, H2 => by
    obtain ⟨N, rfl⟩ : ∃ n, N = n + 1 := ⟨N - 1, by omega⟩
    obtain rfl : i = m := by omega
    have p1 := B0.1.2.1
    have hT' : ∀ x, hT h x = hT h1 x := fun x => h2_T e2 x
    have sP := g1.2.2.2.2 P (fun v v0 v1 => by have := B0.2.1 v v0 v1; omega)
    refine ⟨h, lp_d ?_, e2, H1, H2⟩
    show c90_b2 P p (i : Int) h = _
    unfold c90_b2
    refine bnd (gI_s (by rw [hT', g1.2.2.1]; exact p1.2.2.1)) ?_
    rw [H1 P 1 (fun v v0 v1 => by have := B0.2.1 v v0 v1; omega), sP.2 1 (fun v v0 v1 => by omega), p1.2.2.2.2.2.2, if_pos (by omega)]
  | D + 1, i, N, h, hi, hN', e2, H1, H2 => by
    obtain ⟨N, rfl⟩ : ∃ n, N = n + 1 := ⟨N - 1, by omega⟩
    have p1 := B0.1.2.1
    have hm := B0.1.1.2.1
    have hT' : ∀ x, hT h x = hT h1 x := fun x => h2_T e2 x
    have hL' : ∀ x, hL h x = hL h1 x := fun x => h2_L e2 x
    have hR' : ∀ x j, hR h x j = hR h1 x j := fun x j => h2_R e2 x j
    have hNN : hN h = hN h1 := h2_N e2
    have fP : ∀ x, x = P ∨ x = P + 1 → ∀ v : Int, 0 ≤ v → v < m → ¬ (kd hA P v + 8 ≤ x ∧ x ≤ kd hA P v + 12) := fun x hx v v0 v1 => by have := B0.2.1 v v0 v1; omega
    have sP := g1.2.2.2.2 P (fP P (.inl rfl))
    have sP1 := g1.2.2.2.2 (P + 1) (fP _ (.inr rfl))
    have i0 : (0 : Int) ≤ i := by omega
    have i1 : (i : Int) < m := by omega
    obtain ⟨-, -, -, w4, -⟩ := B0.1.1.2.2 (i : Int) i0 i1
    have Qi := B0.1.2.2.1 (i : Int) i0 i1
    have kb := B0.2.1 (i : Int) i0 i1
    have ek : hR h (P + 1) i = kd hA P (i : Int) := by rw [hR', sP1.1, kd_n i0, Int.toNat_natCast]
    obtain ⟨k, hk⟩ : ∃ k, kd hA P (i : Int) = k := ⟨_, rfl⟩
    unfold KR at Qi
    rw [hk] at ek kb Qi
    -- its cells below the tables
    have far : ∀ v : Int, 0 ≤ v → v < m → v ≠ (i : Int) → kd hA P v + 13 ≤ k ∨ k + 13 ≤ kd hA P v := fun v v0 v1 hv => by
      rw [← hk]
      by_cases c : v < (i : Int)
      · exact .inl (B0.2.2.1 v i v0 c i1)
      · exact .inr (B0.2.2.1 i v i0 (by omega) v1)
    have own : ∀ o, o ≤ 7 → ∀ v : Int, 0 ≤ v → v < m → ¬ (kd hA P v + 8 ≤ k + o ∧ k + o ≤ kd hA P v + 12) := fun o ho v v0 v1 => by
      by_cases c : v = (i : Int)
      · rw [c, hk]; omega
      · have := far v v0 v1 c; omega
    have Ik : ∀ o j, o ≤ 7 → ¬ (o = 0 ∧ j = 2) → hI h (k + o) j = hI hA (k + o) j := fun o j ho hj => by
      rw [H1 (k + o) j (fun v v0 v1 => by have := far v v0 (by omega) (by omega); omega)]
      refine (g1.2.2.2.2 (k + o) (own o ho)).2 j (fun v v0 v1 => ?_)
      by_cases c : v = (i : Int)
      · rw [c, hk]; omega
      · have := far v v0 v1 c; omega
    have Rk : ∀ o j, o ≤ 7 → hR h (k + o) j = hR hA (k + o) j := fun o j ho => by rw [hR', (g1.2.2.2.2 (k + o) (own o ho)).1]
    have Tk : ∀ x, hT h x = hT hA x := fun x => by rw [hT', g1.2.2.1]
    have Lk : ∀ x, hL h x = hL hA x := fun x => by rw [hL', g1.2.2.2.1]
    have Qh : KD h k := ⟨Qi.1.1, by rw [hNN, g1.1]; exact Qi.1.2.1, by rw [Tk]; exact Qi.1.2.2.1, fun e he => by
      obtain ⟨a1, a2, a3⟩ := Qi.1.2.2.2 e he
      exact ⟨by have := Rk 0 e.1 (by omega); rw [Nat.add_zero] at this; rw [this]; exact a1, by rw [Tk]; exact a2, by rw [Lk]; exact a3⟩⟩
    have smB : ∀ x, x < P → sm h1 h x := fun x hx => ⟨fun j => H1 x j (fun v v0 v1 => by have := B0.2.1 v v0 (by omega); omega), fun j => hR' x j, hT' x, hL' x⟩
    have Pwh : PW h t0 K p 0 m0 r0 := PW_lt Pw pP kP smB (by rw [hNN]; exact Nat.le_refl _) (fun _ _ _ _ _ _ => rfl) rfl
    have kdp : ∀ u : Int, kd h p u = kd h1 p u := fun u => by
      unfold kd
      split
      · rfl
      · exact hR' _ _
    obtain ⟨u, hu⟩ : ∃ u, nm0 t0 m0 (wg tA 1 (i : Int) 0) = u := ⟨_, rfl⟩
    have hub : u = -1 ∨ (0 ≤ u ∧ u < m0) := by
      rw [← hu]
      rcases nm0_b t0 m0 (wg tA 1 (i : Int) 0) with y | ⟨y1, y2, -⟩
      · exact .inl y
      · exact .inr ⟨y1, y2⟩
    have n8 : hI h k 8 = wg tA 1 (i : Int) 30 := by have := Ik 0 8 (by omega) (by omega); rw [Nat.add_zero] at this; rw [this]; exact Qi.2.2.2.2.2.1.1
    obtain ⟨h2, a1, a2, a3⟩ := c90_30 Qh n8 w4 Pwh hub (fun v v0 v1 => by rw [kdp]; have := kP v v0 v1; omega) (wg tA 1 (i : Int) 30).toNat 0 hF0 h (by omega) (hF0_lt (by omega)) rfl (fun x j => by rw [if_neg (by omega)])
    have n4 : ∀ j, hI h (k + 4) j = hI h1 (k + 4) j := fun j => H1 (k + 4) j (fun v v0 v1 => by have := far v v0 (by omega) (by omega); omega)
    have n5 : ∀ j, hI h (k + 5) j = hI h1 (k + 5) j := fun j => H1 (k + 5) j (fun v v0 v1 => by have := far v v0 (by omega) (by omega); omega)
    obtain ⟨h', b1, b2, b3, b4⟩ := c90_l B0 V hV g1 Pw pP kP D (i + 1) N h2 (by omega) (by omega) (a2.trans e2) (fun x j hx => by
      rw [a3, if_neg (fun z => hx (i : Int) i0 (by omega) (by rw [hk]; exact z.1))]
      exact H1 x j (fun v v0 v1 => hx v v0 (by omega))) (fun v v0 v1 j => by
      by_cases c : v = (i : Int)
      · rw [c, hk, a3]
        by_cases c2 : (j : Int) < wg tA 1 (i : Int) 30
        · have hv := hV (i : Int) i0 i1 j c2
          rw [hk, hu] at hv
          rw [if_pos ⟨rfl, by omega⟩, if_pos c2, hv, n4, n5]
        · rw [if_neg (by omega), if_neg c2, n5]
      · have := far v v0 (by omega) c
        rw [a3, if_neg (by omega)]
        exact H2 v v0 (by omega) j)
    refine ⟨h', (lp_n (s' := (((i + 1 : Nat) : Int), h2)) ?_).trans b1, b2, b3, b4⟩
    show c90_b2 P p (i : Int) h = _
    unfold c90_b2
    refine bnd (gI_s (by rw [Tk]; exact p1.2.2.1)) ?_
    rw [H1 P 1 (fun v v0 v1 => by have := B0.2.1 v v0 (by omega); omega), sP.2 1 (fun v v0 v1 => by omega), p1.2.2.2.2.2.2, if_neg (by omega)]
    refine bnd (gR_s (by rw [Tk]; exact p1.2.2.1)) ?_
    rw [hR', sP.1, p1.2.2.2.1]
    refine bnd (aR_s (by rw [Tk]; exact p1.2.2.2.2.1) i0 (by rw [Lk, p1.2.2.2.2.2.1]; omega)) ?_
    rw [Int.toNat_natCast, ek]
    refine bnd (gI_s Qh.2.2.1) ?_
    have ek0 := Ik 0 0 (by omega) (by omega)
    rw [Nat.add_zero] at ek0
    rw [ek0, Qi.2.1.1]
    refine bnd (kT_s Pwh.2.1.2.2.1) ?_
    refine bnd (c47_e Pwh (wg tA 1 (i : Int) 0)) ?_
    rw [show ix (fun j : Nat => wg t0 0 (j : Int) 0) (wg tA 1 (i : Int) 0) m0 = u from hu]
    refine bnd a1 ?_
    rw [wadd_n (by omega)]
/-- the new pond, settled -/
def NWq (hZ tZ : hS) (K : Nat → Int → Prop) (P m : Nat) (r : Int → Nat) (m0 : Nat) (G : Int) : Prop := PW hZ tZ K P 1 m r ∧ (∀ u : Int, 0 ≤ u → u < m → TBr hZ tZ hZ P u) ∧ CF tZ 1 m ∧ ((∀ j : Int, 0 ≤ j → j < m → P + 2 ≤ kd hZ P j) ∧ ∀ i j : Int, 0 ≤ i → i < j → j < m → kd hZ P i + 13 ≤ kd hZ P j) ∧ ∀ j : Int, 0 ≤ j → j < m → KO tZ m0 G j ∧ (∀ i : Nat, (i : Int) < wg tZ 1 j 5 → hI hZ (kd hZ P j + 3) i = wg tZ 1 j (22 + i)) ∧ (wg tZ 1 j 3 = 1 ↔ wg tZ 1 j 2 = G) ∧ (wg tZ 1 j 3 ≠ 1 → ∀ n, (fAt tZ 1 j n ≠ -1 ↔ fAt tZ 0 (wg tZ 1 j 4) n ≠ -1))
theorem SETT (B : B1 hA tA K P m r m0 G) (UT : UTq tA m0 m) (cl : ∀ i : Nat, i < m → clq tA i) (Pw : PW hA tA K p 0 m0 r0) (h448 : 448 ≤ P) (pP : p + 1 < P) (kP : ∀ v : Int, 0 ≤ v → v < m0 → kd hA p v + 13 ≤ P) (Gb : 0 ≤ G ∧ G ≤ 100000) (eG : hI tA 395 27 = G) : ∃ hZ tB tZ, c88 P p (G + 1) hA = some hZ ∧ lp (fun s => c274_b122 s.1 s.2) hF0 (0, tA) = some tB ∧ lp (fun s => c274_b194 s.1 s.2) hF0 (0, tB) = some tZ ∧ NWq hZ tZ K P m r m0 (G + 1) ∧ (hN hZ = hN hA ∧ hM hZ = hM hA) ∧ (∀ x, x < P → sm hA hZ x) ∧ fw tA tZ := by
  obtain ⟨B0, Tz, Os⟩ := id B
  have W := B0.1.1
  have hm := W.2.1
  have W0 := Pw.1
  have hm0 := W0.2.1
  have C := KO_CF W Os cl
  have p1 := B0.1.2.1
  obtain ⟨h1, x1, g1, x3⟩ := c88_e (gen := G + 1) B0 C (fun j j0 j1 n hn => Tz j j0 j1 n hn)
  obtain ⟨tB, y1, SP, y3⟩ := spr_e W (fun i i0 i1 => (Os i i0 i1).2.1)
  have fB := SP.1
  have wB := SP.2.2.1
  have WB : WF tB 1 m r := by
    refine ⟨by rw [SP.2.1]; exact W.1, hm, fun k k0 k1 => ?_⟩
    rw [wB k 1 k0 (by omega) (by omega) (by omega) (by omega), wB k 5 k0 (by omega) (by omega) (by omega) (by omega), wB k 30 k0 (by omega) (by omega) (by omega) (by omega), wB k 39 k0 (by omega) (by omega) (by omega) (by omega)]
    exact W.2.2 k k0 k1
  have W0B := WF0_f W0 fB
  have old : ∀ v : Int, 0 ≤ v → v < m → wg tB 1 v 4 = nm0 tA m0 (wg tA 1 v 0) := fun v v0 v1 => by rw [wB v 4 v0 (by omega) (by omega) (by omega) (by omega)]; exact (Os v v0 v1).1
  have ho : ∀ v : Int, 0 ≤ v → v < m → wg tB 1 v 4 = -1 ∨ (0 ≤ wg tB 1 v 4 ∧ wg tB 1 v 4 < m0) := fun v v0 v1 => by
    rw [old v v0 v1]
    rcases nm0_b tA m0 (wg tA 1 v 0) with y | ⟨y1, y2, -⟩
    · exact .inl y
    · exact .inr ⟨y1, y2⟩
  obtain ⟨tZ, z1, fZ, mZ, wZ⟩ := c274_194 (m0 := m0) (G := G) WB W0B Gb (by rw [fB.2 395 27 (by omega)]; exact eG) ho m 0 hF0 tB (by omega) (hF0_lt (by omega)) fp_rf rfl (fun v g v0 v1 g0 g1 => by rw [if_neg (by omega)])
  have ff := fp_tr fB fZ
  have sm1 : ∀ x, x < P → sm hA h1 x := fun x hx => by
    have := g1.2.2.2.2 x (fun v v0 v1 => by have := B0.2.1 v v0 v1; omega)
    exact ⟨fun j => this.2 j (fun v v0 v1 => by have := B0.2.1 v v0 v1; omega), this.1, by rw [g1.2.2.1], by rw [g1.2.2.2.1]⟩
  have Pw1 : PW h1 tA K p 0 m0 r0 := PW_lt Pw pP kP sm1 (by rw [g1.1]; exact Nat.le_refl _) (fun _ _ _ _ _ _ => rfl) rfl
  have kd1 : ∀ u : Int, kd h1 p u = kd hA p u := fun u => by
    unfold kd
    split
    · rfl
    · exact (sm1 (p + 1) pP).2.1 _
  -- the class's cells of one kind
  have far : ∀ i v : Int, 0 ≤ i → i < m → 0 ≤ v → v < m → v ≠ i → kd hA P v + 13 ≤ kd hA P i ∨ kd hA P i + 13 ≤ kd hA P v := fun i v i0 i1 v0 v1 hv => by
    by_cases c : v < i
    · exact .inl (B0.2.2.1 v i v0 c i1)
    · exact .inr (B0.2.2.1 i v i0 (by omega) v1)
  have own : ∀ i : Int, 0 ≤ i → i < m → ∀ o, o ≤ 7 → ∀ v : Int, 0 ≤ v → v < m → ¬ (kd hA P v + 8 ≤ kd hA P i + o ∧ kd hA P i + o ≤ kd hA P v + 12) := fun i i0 i1 o o7 v v0 v1 => by
    by_cases c : v = i
    · rw [c]; omega
    · have := far i v i0 i1 v0 v1 c; omega
  have I1 : ∀ i : Int, 0 ≤ i → i < m → ∀ o j, o ≤ 7 → ¬ (o = 0 ∧ j = 2) → hI h1 (kd hA P i + o) j = hI hA (kd hA P i + o) j := fun i i0 i1 o j ho hj => by
    refine (g1.2.2.2.2 _ (own i i0 i1 o ho)).2 j (fun v v0 v1 => ?_)
    by_cases c : v = i
    · rw [c]; omega
    · have := far i v i0 i1 v0 v1 c; omega
  have R1 : ∀ i : Int, 0 ≤ i → i < m → ∀ o j, o ≤ 7 → hR h1 (kd hA P i + o) j = hR hA (kd hA P i + o) j := fun i i0 i1 o j ho => (g1.2.2.2.2 _ (own i i0 i1 o ho)).1 j
  have agB : agx 1 1 m tA tB := fun k f k0 k1 f0 f1 hf => wB k f k0 (by omega) f0 f1 (by omega)
  obtain ⟨hZ, c1, c2, c3, c4⟩ := c90_l (h1 := h1) (t0 := tA) (m0 := m0) B0 (fun v i => stv tB v i) (fun v v0 v1 i hi => by
    obtain ⟨-, -, -, w4, -⟩ := W.2.2 v v0 v1
    have QS := (B0.1.2.2.1 v v0 v1).2.2.2.2.2.1.2 i hi
    show stv tB v i = _
    unfold stv
    rw [old v v0 v1, wB v (31 + i) v0 (by omega) (by omega) (by omega) (by omega), wB v (35 + i) v0 (by omega) (by omega) (by omega) (by omega), I1 v v0 v1 4 i (by omega) (by omega), I1 v v0 v1 5 i (by omega) (by omega), QS.1, QS.2.1]
    by_cases c : nm0 tA m0 (wg tA 1 v 0) = -1
    · rw [if_pos c, if_pos c]
    · rw [if_neg c, if_neg c]
      obtain ⟨u0, u1⟩ : 0 ≤ nm0 tA m0 (wg tA 1 v 0) ∧ nm0 tA m0 (wg tA 1 v 0) < m0 := by
        rcases nm0_b tA m0 (wg tA 1 v 0) with y | ⟨y1, y2, -⟩
        · exact absurd y c
        · exact ⟨y1, y2⟩
      rw [sIx_x (fw_x W0 fB) W0 u0 u1]
      by_cases c5 : sIx tA 0 (nm0 tA m0 (wg tA 1 v 0)) (wg tA 1 v (31 + i)) = -1
      · rw [if_pos c5, if_pos c5]
      · rw [if_neg c5, if_neg c5]
        obtain ⟨q1, q2, -⟩ := sIx_lt W0 u0 u1 c5
        obtain ⟨-, -, -, w04, -⟩ := W0.2.2 _ u0 u1
        exact fw_w fB (.inl rfl) u0 (by omega) (by omega) (by omega)) g1 Pw1 pP (fun v v0 v1 => by rw [kd1]; exact kP v v0 v1) m 0 hF0 h1 (by omega) (hF0_lt (by omega)) rfl (fun _ _ _ => rfl) (fun v v0 v1 => by omega)
  have hTZ : ∀ x, hT hZ x = hT hA x := fun x => by rw [← g1.2.2.1]; exact h2_T c2 x
  have hLZ : ∀ x, hL hZ x = hL hA x := fun x => by rw [← g1.2.2.2.1]; exact h2_L c2 x
  have hRZ : ∀ x j, hR hZ x j = hR h1 x j := fun x j => h2_R c2 x j
  have hNZ : hN hZ = hN hA := by rw [← g1.1]; exact h2_N c2
  have hMZ : hM hZ = hM hA := by rw [← g1.2.1]; exact h2_M c2
  have n5 : ∀ i : Int, 0 ≤ i → i < m → ∀ o, o ≤ 12 → o ≠ 5 → ∀ v : Int, 0 ≤ v → v < m → kd hA P i + o ≠ kd hA P v + 5 := fun i i0 i1 o o12 o5 v v0 v1 => by
    by_cases c : v = i
    · rw [c]; omega
    · have := far i v i0 i1 v0 v1 c; omega
  have IZ : ∀ i : Int, 0 ≤ i → i < m → ∀ o j, o ≤ 7 → o ≠ 5 → ¬ (o = 0 ∧ j = 2) → hI hZ (kd hA P i + o) j = hI hA (kd hA P i + o) j := fun i i0 i1 o j ho h5 hj => by rw [c3 _ _ (n5 i i0 i1 o (by omega) h5), I1 i i0 i1 o j ho hj]
  have kdZ : ∀ u : Int, kd hZ P u = kd hA P u := fun u => by
    unfold kd
    split
    · rfl
    · rw [hRZ, (g1.2.2.2.2 (P + 1) (fun v v0 v1 => by have := B0.2.1 v v0 v1; omega)).1]
  have smZ : ∀ x, x < P → sm hA hZ x := fun x hx => sm_tr (sm1 x hx) ⟨fun j => c3 x j (fun v v0 v1 => by have := B0.2.1 v v0 v1; omega), fun j => hRZ x j, by rw [hTZ, (sm1 x hx).2.2.1], by rw [hLZ, (sm1 x hx).2.2.2]⟩
  have wo : ∀ v g : Int, 0 ≤ v → v < m → 0 ≤ g → g < 64 → g ≠ 2 → g ≠ 3 → ¬ (35 ≤ g ∧ g < 39) → wg tZ 1 v g = wg tA 1 v g := fun v g v0 v1 g0 g1 h2 h3 h4 => by
    obtain ⟨-, -, -, w4, -⟩ := WB.2.2 v v0 v1
    rw [wZ v g v0 (by omega) g0 g1, if_pos v1]
    unfold gsv
    rw [if_neg (by omega), if_neg (by omega)]
    exact wB v g v0 (by omega) g0 g1 h3
  have w3Z : ∀ v : Int, 0 ≤ v → v < m → wg tZ 1 v 3 = wg tB 1 v 3 := fun v v0 v1 => by
    obtain ⟨-, -, -, w4, -⟩ := WB.2.2 v v0 v1
    rw [wZ v 3 v0 (by omega) (by omega) (by omega), if_pos v1]
    unfold gsv
    rw [if_neg (by omega), if_neg (by omega)]
  have w2Z : ∀ v : Int, 0 ≤ v → v < m → wg tZ 1 v 2 = if wg tB 1 v 3 = 1 then G + 1 else wg tA 1 v 2 := fun v v0 v1 => by
    obtain ⟨-, -, -, w4, -⟩ := WB.2.2 v v0 v1
    rw [wZ v 2 v0 (by omega) (by omega) (by omega), if_pos v1]
    unfold gsv
    by_cases c : wg tB 1 v 3 = 1
    · rw [if_pos ⟨rfl, c⟩, if_pos c]
    · rw [if_neg (fun q => c q.2), if_neg (by omega), if_neg c]
      exact wB v 2 v0 (by omega) (by omega) (by omega) (by omega)
  have agZ : agx 1 1 m tA tZ := fun k f k0 k1 f0 f1 hf => wo k f k0 k1 f0 f1 (by omega) (by omega) (by omega)
  have tcE : ∀ u : Int, 0 ≤ u → u < m → tch hA tA P u = tcw tA u := fun u u0 u1 => by
    unfold tch tcw
    refine clb_eq (ok := fun v => 0 ≤ v ∧ v < m) (fun v hv => ⟨by rw [(B0.2.2.2.2 v hv.1 hv.2).1], rfl, ?_⟩) 13 u (.inr ⟨u0, u1⟩)
    rcases WF_ok W v hv with y | y
    · exact .inl y
    · exact .inr y.1
  have g2Z : ∀ u : Int, 0 ≤ u → u < m → hI hZ (kd hA P u) 2 = wg tZ 1 u 2 := fun u u0 u1 => by
    have a := c3 (kd hA P u) 2 (fun v v0 v1 => by have := n5 u u0 u1 0 (by omega) (by omega) v v0 v1; omega)
    rw [a, (x3 u u0 u1).1, w2Z u u0 u1, tcE u u0 u1]
    by_cases c : tcw tA u = -1
    · rw [if_pos c, if_neg (fun q => (y3 u u0 u1).1 q c)]
      exact (B0.1.2.2.1 u u0 u1).2.2.2.1
    · rw [if_neg c, if_pos ((y3 u u0 u1).2 c)]
  refine ⟨hZ, tB, tZ, ?_, y1, z1, ⟨⟨⟨by rw [mZ, SP.2.1]; exact W.1, hm, fun k k0 k1 => ?_⟩, ⟨p1.1, by rw [hNZ]; exact p1.2.1, by rw [hTZ]; exact p1.2.2.1, ?_, by rw [hTZ]; exact p1.2.2.2.2.1, by rw [hLZ]; exact p1.2.2.2.2.2.1, ?_⟩, fun j j0 j1 => ?_, fun i j i0 i1 j0 j1 => ?_⟩, fun u u0 u1 => ?_, CF_x agZ W C, ⟨fun j j0 j1 => by rw [kdZ]; exact B0.2.1 j j0 j1, fun i j i0 ij j1 => by rw [kdZ, kdZ]; exact B0.2.2.1 i j i0 ij j1⟩, fun j j0 j1 => ⟨?_, fun i hi => ?_, ?_, fun hch n => ?_⟩⟩, ⟨hNZ, hMZ⟩, smZ, ff⟩
  · unfold c88
    refine bnd x1 ?_
    refine bnd (hnul_8 (by have := Pw.2.1.1; omega)) ?_
    rw [if_neg (by decide)]
    refine bnd (kT_s (by rw [g1.2.2.1]; exact p1.2.2.1)) ?_
    unfold c90
    refine bnd (bnd c1 rfl) rfl
  · rw [wo k 1 k0 k1 (by omega) (by omega) (by omega) (by omega) (by omega), wo k 5 k0 k1 (by omega) (by omega) (by omega) (by omega) (by omega), wo k 30 k0 k1 (by omega) (by omega) (by omega) (by omega) (by omega), wo k 39 k0 k1 (by omega) (by omega) (by omega) (by omega) (by omega)]
    exact W.2.2 k k0 k1
  · rw [hRZ, (g1.2.2.2.2 P (fun v v0 v1 => by have := B0.2.1 v v0 v1; omega)).1]
    exact p1.2.2.2.1
  · rw [c3 P 1 (fun v v0 v1 => by have := B0.2.1 v v0 v1; omega), (g1.2.2.2.2 P (fun v v0 v1 => by have := B0.2.1 v v0 v1; omega)).2 1 (fun v v0 v1 => by omega)]
    exact p1.2.2.2.2.2.2
  · obtain ⟨Q, q1, q2, q3, q4, q5, q6⟩ := B0.1.2.2.1 j j0 j1
    obtain ⟨-, -, w3, w4, w5⟩ := W.2.2 j j0 j1
    have i0 : ∀ b, b ≠ 2 → hI hZ (kd hA P j) b = hI hA (kd hA P j) b := fun b hb => by
      have := IZ j j0 j1 0 b (by omega) (by omega) (by omega)
      rw [Nat.add_zero] at this
      exact this
    have r0 : ∀ b, hR hZ (kd hA P j) b = hR hA (kd hA P j) b := fun b => by
      have := R1 j j0 j1 0 b (by omega)
      rw [Nat.add_zero] at this
      rw [hRZ, this]
    unfold KR
    rw [kdZ, kdZ, i0 0 (by omega), r0, g2Z j j0 j1, i0 4 (by omega), i0 8 (by omega), i0 11 (by omega), wo j 0 j0 j1 (by omega) (by omega) (by omega) (by omega) (by omega), wo j 1 j0 j1 (by omega) (by omega) (by omega) (by omega) (by omega), wo j 5 j0 j1 (by omega) (by omega) (by omega) (by omega) (by omega), wo j 30 j0 j1 (by omega) (by omega) (by omega) (by omega) (by omega), wo j 39 j0 j1 (by omega) (by omega) (by omega) (by omega) (by omega)]
    refine ⟨⟨Q.1, by rw [hNZ]; exact Q.2.1, by rw [hTZ]; exact Q.2.2.1, fun e he => ?_⟩, q1, q2, rfl, ⟨q4.1, fun i hi => ?_⟩, ⟨q5.1, fun i hi => ?_⟩, ⟨q6.1, fun i hi => ?_⟩⟩
    · obtain ⟨a1, a2, a3⟩ := Q.2.2.2 e he
      exact ⟨by rw [r0]; exact a1, by rw [hTZ]; exact a2, by rw [hLZ]; exact a3⟩
    · rw [IZ j j0 j1 1 i (by omega) (by omega) (by omega), IZ j j0 j1 2 i (by omega) (by omega) (by omega), wo j _ j0 j1 (by omega) (by omega) (by omega) (by omega) (by omega), wo j _ j0 j1 (by omega) (by omega) (by omega) (by omega) (by omega)]
      exact q4.2 i hi
    · rw [IZ j j0 j1 4 i (by omega) (by omega) (by omega), wo j (31 + i) j0 j1 (by omega) (by omega) (by omega) (by omega) (by omega), c4 j j0 j1 i, if_pos hi]
      obtain ⟨b1, b2, b3⟩ := q5.2 i hi
      refine ⟨b1, ?_, b3⟩
      have e30 : wg tB 1 j 30 = wg tA 1 j 30 := wB j 30 j0 (by omega) (by omega) (by omega) (by omega)
      rw [wZ j (35 + i) j0 (by omega) (by omega) (by omega), if_pos j1]
      unfold gsv
      rw [if_neg (by omega), if_pos (by rw [e30]; omega), show ((35 : Int) + i - 35).toNat = i by omega]
    · rw [IZ j j0 j1 6 i (by omega) (by omega) (by omega), wo j _ j0 j1 (by omega) (by omega) (by omega) (by omega) (by omega), wo j _ j0 j1 (by omega) (by omega) (by omega) (by omega) (by omega), hRZ, R1 j j0 j1 7 i (by omega)]
      exact q6.2 i hi
  · rw [wo i 0 i0 i1 (by omega) (by omega) (by omega) (by omega) (by omega), wo j 0 j0 j1 (by omega) (by omega) (by omega) (by omega) (by omega)]
    exact B0.1.2.2.2 i j i0 i1 j0 j1
  · intro n hn
    have hub : u = -1 ∨ (0 ≤ u ∧ u < m) := .inr ⟨u0, u1⟩
    have y := (x3 u u0 u1).2 n hn
    have cz : ∀ o, 8 ≤ o → o ≤ 12 → hI hZ (kd hA P u + o) n = hI h1 (kd hA P u + o) n := fun o o8 o12 => c3 _ _ (n5 u u0 u1 o o12 (by omega))
    rw [kdZ, kdZ, kdZ, hRZ, hRZ, cz 8 (by omega) (by omega), cz 10 (by omega) (by omega), cz 12 (by omega) (by omega), fAt_x agZ W hub, sAt_x agZ W hub, aAt_x agZ W hub]
    refine ⟨y.1, ⟨y.2.1.1, fun hx => ?_⟩, y.2.2.1, fun hx => ?_⟩
    · rw [y.2.1.2 hx]
      rcases sAt_b (n := (n : Int)) W hub with q | ⟨⟨q, q'⟩, -⟩
      · exact absurd q hx
      · exact (sIx_x agZ W q q').symm
    · rw [y.2.2.2 hx]
      rcases aAt_b (n := (n : Int)) W hub with q | ⟨⟨q, q'⟩, -⟩
      · exact absurd q hx
      · exact (aIx_x agZ W q q').symm
  · obtain ⟨-, -, w3, w4, -⟩ := W.2.2 j j0 j1
    obtain ⟨o1, o2, o3, o4⟩ := Os j j0 j1
    -- the generation may be the new one
    have KO1 : KO tZ m0 (G + 1) j := by
      obtain ⟨q1, q2, q3, q4, q5⟩ := o4
      unfold KO
      rw [wo j 4 j0 j1 (by omega) (by omega) (by omega) (by omega) (by omega), wo j 0 j0 j1 (by omega) (by omega) (by omega) (by omega) (by omega), nm0_f W0 ff, w3Z j j0 j1, w2Z j j0 j1, wo j 5 j0 j1 (by omega) (by omega) (by omega) (by omega) (by omega), wo j 30 j0 j1 (by omega) (by omega) (by omega) (by omega) (by omega)]
      refine ⟨o1, (SP.2.2.2 j j0 j1).1, ?_, fun a b ha hb => ?_, fun a b ha hb => ?_, fun a b ha hb => ?_, fun a ha => ?_, fun a b ha hb => ?_⟩
      · split <;> omega
      · rw [wo j _ j0 j1 (by omega) (by omega) (by omega) (by omega) (by omega), wo j _ j0 j1 (by omega) (by omega) (by omega) (by omega) (by omega)]
        exact q1 a b ha hb
      · rw [wo j _ j0 j1 (by omega) (by omega) (by omega) (by omega) (by omega), wo j _ j0 j1 (by omega) (by omega) (by omega) (by omega) (by omega)]
        exact q2 a b ha hb
      · rw [wo j _ j0 j1 (by omega) (by omega) (by omega) (by omega) (by omega), wo j _ j0 j1 (by omega) (by omega) (by omega) (by omega) (by omega)]
        exact q3 a b ha hb
      · rw [wo j _ j0 j1 (by omega) (by omega) (by omega) (by omega) (by omega)]
        rcases q4 a ha with q | ⟨q, q'⟩
        · exact .inl q
        · refine .inr ⟨q, ?_⟩
          rcases nm0_b tA m0 (wg tA 1 j 0) with y | ⟨y1, y2, -⟩
          · exact absurd (o1.trans y) q
          · rw [fIx_x (fw_x W0 ff) W0 (by rw [o1]; exact y1) (by rw [o1]; exact y2)]
            exact q'
      · rw [wo j _ j0 j1 (by omega) (by omega) (by omega) (by omega) (by omega), wo j _ j0 j1 (by omega) (by omega) (by omega) (by omega) (by omega)]
        exact q5 a b ha hb
    exact KO1
  · obtain ⟨-, -, w3, -, -⟩ := W.2.2 j j0 j1
    rw [wo j 5 j0 j1 (by omega) (by omega) (by omega) (by omega) (by omega)] at hi
    rw [kdZ, IZ j j0 j1 3 i (by omega) (by omega) (by omega), wo j _ j0 j1 (by omega) (by omega) (by omega) (by omega) (by omega)]
    exact (B0.2.2.2.2 j j0 j1).2 i hi
  · rw [w3Z j j0 j1, w2Z j j0 j1]
    have := (Os j j0 j1).2.2.1
    by_cases c : wg tB 1 j 3 = 1
    · rw [if_pos c]
      exact ⟨fun _ => rfl, fun _ => c⟩
    · rw [if_neg c]
      exact ⟨fun q => absurd q c, fun q => by omega⟩
  · rw [w3Z j j0 j1] at hch
    have tc : tcw tA j = -1 := by
      by_cases y : tcw tA j = -1
      · exact y
      · exact absurd ((y3 j j0 j1).2 y) hch
    have h3 : wg tA 1 j 3 = 0 := by
      rcases (Os j j0 j1).2.1 with z | z
      · exact z
      · rw [tcw_u W j0 j1, if_pos (by omega)] at tc
        omega
    have u := (UT j j0 j1 h3).1
    rw [fAt_x agZ W (.inr ⟨j0, j1⟩), wo j 4 j0 j1 (by omega) (by omega) (by omega) (by omega) (by omega), fAt_x (fw_x W0 ff) W0 (.inr u)]
    exact UT_f UT W W0 (fun i i0 i1 => (Os i i0 i1).2.1) 12 j j0 j1 (W.2.2 j j0 j1).1 tc n
end STV
