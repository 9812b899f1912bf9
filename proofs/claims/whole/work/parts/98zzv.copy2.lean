/-! a patch is made: the pond is copied -/
/-- k is a's copy -/
def CKq (h h' : hS) (a k : Nat) : Prop := KD h' k ∧ (hI h' k 0 = hI h a 0 ∧ hI h' k 2 = hI h a 2 ∧ hI h' k 3 = 0 ∧ hI h' k 4 = hI h a 4 ∧ hI h' k 8 = hI h a 8 ∧ hI h' k 11 = hI h a 11) ∧ (∀ i : Nat, (i : Int) < hI h a 4 → hI h' (k + 1) i = hI h (a + 1) i ∧ hI h' (k + 2) i = hI h (a + 2) i ∧ hI h' (k + 3) i = hI h (a + 1) i) ∧ (∀ i : Nat, (i : Int) < hI h a 8 → hI h' (k + 4) i = hI h (a + 4) i ∧ hI h' (k + 5) i = hI h (a + 5) i) ∧ (∀ i : Nat, (i : Int) < hI h a 11 → hI h' (k + 6) i = hI h (a + 6) i ∧ hR h' (k + 7) i = hR h (a + 7) i) ∧ ∀ n, hI h' (k + 8) n = 0 ∧ hR h' (k + 9) n = 0 ∧ hR h' (k + 11) n = 0
/-- i kinds of the pond p lie copied in the pond P -/
def CPs (h hX : hS) (p P m i : Nat) : Prop := (hN hX = P + 2 + 13 * i ∧ hM hX = hM h + 14 + 267 * i) ∧ (∀ x, x < P → sm h hX x) ∧ (hT hX P = 18 ∧ hR hX P 0 = P + 1 ∧ hT hX (P + 1) = 17 ∧ hL hX (P + 1) = 12 ∧ hI hX P 1 = (m : Int)) ∧ ∀ a : Nat, a < i → hR hX (P + 1) a = P + 2 + 13 * a ∧ CKq h hX (kd h p (a : Int)) (P + 2 + 13 * a)
section CPY2
variable {h h' h0 h1 hX hY t t' : hS} {K : Nat → Int → Prop} {a k p P m i : Nat} {r : Int → Nat} {w : Int}
theorem KD_sm {b : Nat} (Q : KD h a) (en : hN h ≤ hN h') (e : ∀ o, o ≤ 12 → sm h h' (a + o)) (hb : b = a) : KD h' b := by
  subst hb
  have e0 := e 0 (by omega)
  rw [Nat.add_zero] at e0
  refine ⟨Q.1, by have := Q.2.1; omega, by rw [e0.2.2.1]; exact Q.2.2.1, fun c hc => ?_⟩
  obtain ⟨a1, a2, a3⟩ := Q.2.2.2 c hc
  have ho : c.2.1 ≤ 12 := by
    have : ∀ a ∈ karL, a.2.1 ≤ 12 := by decide
    exact this c hc
  have e2 := e c.2.1 ho
  exact ⟨by rw [e0.2.1]; exact a1, by rw [e2.2.2.1]; exact a2, by rw [e2.2.2.2]; exact a3⟩
/-- the kind's own link above may change -/
theorem CKq_c (Q : CKq h hX a k) (en : hN hX ≤ hN hY) (e : ∀ x, k ≤ x → x ≤ k + 12 → (∀ j, hI hY x j = hI hX x j) ∧ (∀ j, ¬ (x = k ∧ j = 1) → hR hY x j = hR hX x j) ∧ hT hY x = hT hX x ∧ hL hY x = hL hX x) : CKq h hY a k := by
  obtain ⟨q0, q1, q2, q3, q4, q5⟩ := Q
  have e0 := e k (by omega) (by omega)
  refine ⟨⟨q0.1, by have := q0.2.1; omega, by rw [e0.2.2.1]; exact q0.2.2.1, fun c hc => ?_⟩, ?_, fun i hi => ?_, fun i hi => ?_, fun i hi => ?_, fun n => ?_⟩
  · obtain ⟨a1, a2, a3⟩ := q0.2.2.2 c hc
    have ho : c.2.1 ≤ 12 ∧ 5 ≤ c.1 := by
      have : ∀ a ∈ karL, a.2.1 ≤ 12 ∧ 5 ≤ a.1 := by decide
      exact this c hc
    have e2 := e (k + c.2.1) (by omega) (by omega)
    exact ⟨by rw [e0.2.1 _ (by omega)]; exact a1, by rw [e2.2.2.1]; exact a2, by rw [e2.2.2.2]; exact a3⟩
  · rw [e0.1, e0.1, e0.1, e0.1, e0.1, e0.1]; exact q1
  · rw [(e (k + 1) (by omega) (by omega)).1, (e (k + 2) (by omega) (by omega)).1, (e (k + 3) (by omega) (by omega)).1]; exact q2 i hi
  · rw [(e (k + 4) (by omega) (by omega)).1, (e (k + 5) (by omega) (by omega)).1]; exact q3 i hi
  · rw [(e (k + 6) (by omega) (by omega)).1, (e (k + 7) (by omega) (by omega)).2.1 _ (by omega)]; exact q4 i hi
  · rw [(e (k + 8) (by omega) (by omega)).1, (e (k + 9) (by omega) (by omega)).2.1 _ (by omega), (e (k + 11) (by omega) (by omega)).2.1 _ (by omega)]; exact q5 n
theorem c47_r {g : Nat → Int} (p3 : hT h p = 18) (p4 : hR h p 0 = p + 1) (p5 : hT h (p + 1) = 17) (p6 : hL h (p + 1) = 12) (p7 : hI h p 1 = (m : Int)) (hm : m ≤ 12) (nm : ∀ j : Nat, j < m → hT h (hR h (p + 1) j) = 24 ∧ hI h (hR h (p + 1) j) 0 = g j) (n : Int) : c47 p n h = some (kd h p (ix g n m)) := by
  unfold c47
  have e := lp_ixv (f := fun s => c47_b2 p n h s) g (fun u => kd h p u) n m (by
    intro i hi
    show c47_b2 p n h i = _
    unfold c47_b2
    obtain ⟨n1, n2⟩ := nm i hi
    have ek : kd h p (i : Int) = hR h (p + 1) i := kd_n (by omega)
    rw [gI_s p3]
    simp only [bsome]
    rw [p7, if_neg (by omega), gR_s p3]
    simp only [bsome]
    rw [p4, aR_s p5 (by omega) (by omega)]
    simp only [bsome, Int.toNat_natCast]
    rw [← ek, gI_s (by rw [ek]; exact n1)]
    simp only [bsome]
    rw [show hI h (kd h p (i : Int)) 0 = g i by rw [ek]; exact n2, wadd_e (by omega) (by omega)]) (by
    show c47_b2 p n h m = _
    unfold c47_b2
    rw [gI_s p3]
    simp only [bsome]
    rw [p7, if_pos (by omega)]) m 0 hF0 (by omega) (hF0_lt (by omega))
  have e : lp (fun s => c47_b2 p n h s) hF0 0 = _ := e
  rw [e]
  simp only [bsome]
  by_cases q : ix g n m = -1
  · have q' : ixf g n 0 m = -1 := q
    rw [if_pos q', q]
    rfl
  · have q' : ¬ ixf g n 0 m = -1 := q
    rw [if_neg q']
    rfl
theorem ix_at {g : Nat → Int} {u : Nat} (um : u < m) (d : ∀ i j : Nat, i < m → j < m → g i = g j → i = j) : ix g (g u) m = (u : Int) := by
  rcases ix_b g (g u) m with e | ⟨j, e, j1, j2, -⟩
  · exact absurd rfl (ix_none e u um)
  · rw [e, d j u j1 um j2]
/-- the kinds are copied one by one -/
theorem c140_1 (Pw : PW h t K p 0 m r) (hK : ∀ x v, K x v → x < hN h ∧ hT h x = 1) (hP : hN h = P) (hp : p + 1 < P) (h448 : 448 ≤ P) : ∀ (D i N : Nat) (hX : hS), i + D = m → D < N → CPs h hX p P m i → ∃ hY, lp (fun s => c140_b18 p P s.1 s.2) N ((i : Int), hX) = some hY ∧ CPs h hY p P m m
  | 0, i, N, hX, hi, hN, C => by
    obtain ⟨N, rfl⟩ : ∃ n, N = n + 1 := ⟨N - 1, by omega⟩
    obtain rfl : i = m := by omega
    obtain ⟨W, ⟨p1, p2, p3, p4, p5, p6, p7⟩, -⟩ := Pw
    refine ⟨hX, lp_d ?_, C⟩
    have sp := C.2.1 p (by omega)
    show c140_b18 p P (i : Int) hX = _
    unfold c140_b18
    refine bnd (gI_s (by rw [sp.2.2.1]; exact p3)) ?_
    rw [sp.1, p7, if_pos (by omega)]
  | D + 1, i, N, hX, hi, hN', C => by
    obtain ⟨N, rfl⟩ : ∃ n, N = n + 1 := ⟨N - 1, by omega⟩
    obtain ⟨W, ⟨p1, p2, p3, p4, p5, p6, p7⟩, P3, P4⟩ := id Pw
    obtain ⟨⟨c1, c2⟩, c3, ⟨c4, c5, c6, c7, c8⟩, c9⟩ := id C
    have hm := W.2.1
    have sp := c3 p (by omega)
    have sp1 := c3 (p + 1) (by omega)
    have i0 : (0 : Int) ≤ (i : Int) := by omega
    have im : (i : Int) < m := by omega
    obtain ⟨Q, -, -, -, k5, k6, k7⟩ := P3 (i : Int) i0 im
    obtain ⟨-, -, w3, w4, w5⟩ := W.2.2 (i : Int) i0 im
    have ek : kd h p (i : Int) = hR h (p + 1) i := kd_n (by omega)
    generalize hA : kd h p (i : Int) = A at *
    have hAP : A + 12 < P := by rw [← hP]; exact Q.2.1
    have sA : ∀ o, o ≤ 12 → sm h hX (A + o) := fun o ho => c3 _ (by omega)
    have sA0 := sA 0 (by omega)
    rw [Nat.add_zero] at sA0
    have QX : KD hX A := KD_sm Q (by omega) sA rfl
    obtain ⟨hY, b1, b2, b3, b4, b5, ⟨b6, b7, b8, b9, b10, b11, b12⟩, b13, b14, b15, b16⟩ := c141_e (k := P + 2 + 13 * i) (F := (wg t 0 i 5).toNat) (S := (wg t 0 i 30).toNat) (A := (wg t 0 i 39).toNat) QX (by rw [sA0.1, k5.1]; omega) (by omega) (by rw [sA0.1, k6.1]; omega) (by omega) (by rw [sA0.1, k7.1]; omega) (by omega) (fun u hu => by
      obtain ⟨-, y2, -⟩ := k7.2 u (by omega)
      obtain ⟨z1, z2⟩ := hK _ _ y2
      rw [(sA 7 (by omega)).2.1, (c3 _ (by omega)).2.2.1]
      exact ⟨by omega, z2⟩) c1
    obtain ⟨hZ, eZ⟩ : ∃ hZ, hZ = sR hY (P + 1) i (P + 2 + 13 * i) := ⟨_, rfl⟩
    have sY : ∀ x, x < P + 2 + 13 * i → sm hX hY x := b4
    have sZ : ∀ x, x ≠ P + 1 → sm hY hZ x := fun x hx => by rw [eZ]; exact ⟨fun _ => rfl, fun j => by rw [hR_sR, if_neg (by omega)], rfl, rfl⟩
    have CZ : CPs h hZ p P m (i + 1) := by
      refine ⟨⟨by rw [eZ]; show hN hY = _; rw [b2]; omega, by rw [eZ]; show hM hY = _; rw [b3, c2]; omega⟩, fun x hx => sm_tr (c3 x hx) (sm_tr (sY x (by omega)) (sZ x (by omega))), ⟨?_, ?_, ?_, ?_, ?_⟩, fun a ha => ?_⟩
      · rw [(sZ P (by omega)).2.2.1, (sY P (by omega)).2.2.1]; exact c4
      · rw [(sZ P (by omega)).2.1, (sY P (by omega)).2.1]; exact c5
      · rw [eZ]; show hT hY _ = _; rw [(sY (P + 1) (by omega)).2.2.1]; exact c6
      · rw [eZ]; show hL hY _ = _; rw [(sY (P + 1) (by omega)).2.2.2]; exact c7
      · rw [(sZ P (by omega)).1, (sY P (by omega)).1]; exact c8
      · by_cases c : a = i
        · subst c
          rw [hA]
          refine ⟨by rw [eZ, hR_sR, if_pos ⟨rfl, rfl⟩], ?_⟩
          have base : CKq h hY A (P + 2 + 13 * a) := by
            refine ⟨b5, ⟨by rw [b6, sA0.1], by rw [b7, sA0.1], b8, by rw [b9, k5.1]; omega, by rw [b10, k6.1]; omega, by rw [b11, k7.1]; omega⟩, fun u hu => ?_, fun u hu => ?_, fun u hu => ?_, b16⟩
            · obtain ⟨x1, x2, x3⟩ := b13 u (by omega)
              rw [(sA 1 (by omega)).1] at x1 x3
              rw [(sA 2 (by omega)).1] at x2
              exact ⟨x1, x2, x3⟩
            · obtain ⟨x1, x2⟩ := b14 u (by omega)
              rw [(sA 4 (by omega)).1] at x1
              rw [(sA 5 (by omega)).1] at x2
              exact ⟨x1, x2⟩
            · obtain ⟨x1, x2⟩ := b15 u (by omega)
              rw [(sA 6 (by omega)).1] at x1
              rw [(sA 7 (by omega)).2.1] at x2
              exact ⟨x1, x2⟩
          exact CKq_c base (by rw [eZ]; exact Nat.le_refl _) (fun x x1 x2 => ⟨(sZ x (by omega)).1, fun j _ => (sZ x (by omega)).2.1 j, (sZ x (by omega)).2.2⟩)
        · obtain ⟨d1, d2⟩ := c9 a (by omega)
          refine ⟨by rw [eZ, hR_sR, if_neg (by omega), (sY (P + 1) (by omega)).2.1]; exact d1, CKq_c d2 (by rw [eZ]; show hN hX ≤ hN hY; omega) (fun x x1 x2 => ?_)⟩
          have z := sm_tr (sY x (by omega)) (sZ x (by omega))
          exact ⟨z.1, fun j _ => z.2.1 j, z.2.2⟩
    obtain ⟨hF, f1, f2⟩ := c140_1 Pw hK hP hp h448 D (i + 1) N hZ (by omega) (by omega) CZ
    refine ⟨hF, (lp_n (s' := (((i + 1 : Nat) : Int), hZ)) ?_).trans f1, f2⟩
    show c140_b18 p P (i : Int) hX = _
    unfold c140_b18
    refine bnd (gI_s (by rw [sp.2.2.1]; exact p3)) ?_
    rw [sp.1, p7, if_neg (by omega)]
    refine bnd (gR_s c4) ?_
    refine bnd (gR_s (by rw [sp.2.2.1]; exact p3)) ?_
    rw [c5, sp.2.1, p4]
    refine bnd (aR_s (by rw [sp1.2.2.1]; exact p5) (by omega) (by rw [sp1.2.2.2, p6]; omega)) ?_
    rw [Int.toNat_natCast, sp1.2.1, ← ek]
    refine bnd (kT_s QX.2.2.1) ?_
    refine bnd b1 ?_
    refine bnd (wR_s (by rw [(sY (P + 1) (by omega)).2.2.1]; exact c6) (by omega) (by omega) (by rw [(sY (P + 1) (by omega)).2.2.2, c7]; omega) (.inr b5.2.2.1)) ?_
    rw [Int.toNat_natCast, wadd_n (by omega), ← eZ]
/-- the links above -/
theorem c140_2 (Pw : PW h t K p 0 m r) (hP : hN h = P) (hp : p + 1 < P) (h448 : 448 ≤ P) : ∀ (D i N : Nat) (hX : hS), i + D = m → D < N → CPs h hX p P m m → (∀ a : Nat, a < i → hR hX (P + 2 + 13 * a) 1 = kd hX P (wg t 0 a 1)) → ∃ hY, lp (fun s => c140_b49 p P s.1 s.2) N ((i : Int), hX) = some hY ∧ CPs h hY p P m m ∧ ∀ a : Nat, a < m → hR hY (P + 2 + 13 * a) 1 = kd hY P (wg t 0 a 1)
  | 0, i, N, hX, hi, hN, C, L => by
    obtain ⟨N, rfl⟩ : ∃ n, N = n + 1 := ⟨N - 1, by omega⟩
    obtain rfl : i = m := by omega
    obtain ⟨W, ⟨p1, p2, p3, p4, p5, p6, p7⟩, -⟩ := Pw
    refine ⟨hX, lp_d ?_, C, L⟩
    have sp := C.2.1 p (by omega)
    show c140_b49 p P (i : Int) hX = _
    unfold c140_b49
    refine bnd (gI_s (by rw [sp.2.2.1]; exact p3)) ?_
    rw [sp.1, p7, if_pos (by omega)]
  | D + 1, i, N, hX, hi, hN', C, L => by
    obtain ⟨N, rfl⟩ : ∃ n, N = n + 1 := ⟨N - 1, by omega⟩
    obtain ⟨W, ⟨p1, p2, p3, p4, p5, p6, p7⟩, P3, P4⟩ := id Pw
    obtain ⟨⟨c1, c2⟩, c3, ⟨c4, c5, c6, c7, c8⟩, c9⟩ := id C
    have hm := W.2.1
    have sp := c3 p (by omega)
    have sp1 := c3 (p + 1) (by omega)
    have i0 : (0 : Int) ≤ (i : Int) := by omega
    have im : (i : Int) < m := by omega
    obtain ⟨Q, -, kb, -⟩ := P3 (i : Int) i0 im
    have ek : kd h p (i : Int) = hR h (p + 1) i := kd_n (by omega)
    have hQn := Q.2.1
    have sA0 := c3 (kd h p (i : Int)) (by omega)
    obtain ⟨d1, d2⟩ := c9 i (by omega)
    obtain ⟨v, hv⟩ : ∃ v, v = kd hX P (wg t 0 i 1) := ⟨_, rfl⟩
    obtain ⟨hZ, eZ⟩ : ∃ hZ, hZ = sR hX (P + 2 + 13 * i) 1 v := ⟨_, rfl⟩
    have zR : ∀ x j, ¬ (x = P + 2 + 13 * i ∧ j = 1) → hR hZ x j = hR hX x j := fun x j hx => by rw [eZ, hR_sR, if_neg hx]
    have zk : ∀ u, kd hZ P u = kd hX P u := fun u => by
      unfold kd
      split
      · rfl
      · exact zR _ _ (by omega)
    have CZ : CPs h hZ p P m m := by
      refine ⟨⟨by rw [eZ]; exact c1, by rw [eZ]; exact c2⟩, fun x hx => sm_tr (c3 x hx) (by rw [eZ]; exact ⟨fun _ => rfl, fun j => by rw [hR_sR, if_neg (by omega)], rfl, rfl⟩), ⟨by rw [eZ]; exact c4, by rw [zR P 0 (by omega)]; exact c5, by rw [eZ]; exact c6, by rw [eZ]; exact c7, by rw [eZ]; exact c8⟩, fun a ha => ?_⟩
      obtain ⟨y1, y2⟩ := c9 a ha
      refine ⟨by rw [zR (P + 1) a (by omega)]; exact y1, CKq_c y2 (by rw [eZ]; exact Nat.le_refl _) (fun x x1 x2 => ⟨fun j => by rw [eZ, hI_sR], fun j hj => zR x j (by omega), by rw [eZ]; rfl, by rw [eZ]; rfl⟩)⟩
    obtain ⟨hF, f1, f2, f3⟩ := c140_2 Pw hP hp h448 D (i + 1) N hZ (by omega) (by omega) CZ (fun a ha => by
      by_cases c : a = i
      · subst c
        rw [zk, eZ, hR_sR, if_pos ⟨rfl, rfl⟩, hv]
      · rw [zk, zR _ _ (by omega)]
        exact L a (by omega))
    refine ⟨hF, (lp_n (s' := (((i + 1 : Nat) : Int), hZ)) ?_).trans f1, f2, f3⟩
    show c140_b49 p P (i : Int) hX = _
    unfold c140_b49
    refine bnd (gI_s (by rw [sp.2.2.1]; exact p3)) ?_
    rw [sp.1, p7, if_neg (by omega)]
    refine bnd (gR_s (by rw [sp.2.2.1]; exact p3)) ?_
    rw [sp.2.1, p4]
    refine bnd (aR_s (by rw [sp1.2.2.1]; exact p5) (by omega) (by rw [sp1.2.2.2, p6]; omega)) ?_
    rw [Int.toNat_natCast, sp1.2.1, ← ek]
    refine bnd (gR_s (by rw [sA0.2.2.1]; exact Q.2.2.1)) ?_
    rw [sA0.2.1, kb]
    refine bnd (gR_s c4) ?_
    rw [c5]
    refine bnd (aR_s c6 (by omega) (by rw [c7]; omega)) ?_
    rw [Int.toNat_natCast, d1]
    have fin : c140_j89 (P + 2 + 13 * i) v (i : Int) hX = some (.inl (((i + 1 : Nat) : Int), hZ)) := by
      unfold c140_j89
      refine bnd (pR_s d2.1.2.2.1) ?_
      rw [wadd_n (by omega), ← eZ]
    rcases WF_up W ⟨i0, im⟩ with e | ⟨u0, u1⟩
    · rw [e, kd_m]
      refine bnd hnul_0 ?_
      refine (if_pos rfl).trans ?_
      rw [e, kd_m] at hv
      rw [← hv]
      exact fin
    · obtain ⟨Qu, ⟨n1, -, -⟩, -⟩ := P3 _ u0 u1
      have hQu := Qu.2.1
      have sU := c3 (kd h p (wg t 0 (i : Int) 1)) (by omega)
      refine bnd (hnul_8 (by have := Qu.1; omega)) ?_
      refine (if_neg (by decide)).trans ?_
      refine bnd (gI_s (by rw [sU.2.2.1]; exact Qu.2.2.1)) ?_
      refine bnd (kT_s c4) ?_
      rw [sU.1, n1]
      refine bnd (c47_r (g := fun j => wg t 0 (j : Int) 0) c4 c5 c6 c7 c8 hm (fun j hj => ?_) _) ?_
      · obtain ⟨y1, y2⟩ := c9 j hj
        rw [y1]
        exact ⟨y2.1.2.2.1, by rw [y2.2.1.1]; exact (P3 (j : Int) (by omega) (by omega)).2.1.1⟩
      · obtain ⟨U, hU⟩ : ∃ U : Nat, wg t 0 (i : Int) 1 = (U : Int) := ⟨(wg t 0 (i : Int) 1).toNat, by omega⟩
        have e1 : ix (fun j : Nat => wg t 0 (j : Int) 0) (wg t 0 (wg t 0 (i : Int) 1) 0) m = wg t 0 (i : Int) 1 := by
          rw [hU]
          exact ix_at (g := fun j : Nat => wg t 0 (j : Int) 0) (u := U) (by omega) (fun i j i1 j1 e => by have := P4 (i : Int) (j : Int) (by omega) (by omega) (by omega) (by omega) e; omega)
        rw [e1, ← hv]
        exact fin
end CPY2
