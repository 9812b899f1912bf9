/-! a patch is made: the creatures become what they were carried to; on the other side those without a kind die -/
/-- so far taken over -/
def CPq (h0 : hS) (i : Nat) (h : hS) : Prop := (hJ h = hJ h0 ∧ hT h = hT h0 ∧ hL h = hL h0 ∧ hN h = hN h0 ∧ hM h = hM h0) ∧ (∀ x j, ¬ (215 ≤ x ∧ x < 375 ∧ (x - 215) % 4 = 0 ∧ j = 2) → hR h x j = hR h0 x j) ∧ (∀ x j, ¬ (215 ≤ x ∧ x < 375 ∧ ¬ ((x - 215) % 4 = 0 ∧ j ≠ 1)) → hI h x j = hI h0 x j) ∧ ∀ c, c < i → hR h (215 + 4 * c) 2 = hR h0 (53 + 4 * c) 2 ∧ hI h (215 + 4 * c) 1 = hI h0 (53 + 4 * c) 1 ∧ ∀ n, n < 40 → hI h (216 + 4 * c) n = hI h0 (54 + 4 * c) n ∧ hI h (217 + 4 * c) n = hI h0 (55 + 4 * c) n ∧ hI h (218 + 4 * c) n = hI h0 (56 + 4 * c) n
/-- creature c has no kind any more -/
def gnq (t0 : hS) (c : Nat) : Prop := hI t0 403 c ≠ 0 ∧ hI t0 446 c = -1
/-- the long acts of creature c end -/
def LDq (t0 t : hS) (c : Nat) (i : Nat) : Prop := fp (fun x _ => x = 423 ∨ x = 431) t0 t ∧ (∀ l, l < i → ((hI t0 423 l ≠ 0 ∧ hI t0 426 l = (c : Int)) → hI t 423 l = 0 ∧ hI t 431 l = 3) ∧ (¬ (hI t0 423 l ≠ 0 ∧ hI t0 426 l = (c : Int)) → hI t 423 l = hI t0 423 l ∧ hI t 431 l = hI t0 431 l)) ∧ ∀ l, i ≤ l → hI t 423 l = hI t0 423 l ∧ hI t 431 l = hI t0 431 l
/-- those below i without a kind have died -/
def DYq (t0 t : hS) (i : Nat) : Prop := fp (fun x _ => x = 403 ∨ x = 423 ∨ x = 431) t0 t ∧ (∀ c, (c < i ∧ gnq t0 c → hI t 403 c = 0) ∧ (¬ (c < i ∧ gnq t0 c) → hI t 403 c = hI t0 403 c)) ∧ ∀ l, ((l < 10 ∧ hI t0 423 l ≠ 0 ∧ ∃ c, c < i ∧ gnq t0 c ∧ hI t0 426 l = (c : Int)) → hI t 423 l = 0 ∧ hI t 431 l = 3) ∧ (¬ (l < 10 ∧ hI t0 423 l ≠ 0 ∧ ∃ c, c < i ∧ gnq t0 c ∧ hI t0 426 l = (c : Int)) → hI t 423 l = hI t0 423 l ∧ hI t 431 l = hI t0 431 l)
section TKN
variable {h h' h0 t t' t0 t1 : hS} {q c : Nat}
theorem c139_96 (F : ∀ c, c < 40 → (hR h0 19 c = 215 + 4 * c ∧ hR h0 49 c = 53 + 4 * c) ∧ SHc h0 (215 + 4 * c) c ∧ SHc h0 (53 + 4 * c) c ∧ (hI h0 (53 + 4 * c) 1 = 0 ∨ hI h0 (53 + 4 * c) 1 = 1) ∧ ∀ n, n < 40 → hI h0 (55 + 4 * c) n = 0 ∨ hI h0 (55 + 4 * c) n = 1) : ∀ (D i N : Nat) (h : hS), i + D = 40 → D < N → CPq h0 i h → ∃ h', lp (fun s => c139_b96 s.1 s.2) N ((i : Int), h) = some h' ∧ CPq h0 40 h'
  | 0, i, N, h, hi, hN', C => by
    obtain ⟨N, rfl⟩ : ∃ n, N = n + 1 := ⟨N - 1, by omega⟩
    obtain rfl : i = 40 := by omega
    refine ⟨h, lp_d ?_, C⟩
    show c139_b96 ((40 : Nat) : Int) h = _
    unfold c139_b96
    rw [if_pos (by omega)]
  | D + 1, i, N, h, hi, hN', C => by
    obtain ⟨N, rfl⟩ : ∃ n, N = n + 1 := ⟨N - 1, by omega⟩
    obtain ⟨⟨c1, c2, c3, c4, c5⟩, c6, c7, c8⟩ := id C
    have i40 : i < 40 := by omega
    obtain ⟨⟨r19, r49⟩, ⟨s1, s2, s3, s4, s5, s6, s7⟩, ⟨f1, f2, f3, f4, f5, f6, f7⟩, lv, bl⟩ := F i i40
    have tT : ∀ x, hT h x = hT h0 x := fun x => by rw [c2]
    have tL : ∀ x, hL h x = hL h0 x := fun x => by rw [c3]
    have SA : SHc h (215 + 4 * i) i := ⟨by rw [tT]; exact s1, by rw [c6 _ _ (by omega)]; exact s2, by rw [c6 _ _ (by omega)]; exact s3, by rw [c6 _ _ (by omega)]; exact s4, by rw [tT, tT, tT]; exact s5, by rw [tL, tL, tL]; exact s6, by rw [c7 _ _ (by omega)]; exact s7⟩
    have SB : SHc h (53 + 4 * i) i := ⟨by rw [tT]; exact f1, by rw [c6 _ _ (by omega)]; exact f2, by rw [c6 _ _ (by omega)]; exact f3, by rw [c6 _ _ (by omega)]; exact f4, by rw [tT, tT, tT]; exact f5, by rw [tL, tL, tL]; exact f6, by rw [c7 _ _ (by omega)]; exact f7⟩
    obtain ⟨h4, a1, b0, b2, b3, b4, b5, b6⟩ := c154_e SA SB (by omega) (by omega) (by omega) (by rw [c7 _ _ (by omega)]; exact lv) (fun n hn => by rw [c7 _ _ (by omega), show 53 + 4 * i + 2 = 55 + 4 * i by omega]; exact bl n hn)
    have C' : CPq h0 (i + 1) h4 := by
      refine ⟨⟨b0.1.trans c1, b0.2.1.trans c2, b0.2.2.1.trans c3, b0.2.2.2.1.trans c4, b0.2.2.2.2.trans c5⟩, fun x j hx => by rw [b2 x j (by omega)]; exact c6 x j hx, fun x j hx => by rw [b3 x j (by omega)]; exact c7 x j hx, fun c hc => ?_⟩
      by_cases z : c = i
      · subst z
        refine ⟨by rw [b4, c6 _ _ (by omega)], by rw [b5, c7 _ _ (by omega)], fun n hn => ?_⟩
        obtain ⟨w1, w2, w3⟩ := b6 n hn
        rw [show 53 + 4 * c + 1 = 54 + 4 * c by omega, show 215 + 4 * c + 1 = 216 + 4 * c by omega] at w1
        rw [show 53 + 4 * c + 2 = 55 + 4 * c by omega, show 215 + 4 * c + 2 = 217 + 4 * c by omega] at w2
        rw [show 53 + 4 * c + 3 = 56 + 4 * c by omega, show 215 + 4 * c + 3 = 218 + 4 * c by omega] at w3
        rw [w1, w2, w3, c7 _ _ (by omega), c7 _ _ (by omega), c7 _ _ (by omega)]
        exact ⟨rfl, rfl, rfl⟩
      · obtain ⟨d1, d2, d3⟩ := c8 c (by omega)
        refine ⟨by rw [b2 _ _ (by omega)]; exact d1, by rw [b3 _ _ (by omega)]; exact d2, fun n hn => ?_⟩
        rw [b3 _ _ (by omega), b3 _ _ (by omega), b3 _ _ (by omega)]
        exact d3 n hn
    obtain ⟨h', y1, y2⟩ := c139_96 F D (i + 1) N h4 (by omega) (by omega) C'
    refine ⟨h', (lp_n (s' := (((i + 1 : Nat) : Int), h4)) ?_).trans y1, y2⟩
    show c139_b96 (i : Int) h = _
    unfold c139_b96
    rw [if_neg (by omega)]
    refine bnd (show aRs h 19 40 (i : Int) = some (215 + 4 * i) by rw [aRs_s (by omega) (by omega), Int.toNat_natCast, c6 19 i (by omega), r19]) ?_
    refine bnd (show aRs h 49 40 (i : Int) = some (53 + 4 * i) by rw [aRs_s (by omega) (by omega), Int.toNat_natCast, c6 49 i (by omega), r49]) ?_
    refine bnd (kT_s (by rw [tT]; exact s1)) ?_
    refine bnd a1 ?_
    rw [wadd_n (by omega)]
theorem c290_9 : ∀ (D i N : Nat) (t : hS), i + D = 10 → D < N → LDq t0 t c i → ∃ t', lp (fun s => c290_b9 (c : Int) s.1 s.2) N ((i : Int), t) = some t' ∧ LDq t0 t' c 10
  | 0, i, N, t, hi, hN', C => by
    obtain ⟨N, rfl⟩ : ∃ n, N = n + 1 := ⟨N - 1, by omega⟩
    obtain rfl : i = 10 := by omega
    refine ⟨t, lp_d ?_, C⟩
    show c290_b9 (c : Int) ((10 : Nat) : Int) t = _
    unfold c290_b9
    rw [if_pos (by omega)]
  | D + 1, i, N, t, hi, hN', C => by
    obtain ⟨N, rfl⟩ : ∃ n, N = n + 1 := ⟨N - 1, by omega⟩
    obtain ⟨c1, c2, c3⟩ := id C
    have i10 : i < 10 := by omega
    obtain ⟨e3, e1⟩ := c3 i (Nat.le_refl _)
    have e6 : hI t 426 i = hI t0 426 i := c1.2 426 i (by omega)
    have j51 : ∀ tA, c290_j51 (i : Int) tA = some (.inl (((i + 1 : Nat) : Int), tA)) := fun tA => by
      unfold c290_j51
      rw [wadd_n (by omega)]
    by_cases g : hI t0 423 i ≠ 0 ∧ hI t0 426 i = (c : Int)
    · obtain ⟨ta, ea⟩ : ∃ ta, ta = sI t 423 i (wbol 0) := ⟨_, rfl⟩
      obtain ⟨tb, eb⟩ : ∃ tb, tb = sI ta 431 i 3 := ⟨_, rfl⟩
      have o : ∀ x j, ¬ ((x = 423 ∨ x = 431) ∧ j = i) → hI tb x j = hI t x j := fun x j hx => by rw [eb, hI_sI, if_neg (by omega), ea, hI_sI, if_neg (by omega)]
      have C' : LDq t0 tb c (i + 1) := by
        refine ⟨fp_tr c1 ⟨by rw [eb, ea]; rfl, fun x j hx => o x j (by omega)⟩, fun l hl => ?_, fun l hl => by rw [o 423 l (by omega), o 431 l (by omega)]; exact c3 l (by omega)⟩
        by_cases z : l = i
        · subst z
          refine ⟨fun _ => ⟨by rw [eb, hI_sI, if_neg (by omega), ea, hI_sI, if_pos ⟨rfl, rfl⟩]; rfl, by rw [eb, hI_sI, if_pos ⟨rfl, rfl⟩]⟩, fun w => absurd g w⟩
        · rw [o 423 l (by omega), o 431 l (by omega)]
          exact c2 l (by omega)
      obtain ⟨t', y1, y2⟩ := c290_9 D (i + 1) N tb (by omega) (by omega) C'
      refine ⟨t', (lp_n (s' := (((i + 1 : Nat) : Int), tb)) ?_).trans y1, y2⟩
      show c290_b9 (c : Int) (i : Int) t = _
      unfold c290_b9
      rw [if_neg (by omega)]
      refine bnd (aIs_s (by omega) (by omega)) ?_
      rw [Int.toNat_natCast, e3, if_neg g.1]
      refine bnd (aIs_s (by omega) (by omega)) ?_
      rw [Int.toNat_natCast, e6, if_pos g.2]
      refine bnd ((wIs_s (by omega) (by omega)).trans (congrArg some (show sI t 423 ((i : Int)).toNat (wbol 0) = ta by rw [Int.toNat_natCast]; exact ea.symm))) ?_
      refine bnd ((wIs_s (by omega) (by omega)).trans (congrArg some (show sI ta 431 ((i : Int)).toNat 3 = tb by rw [Int.toNat_natCast]; exact eb.symm))) ?_
      exact j51 tb
    · have C' : LDq t0 t c (i + 1) := by
        refine ⟨c1, fun l hl => ?_, fun l hl => c3 l (by omega)⟩
        by_cases z : l = i
        · subst z
          exact ⟨fun w => absurd w g, fun _ => ⟨e3, e1⟩⟩
        · exact c2 l (by omega)
      obtain ⟨t', y1, y2⟩ := c290_9 D (i + 1) N t (by omega) (by omega) C'
      refine ⟨t', (lp_n (s' := (((i + 1 : Nat) : Int), t)) ?_).trans y1, y2⟩
      show c290_b9 (c : Int) (i : Int) t = _
      unfold c290_b9
      rw [if_neg (by omega)]
      refine bnd (aIs_s (by omega) (by omega)) ?_
      rw [Int.toNat_natCast, e3]
      by_cases z : hI t0 423 i = 0
      · rw [if_pos z]
        exact j51 t
      · rw [if_neg z]
        refine bnd (aIs_s (by omega) (by omega)) ?_
        rw [Int.toNat_natCast, e6, if_neg (fun w => g ⟨z, w⟩)]
        exact j51 t
theorem c290_e (c40 : c < 40) : ∃ t1 t', t1 = sI t 403 c 0 ∧ c290 (c : Int) t = some t' ∧ LDq t1 t' c 10 := by
  obtain ⟨t', a1, a2⟩ := c290_9 (t0 := sI t 403 c 0) (c := c) 10 0 hF0 (sI t 403 c 0) (by omega) (hF0_lt (by omega)) ⟨fp_rf, fun l hl => by omega, fun l _ => ⟨rfl, rfl⟩⟩
  refine ⟨_, t', rfl, ?_, a2⟩
  unfold c290
  refine bnd ((wIs_s (by omega) (by omega)).trans (congrArg some (show sI t 403 ((c : Int)).toNat (wbol 0) = sI t 403 c 0 by rw [Int.toNat_natCast]; rfl))) ?_
  refine bnd a1 ?_
  rfl
theorem DY_no {i : Nat} (C : DYq t0 t i) (g : ¬ gnq t0 i) : DYq t0 t (i + 1) := by
  obtain ⟨c1, c2, c3⟩ := C
  refine ⟨c1, fun c => ⟨fun y => (c2 c).1 ⟨?_, y.2⟩, fun y => (c2 c).2 (fun w => y ⟨by omega, w.2⟩)⟩, fun l => ⟨fun y => (c3 l).1 ?_, fun y => (c3 l).2 (fun w => y ?_)⟩⟩
  · have : c ≠ i := fun z => g (z ▸ y.2)
    omega
  · obtain ⟨y1, y2, a, y3, y4, y5⟩ := y
    have : a ≠ i := fun z => g (z ▸ y4)
    exact ⟨y1, y2, a, by omega, y4, y5⟩
  · obtain ⟨y1, y2, a, y3, y4, y5⟩ := w
    exact ⟨y1, y2, a, by omega, y4, y5⟩
theorem DY_ye {i : Nat} (C : DYq t0 t i) (i40 : i < 40) (g : gnq t0 i) (e : t1 = sI t 403 i 0) (L : LDq t1 t' i 10) : DYq t0 t' (i + 1) := by
  obtain ⟨c1, c2, c3⟩ := C
  obtain ⟨l1, l2, l3⟩ := L
  have o1 : ∀ x j, ¬ (x = 403 ∧ j = i) → hI t1 x j = hI t x j := fun x j hx => by rw [e, hI_sI, if_neg hx]
  refine ⟨fp_tr c1 (fp_tr (show fp (fun x _ => x = 403 ∨ x = 423 ∨ x = 431) t t1 from ⟨by rw [e]; rfl, fun x j hx => o1 x j (by omega)⟩) ⟨l1.1, fun x j hx => l1.2 x j (by omega)⟩), fun c => ?_, fun l => ?_⟩
  · rw [l1.2 403 c (by omega)]
    by_cases z : c = i
    · subst z
      refine ⟨fun _ => by rw [e, hI_sI, if_pos ⟨rfl, rfl⟩], fun w => absurd ⟨by omega, g⟩ w⟩
    · rw [o1 403 c (by omega)]
      exact ⟨fun y => (c2 c).1 ⟨by omega, y.2⟩, fun y => (c2 c).2 (fun w => y ⟨by omega, w.2⟩)⟩
  · have e3 : hI t1 423 l = hI t 423 l := o1 423 l (by omega)
    have e31 : hI t1 431 l = hI t 431 l := o1 431 l (by omega)
    have e6 : hI t1 426 l = hI t0 426 l := by rw [o1 426 l (by omega), c1.2 426 l (by omega)]
    by_cases l10 : l < 10
    · obtain ⟨d1, d2⟩ := l2 l l10
      rw [e3, e6] at d1 d2
      rw [e31] at d2
      by_cases b : l < 10 ∧ hI t0 423 l ≠ 0 ∧ ∃ c, c < i ∧ gnq t0 c ∧ hI t0 426 l = (c : Int)
      · obtain ⟨z1, z2⟩ := (c3 l).1 b
        obtain ⟨w1, w2⟩ := d2 (fun w => w.1 z1)
        refine ⟨fun _ => ⟨w1.trans z1, w2.trans z2⟩, fun w => absurd ?_ w⟩
        obtain ⟨b1, b2, a, b3, b4, b5⟩ := b
        exact ⟨b1, b2, a, by omega, b4, b5⟩
      · obtain ⟨z1, z2⟩ := (c3 l).2 b
        rw [z1] at d1 d2
        rw [z2] at d2
        by_cases y : hI t0 423 l ≠ 0 ∧ hI t0 426 l = (i : Int)
        · exact ⟨fun _ => d1 y, fun w => absurd ⟨l10, y.1, i, by omega, g, y.2⟩ w⟩
        · refine ⟨fun w => ?_, fun _ => d2 y⟩
          obtain ⟨w1, w2, a, w3, w4, w5⟩ := w
          by_cases az : a = i
          · subst az
            exact absurd ⟨w2, w5⟩ y
          · exact absurd ⟨w1, w2, a, by omega, w4, w5⟩ b
    · obtain ⟨d1, d2⟩ := l3 l (by omega)
      refine ⟨fun w => by have := w.1; omega, fun _ => ?_⟩
      obtain ⟨z1, z2⟩ := (c3 l).2 (fun w => by have := w.1; omega)
      exact ⟨d1.trans (e3.trans z1), d2.trans (e31.trans z2)⟩
theorem c283_515 (e33 : hI t0 395 33 = (q : Int)) (q40 : q ≤ 40) : ∀ (D i N : Nat) (t : hS), i + D = q → D < N → DYq t0 t i → ∃ t', lp (fun s => c283_b515 s.1 s.2) N ((i : Int), t) = some t' ∧ DYq t0 t' q
  | 0, i, N, t, hi, hN', C => by
    obtain ⟨N, rfl⟩ : ∃ n, N = n + 1 := ⟨N - 1, by omega⟩
    obtain rfl : i = q := by omega
    refine ⟨t, lp_d ?_, C⟩
    show c283_b515 (i : Int) t = _
    unfold c283_b515
    rw [C.1.2 395 33 (by omega), e33, if_pos (by omega)]
  | D + 1, i, N, t, hi, hN', C => by
    obtain ⟨N, rfl⟩ : ∃ n, N = n + 1 := ⟨N - 1, by omega⟩
    have i40 : i < 40 := by omega
    have e403 : hI t 403 i = hI t0 403 i := (C.2.1 i).2 (fun w => by have := w.1; omega)
    have e446 : hI t 446 i = hI t0 446 i := C.1.2 446 i (by omega)
    have j547 : ∀ tA, c283_j547 (i : Int) tA = some (.inl (((i + 1 : Nat) : Int), tA)) := fun tA => by
      unfold c283_j547
      rw [wadd_n (by omega)]
    by_cases g : gnq t0 i
    · obtain ⟨t1, t2, et, a1, a2⟩ := c290_e (t := t) (c := i) i40
      obtain ⟨t', y1, y2⟩ := c283_515 e33 q40 D (i + 1) N t2 (by omega) (by omega) (DY_ye C i40 g et a2)
      refine ⟨t', (lp_n (s' := (((i + 1 : Nat) : Int), t2)) ?_).trans y1, y2⟩
      show c283_b515 (i : Int) t = _
      unfold c283_b515
      rw [C.1.2 395 33 (by omega), e33, if_neg (by omega)]
      refine bnd (aIs_s (by omega) (by omega)) ?_
      rw [Int.toNat_natCast, e403, if_neg g.1]
      refine bnd (aIs_s (by omega) (by omega)) ?_
      rw [Int.toNat_natCast, e446, if_pos g.2]
      refine bnd a1 ?_
      exact j547 t2
    · obtain ⟨t', y1, y2⟩ := c283_515 e33 q40 D (i + 1) N t (by omega) (by omega) (DY_no C g)
      refine ⟨t', (lp_n (s' := (((i + 1 : Nat) : Int), t)) ?_).trans y1, y2⟩
      show c283_b515 (i : Int) t = _
      unfold c283_b515
      rw [C.1.2 395 33 (by omega), e33, if_neg (by omega)]
      refine bnd (aIs_s (by omega) (by omega)) ?_
      rw [Int.toNat_natCast, e403]
      by_cases z : hI t0 403 i = 0
      · rw [if_pos z]
        exact j547 t
      · rw [if_neg z]
        refine bnd (aIs_s (by omega) (by omega)) ?_
        rw [Int.toNat_natCast, e446, if_neg (fun w => g ⟨z, w⟩)]
        exact j547 t
end TKN
