/-! call 27: back: one creature is brought back -/
/-- what changes in the class as creature c is brought back -/
def bkC (c : Nat) (h h' : hS) : Prop := (hJ h' = hJ h ∧ hT h' = hT h ∧ hL h' = hL h ∧ hN h' = hN h ∧ hM h' = hM h) ∧ (∀ x j, ¬ ((x = 53 + 4 * c ∨ x = 215 + 4 * c) ∧ j = 2) → hR h' x j = hR h x j) ∧ ∀ x j, ¬ (x = 52 ∨ (53 + 4 * c ≤ x ∧ x ≤ 56 + 4 * c ∧ ¬ (x = 53 + 4 * c ∧ j ≠ 1)) ∨ (215 + 4 * c ≤ x ∧ x ≤ 218 + 4 * c ∧ ¬ (x = 215 + 4 * c ∧ j ≠ 1))) → hI h' x j = hI h x j
/-- the value that field n of the former kind gets, in the class and in the other side -/
def bvr (h t : hS) (m : Nat) (old k : Int) (c n : Nat) : Int := if goB t 1 m old k n 40 = -1 then (if hI h (217 + 4 * c) n = 0 then wg t 1 (fAt t 1 old n) (14 + fIx t 1 (fAt t 1 old n) n) else hI h (218 + 4 * c) n) else hI h (216 + 4 * c) (goB t 1 m old k n 40).toNat
def bvt (t : hS) (m : Nat) (old k : Int) (c n : Nat) : Int := if goB t 2 m old k n 40 = -1 then (if hI t 407 (40 * c + n) = 0 then wg t 2 (fAt t 2 old n) (14 + fIx t 2 (fAt t 2 old n) n) else hI t 406 (40 * c + n)) else hI t 405 (40 * c + (goB t 2 m old k n 40).toNat)
/-- the other side: so far worked out -/
def C3q (t : hS) (m : Nat) (old k : Int) (c i : Nat) (tt : hS) : Prop := fp (fun x _ => x = 440 ∨ x = 442) t tt ∧ ∀ n : Nat, n < i → (fAt t 2 old n ≠ -1 → hI tt 442 n = 1 ∧ hI tt 440 n = bvt t m old k c n) ∧ (fAt t 2 old n = -1 → hI tt 442 n = 0)
/-- the other side: so far written -/
def C4q (t : hS) (c i : Nat) (tt : hS) : Prop := fp (fun x j => x = 405 ∧ 40 * c ≤ j ∧ j < 40 * c + 40) t tt ∧ ∀ n : Nat, n < 40 → ((n < i ∧ hI t 442 n ≠ 0) → hI tt 405 (40 * c + n) = hI t 440 n) ∧ (¬ (n < i ∧ hI t 442 n ≠ 0) → hI tt 405 (40 * c + n) = hI t 405 (40 * c + n))
section BK3
variable {h h0 g0 h' t tt t' : hS} {K : Nat → Int → Prop} {p P m m0 len c a : Nat} {r r0 : Int → Nat} {k old u s : Int}
theorem BSq_g (B : BSq h t K p P m m0 r r0) (en : hN h ≤ hN h') (e : ∀ x, (x = 213 ∨ x = 214 ∨ 448 ≤ x) → sm h h' x) : BSq h' t K p P m m0 r r0 ∧ (∀ v, kd h' P v = kd h P v) ∧ ∀ v, kd h' p v = kd h p v := by
  obtain ⟨Pb, Pa, Cb, Ca, F, Og, hP, hp⟩ := B
  have kk : ∀ {q : Nat}, (q = 213 ∨ 448 ≤ q) → ∀ v, kd h' q v = kd h q v := fun {q} hq v => by
    unfold kd
    split
    · rfl
    · exact (e (q + 1) (by omega)).2.1 _
  refine ⟨⟨PW_l2 Pb (e P (by omega)) (e (P + 1) (by omega)) (fun j j0 j1 o _ => e _ (by have := kd_8 Pb j0 j1; omega)) en (fun _ _ _ _ _ _ => rfl) rfl, PW_l2 Pa (e p (by omega)) (e (p + 1) (by omega)) (fun j j0 j1 o _ => e _ (by have := kd_8 Pa j0 j1; omega)) en (fun _ _ _ _ _ _ => rfl) rfl, Cb, Ca, fun j j0 j1 i hi => ?_, Og, hP, hp⟩, kk hP, kk hp⟩
  have := kd_8 Pb j0 j1
  rw [kk hP, (e _ (by omega)).1]
  exact F j j0 j1 i hi
theorem h2_J (e : h'.2 = h.2) : hJ h' = hJ h := by show h'.2.2.1 = h.2.2.1; rw [e]
theorem goB_n {a : Int} {i : Nat} : goB t a m old k s (i + 1) = if fAt t 0 k i ≠ -1 ∧ SRC t 0 a m old (fAt t 0 k i) i = s then (i : Int) else goB t a m old k s i := rfl
theorem SHc_g {d : Nat} (S : SHc h a d) (eT : hT h' = hT h) (eL : hL h' = hL h) (eR : ∀ j, j ≠ 2 → hR h' a j = hR h a j) (e0 : hI h' a 0 = hI h a 0) : SHc h' a d := by
  obtain ⟨a1, a2, a3, a4, a5, a6, a7⟩ := S
  exact ⟨by rw [eT]; exact a1, by rw [eR 3 (by omega)]; exact a2, by rw [eR 4 (by omega)]; exact a3, by rw [eR 5 (by omega)]; exact a4, by rw [eT]; exact a5, by rw [eL]; exact a6, by rw [e0]; exact a7⟩
theorem c180_e (B : BSq h t K p P m m0 r r0) (SO : SHc h (215 + 4 * c) c) (SF : SHc h (53 + 4 * c) c) (c40 : c < 40) (T52 : hT h 52 = 1 ∧ hL h 52 = 40) (lv : hI h (215 + 4 * c) 1 = 1) (bl : ∀ n : Nat, n < 40 → hI h (217 + 4 * c) n = 0 ∨ hI h (217 + 4 * c) n = 1) (ho : 0 ≤ old ∧ old < m0) (hk : 0 ≤ k ∧ k < m) (ek : hR h (215 + 4 * c) 2 = kd h P k) : ∃ h', c180 (215 + 4 * c) (53 + 4 * c) (kd h p old) P h = some h' ∧ bkC c h h' ∧ hR h' (215 + 4 * c) 2 = kd h p old ∧ hI h' (215 + 4 * c) 1 = 1 ∧ ∀ n : Nat, n < 40 → (fAt t 1 old n ≠ -1 → hI h' (216 + 4 * c) n = bvr h t m old k c n) ∧ hI h' (217 + 4 * c) n = hI h (217 + 4 * c) n ∧ hI h' (218 + 4 * c) n = hI h (218 + 4 * c) n := by
  have w2 : 215 + 4 * c + 2 = 217 + 4 * c := by omega
  have w1 : 215 + 4 * c + 1 = 216 + 4 * c := by omega
  have w3 : 215 + 4 * c + 3 = 218 + 4 * c := by omega
  have y1 : 53 + 4 * c + 1 = 54 + 4 * c := by omega
  have y2 : 53 + 4 * c + 2 = 55 + 4 * c := by omega
  have y3 : 53 + 4 * c + 3 = 56 + 4 * c := by omega
  obtain ⟨h1, e1, ⟨b1, b2, b3, b4, b5⟩, c2, c3, c4, c5, c6⟩ := c154_e (a := 53 + 4 * c) (b := 215 + 4 * c) SF SO (by omega) (by omega) (by omega) (.inr lv) (by rw [w2]; exact bl)
  rw [y1, y2, y3, w1, w2, w3] at c6
  obtain ⟨h2, e2⟩ : ∃ h2, h2 = sR h1 (53 + 4 * c) 2 (kd h p old) := ⟨_, rfl⟩
  have i2 : ∀ x j, hI h2 x j = hI h1 x j := fun x j => by rw [e2, hI_sR]
  have r2 : ∀ x j, ¬ (x = 53 + 4 * c ∧ j = 2) → hR h2 x j = hR h x j := fun x j hx => by rw [e2, hR_sR, if_neg hx, c2 x j hx]
  have T2 : hT h2 = hT h := by rw [e2]; exact b2
  have L2 : hL h2 = hL h := by rw [e2]; exact b3
  obtain ⟨h3, e3, f3, g3⟩ := c156_e (h0 := h2) (by rw [T2, L2]; exact T52)
  have i3 : ∀ x j, x ≠ 52 → hI h3 x j = hI h1 x j := fun x j hx => by rw [f3.2 x j hx, i2]
  have r3 : ∀ x j, ¬ (x = 53 + 4 * c ∧ j = 2) → hR h3 x j = hR h x j := fun x j hx => by rw [h2_R f3.1, r2 x j hx]
  have T3 : hT h3 = hT h := by have := h2_T f3.1; funext x; rw [this, T2]
  have L3 : hL h3 = hL h := by have := h2_L f3.1; funext x; rw [this, L2]
  have s3 : ∀ x, (x = 213 ∨ x = 214 ∨ 448 ≤ x) → sm h h3 x := fun x hx => ⟨fun j => by rw [i3 x j (by omega), c3 x j (by omega)], fun j => r3 x j (by omega), by rw [T3], by rw [L3]⟩
  have N3 : hN h3 = hN h := by rw [h2_N f3.1, e2]; exact b4
  obtain ⟨B3, k3P, k3p⟩ := BSq_g B (Nat.le_of_eq N3.symm) s3
  obtain ⟨h4, e4, f4, g4⟩ := gb_e B3 ho hk g3
  rw [k3P, k3p] at e4
  have B4 := BSq_f B3 f4 (fun x j hx => by omega)
  have k4p : ∀ v, kd h4 p v = kd h p v := fun v => (kd_2 f4.1 v).trans (k3p v)
  have T4 : hT h4 = hT h := by have := h2_T f4.1; funext x; rw [this, T3]
  have L4 : hL h4 = hL h := by have := h2_L f4.1; funext x; rw [this, L3]
  have i4 : ∀ x j, x ≠ 52 → hI h4 x j = hI h1 x j := fun x j hx => by rw [f4.2 x j hx, i3 x j hx]
  have r4 : ∀ x j, hR h4 x j = hR h3 x j := fun x j => h2_R f4.1 x j
  have SO4 : SHc h4 (215 + 4 * c) c := SHc_g SO T4 L4 (fun j hj => by rw [r4, r3 _ j (by omega)]) (by rw [i4 _ 0 (by omega), c3 _ 0 (by omega)])
  have SF4 : SHc h4 (53 + 4 * c) c := SHc_g SF T4 L4 (fun j hj => by rw [r4, r3 _ j (by omega)]) (by rw [i4 _ 0 (by omega), c3 _ 0 (by omega)])
  have q52 : ∀ s, s < 40 → hI h4 52 s = -1 ∨ (0 ≤ hI h4 52 s ∧ hI h4 52 s < 40) := fun s hs => by
    rw [g4 s hs]
    rcases goB_c t 1 m old k s 40 with ⟨z, -⟩ | ⟨x, z1, z2, -⟩
    · exact .inl z
    · rw [z2]; exact .inr ⟨by omega, by omega⟩
  obtain ⟨h5, e5, f5, g5⟩ := lb_e (g0 := h4) B4.2.1 B4.2.2.2.1 SO4 SF4 c40 q52 ho
  rw [k4p] at e5
  have T5 : hT h5 = hT h := by have := h2_T f5.1; funext x; rw [this, T4]
  have L5 : hL h5 = hL h := by have := h2_L f5.1; funext x; rw [this, L4]
  have i5 : ∀ x j, x ≠ 54 + 4 * c → hI h5 x j = hI h4 x j := fun x j hx => f5.2 x j hx
  have r5 : ∀ x j, hR h5 x j = hR h3 x j := fun x j => (h2_R f5.1 x j).trans (r4 x j)
  have SO5 : SHc h5 (215 + 4 * c) c := SHc_g SO4 (by rw [T5, T4]) (by rw [L5, L4]) (fun j hj => h2_R f5.1 _ j) (i5 _ 0 (by omega))
  have SF5 : SHc h5 (53 + 4 * c) c := SHc_g SF4 (by rw [T5, T4]) (by rw [L5, L4]) (fun j hj => h2_R f5.1 _ j) (i5 _ 0 (by omega))
  have lv5 : hI h5 (53 + 4 * c) 1 = 1 := by rw [i5 _ _ (by omega), i4 _ _ (by omega), c5]; exact lv
  have v55 : ∀ n, n < 40 → hI h5 (55 + 4 * c) n = hI h (217 + 4 * c) n ∧ hI h5 (56 + 4 * c) n = hI h (218 + 4 * c) n := fun n hn => by
    rw [i5 _ _ (by omega), i4 _ _ (by omega), i5 _ _ (by omega), i4 _ _ (by omega)]
    exact (c6 n hn).2
  obtain ⟨h6, e6, ⟨d1, d2, d3, d4, d5⟩, x2, x3, x4, x5, x6⟩ := c154_e (a := 215 + 4 * c) (b := 53 + 4 * c) SO5 SF5 (by omega) (by omega) (by omega) (.inr lv5) (fun n hn => by rw [y2, (v55 n hn).1]; exact bl n hn)
  rw [y1, y2, y3, w1, w2, w3] at x6
  refine ⟨h6, ?_, ⟨⟨by rw [d1, h2_J f5.1, h2_J f4.1, h2_J f3.1, e2]; exact b1, d2.trans T5, d3.trans L5, ?_, ?_⟩, fun x j hx => ?_, fun x j hx => ?_⟩, ?_, x5.trans lv5, fun n hn => ⟨fun z => ?_, ?_, ?_⟩⟩
  · unfold c180
    refine bnd (kT_s SF.1) ?_
    refine bnd e1 ?_
    refine bnd ((pR_s (by rw [b2]; exact SF.1)).trans (congrArg some e2.symm)) ?_
    refine bnd e3 ?_
    refine bnd (gR_s (by rw [T3]; exact SO.1)) ?_
    rw [r3 _ 2 (by omega), ek]
    refine bnd e4 ?_
    refine bnd e5 ?_
    refine bnd (kT_s (by rw [T5]; exact SO.1)) ?_
    refine bnd e6 ?_
    rfl
  · rw [d4, h2_N f5.1, h2_N f4.1]; exact N3
  · rw [d5, h2_M f5.1, h2_M f4.1, h2_M f3.1, e2]; exact b5
  · rw [x2 x j (by omega), r5, r3 x j (by omega)]
  · rw [x3 x j (by omega), i5 x j (by omega), i4 x j (by omega), c3 x j (by omega)]
  · rw [x4, r5, h2_R f3.1, e2, hR_sR, if_pos ⟨rfl, rfl⟩]
  · rw [(x6 n hn).1, (g5 n hn).1 z]
    unfold bvq bvr
    rw [g4 n hn, i4 (217 + 4 * c) n (by omega), c3 (217 + 4 * c) n (by omega), i4 (218 + 4 * c) n (by omega), c3 (218 + 4 * c) n (by omega), i4 (216 + 4 * c) _ (by omega), c3 (216 + 4 * c) _ (by omega)]
  · rw [(x6 n hn).2.1]; exact (v55 n hn).1
  · rw [(x6 n hn).2.2]; exact (v55 n hn).2
/-- the other side looks for the field that came from n -/
theorem c300_53 (W0 : WF t 0 m r) (W2 : WF t 2 m0 r0) (hk : 0 ≤ k ∧ k < m) (ho : 0 ≤ old ∧ old < m0) (f : fp (fun x _ => x = 440 ∨ x = 442) t tt) {n : Nat} : ∀ (D i N : Nat), i + D = 40 → D < N → lp (fun s => c300_b53 k old (n : Int) tt s.1 s.2) N (goB t 2 m old k n i, (i : Int)) = some (goB t 2 m old k n 40)
  | 0, i, N, hi, hN => by
    obtain ⟨N, rfl⟩ : ∃ n, N = n + 1 := ⟨N - 1, by omega⟩
    obtain rfl : i = 40 := by omega
    refine lp_d ?_
    show c300_b53 k old (n : Int) tt (goB t 2 m old k n 40) ((40 : Nat) : Int) = _
    unfold c300_b53
    rw [if_pos (by omega)]
  | D + 1, i, N, hi, hN => by
    obtain ⟨N, rfl⟩ : ∃ n, N = n + 1 := ⟨N - 1, by omega⟩
    have cT : cyT t tt := ⟨f.1, fun x j hx => f.2 x j (by omega)⟩
    have wz := wg_cy cT
    have fz : fAt tt 0 k i = fAt t 0 k i := fAt_cg (fun a b => by rw [wz]) k i
    have W0' := WF_cy W0 cT
    have W2' := WF_cy W2 cT
    refine (lp_n (s' := (goB t 2 m old k n (i + 1), ((i + 1 : Nat) : Int))) ?_).trans (c300_53 W0 W2 hk ho f D (i + 1) N (by omega) (by omega))
    show c300_b53 k old (n : Int) tt (goB t 2 m old k n i) (i : Int) = _
    unfold c300_b53 c300_j91
    rw [if_neg (by omega)]
    refine bnd (c237_w W0' (by omega) (by omega) (.inr hk)) ?_
    rw [fz]
    rw [goB_n]
    by_cases z : fAt t 0 k i = -1
    · rw [if_pos z, if_neg (fun y => y.1 z), wadd_n (by omega)]
    · rw [if_neg z]
      have e287 : c287 2 old 0 k i tt = some (SRC t 0 2 m old (fAt t 0 k i) i) := by
        rw [c287_e W0' (by omega) W2' (by omega) hk ho fz z, SRC_w wz]
      refine bnd e287 ?_
      by_cases y : SRC t 0 2 m old (fAt t 0 k i) i = (n : Int)
      · rw [if_pos y, if_pos ⟨z, y⟩, wadd_n (by omega)]
      · rw [if_neg y, if_neg (fun q => y q.2), wadd_n (by omega)]
theorem ew40 {c n : Nat} (c40 : c < 40) (n40 : n < 40) : wadd (wmul 40 (c : Int)) (n : Int) = ((40 * c + n : Nat) : Int) := by
  rw [wmul_e (by omega) (by omega), wadd_e (by omega) (by omega)]
  omega
/-- the other side works out the values -/
theorem c300_l1 (W0 : WF t 0 m r) (W2 : WF t 2 m0 r0) (c40 : c < 40) (hk : 0 ≤ k ∧ k < m) (ho : 0 ≤ old ∧ old < m0) : ∀ (D i N : Nat) (tt : hS), i + D = 40 → D < N → C3q t m old k c i tt → ∃ t', lp (fun s => c300_b3 (c : Int) k old s.1 s.2) N ((i : Int), tt) = some t' ∧ C3q t m old k c 40 t'
  | 0, i, N, tt, hi, hN, C => by
    obtain ⟨N, rfl⟩ : ∃ n, N = n + 1 := ⟨N - 1, by omega⟩
    obtain rfl : i = 40 := by omega
    refine ⟨tt, lp_d ?_, C⟩
    show c300_b3 (c : Int) k old ((40 : Nat) : Int) tt = _
    unfold c300_b3
    rw [if_pos (by omega)]
  | D + 1, i, N, tt, hi, hN, C => by
    obtain ⟨N, rfl⟩ : ∃ n, N = n + 1 := ⟨N - 1, by omega⟩
    obtain ⟨f, H⟩ := id C
    have i40 : i < 40 := by omega
    have cT : cyT t tt := ⟨f.1, fun x j hx => f.2 x j (by omega)⟩
    have wz := wg_cy cT
    have W2' := WF_cy W2 cT
    have fz : fAt tt 2 old i = fAt t 2 old i := fAt_cg (fun a b => by rw [wz]) old i
    have go : ∀ t1, C3q t m old k c (i + 1) t1 → c300_b3 (c : Int) k old (i : Int) tt = some (.inl (((i + 1 : Nat) : Int), t1)) → ∃ t', lp (fun s => c300_b3 (c : Int) k old s.1 s.2) (N + 1) ((i : Int), tt) = some t' ∧ C3q t m old k c 40 t' := fun t1 C1' e => by
      obtain ⟨t', y1, y2⟩ := c300_l1 W0 W2 c40 hk ho D (i + 1) N t1 (by omega) (by omega) C1'
      exact ⟨t', (lp_n (show (fun s : Int × hS => c300_b3 (c : Int) k old s.1 s.2) ((i : Int), tt) = _ from e)).trans y1, y2⟩
    have j184 : ∀ tA, c300_j184 (i : Int) tA = some (.inl (((i + 1 : Nat) : Int), tA)) := fun tA => by
      unfold c300_j184
      rw [wadd_n (by omega)]
    by_cases z : fAt t 2 old i = -1
    · obtain ⟨ta, ea⟩ : ∃ ta, ta = sI tt 442 i 0 := ⟨_, rfl⟩
      have fa : fp (fun x _ => x = 440 ∨ x = 442) tt ta := by rw [ea]; exact fp_sI (.inr rfl)
      refine go ta ⟨fp_tr f fa, fun n hn => ?_⟩ ?_
      · by_cases q : n = i
        · subst q
          exact ⟨fun y => absurd z y, fun _ => by rw [ea, hI_sI, if_pos ⟨rfl, rfl⟩]⟩
        · rw [ea, hI_sI, if_neg (by omega), hI_sI, if_neg (by omega)]
          exact H n (by omega)
      · unfold c300_b3
        rw [if_neg (by omega)]
        refine bnd (c237_w W2' (by omega) (by omega) (.inr ho)) ?_
        rw [fz, if_pos z]
        unfold c300_j33
        refine bnd ((wIs_s (by omega) (by omega)).trans (congrArg some (show sI tt 442 ((i : Int)).toNat (wbol 0) = ta by rw [Int.toNat_natCast]; exact ea.symm))) ?_
        refine bnd (aIs_s (by omega) (by omega)) ?_
        have e442 : hI ta 442 ((i : Int)).toNat = 0 := by rw [Int.toNat_natCast, ea, hI_sI, if_pos ⟨rfl, rfl⟩]
        rw [e442, if_pos rfl]
        exact j184 _
    · obtain ⟨ta, ea⟩ : ∃ ta, ta = sI tt 442 i 1 := ⟨_, rfl⟩
      obtain ⟨v, hv⟩ : ∃ v, bvt t m old k c i = v := ⟨_, rfl⟩
      obtain ⟨tb, eb⟩ : ∃ tb, tb = sI ta 440 i v := ⟨_, rfl⟩
      have fa : fp (fun x _ => x = 440 ∨ x = 442) tt ta := by rw [ea]; exact fp_sI (.inr rfl)
      have fb : fp (fun x _ => x = 440 ∨ x = 442) ta tb := by rw [eb]; exact fp_sI (.inl rfl)
      have fA := fp_tr f fa
      have cA : cyT t ta := ⟨fA.1, fun x j hx => fA.2 x j (by omega)⟩
      have wA := wg_cy cA
      have W2A := WF_cy W2 cA
      have fzA : fAt ta 2 old i = fAt t 2 old i := fAt_cg (fun a b => by rw [wA]) old i
      refine go tb ⟨fp_tr fA fb, fun n hn => ?_⟩ ?_
      · by_cases q : n = i
        · subst q
          exact ⟨fun _ => ⟨by rw [eb, hI_sI, if_neg (by omega), ea, hI_sI, if_pos ⟨rfl, rfl⟩], by rw [eb, hI_sI, if_pos ⟨rfl, rfl⟩]; exact hv.symm⟩, fun y => absurd y z⟩
        · rw [eb, hI_sI, if_neg (by omega), hI_sI, if_neg (by omega), ea, hI_sI, if_neg (by omega), hI_sI, if_neg (by omega)]
          exact H n (by omega)
      · have j183 : c300_j183 (i : Int) v (i : Int) ta = some (.inl (((i + 1 : Nat) : Int), tb)) := by
          unfold c300_j183
          refine bnd ((wIs_s (by omega) (by omega)).trans (congrArg some (show sI ta 440 ((i : Int)).toNat v = tb by rw [Int.toNat_natCast]; exact eb.symm))) ?_
          exact j184 _
        have ew := ew40 c40 i40
        obtain ⟨x0, x1⟩ : 0 ≤ fAt t 2 old i ∧ fAt t 2 old i < m0 := ((fAt_b (n := (i : Int)) W2 (.inr ho)).resolve_left z).1
        have hx2 := ((fAt_b (n := (i : Int)) W2 (.inr ho)).resolve_left z).2
        obtain ⟨f0, f1, -⟩ := fIx_lt W2 x0 x1 hx2
        have m12 := W2.2.1
        obtain ⟨-, -, w3, -, -⟩ := W2.2.2 _ x0 x1
        unfold c300_b3
        rw [if_neg (by omega)]
        refine bnd (c237_w W2' (by omega) (by omega) (.inr ho)) ?_
        rw [fz, if_neg z]
        unfold c300_j33
        refine bnd ((wIs_s (by omega) (by omega)).trans (congrArg some (show sI tt 442 ((i : Int)).toNat (wbol 1) = ta by rw [Int.toNat_natCast]; exact ea.symm))) ?_
        refine bnd (aIs_s (by omega) (by omega)) ?_
        have e442 : hI ta 442 ((i : Int)).toNat = 1 := by rw [Int.toNat_natCast, ea, hI_sI, if_pos ⟨rfl, rfl⟩]
        rw [e442, if_neg (by omega)]
        refine bnd (c300_53 W0 W2 hk ho fA 40 0 hF0 rfl (hF0_lt (by omega))) ?_
        refine bnd (c237_w W2A (by omega) (by omega) (.inr ho)) ?_
        rw [fzA]
        have v0 := hv
        unfold bvt at v0
        by_cases y : goB t 2 m old k i 40 = -1
        · rw [if_pos y] at v0 ⊢
          rw [ew]
          refine bnd (aIs_s (by omega) (by omega)) ?_
          rw [Int.toNat_natCast, fA.2 407 _ (by omega)]
          by_cases q : hI t 407 (40 * c + i) = 0
          · rw [if_pos q] at v0 ⊢
            refine bnd (c207_w W2A (by omega) (by omega) x0 x1) ?_
            have fi : fIx ta 2 (fAt t 2 old i) i = fIx t 2 (fAt t 2 old i) i := by unfold fIx; rw [wA]
            rw [fi, wadd_e (by omega) (by omega)]
            refine bnd (c199_e (by omega) (by omega) x0 (by omega) (by omega) (by omega)) ?_
            rw [wA, v0]
            exact j183
          · rw [if_neg q] at v0 ⊢
            refine bnd (aIs_s (by omega) (by omega)) ?_
            rw [Int.toNat_natCast, fA.2 406 _ (by omega), v0]
            exact j183
        · rw [if_neg y] at v0 ⊢
          have gb : ∃ x : Nat, x < 40 ∧ goB t 2 m old k i 40 = (x : Int) := by
            rcases goB_c t 2 m old k i 40 with ⟨q, -⟩ | ⟨x, q1, q2, -⟩
            · exact absurd q y
            · exact ⟨x, q1, q2⟩
          obtain ⟨x, q1, q2⟩ := gb
          rw [q2, Int.toNat_natCast] at v0
          rw [q2, ew40 c40 q1]
          refine bnd (aIs_s (by omega) (by omega)) ?_
          rw [Int.toNat_natCast, fA.2 405 _ (by omega), v0]
          exact j183
/-- and writes them -/
theorem c300_l2 (c40 : c < 40) : ∀ (D i N : Nat) (tt : hS), i + D = 40 → D < N → C4q t c i tt → ∃ t', lp (fun s => c300_b193 (c : Int) s.1 s.2) N ((i : Int), tt) = some t' ∧ C4q t c 40 t'
  | 0, i, N, tt, hi, hN, C => by
    obtain ⟨N, rfl⟩ : ∃ n, N = n + 1 := ⟨N - 1, by omega⟩
    obtain rfl : i = 40 := by omega
    refine ⟨tt, lp_d ?_, C⟩
    show c300_b193 (c : Int) ((40 : Nat) : Int) tt = _
    unfold c300_b193
    rw [if_pos (by omega)]
  | D + 1, i, N, tt, hi, hN, C => by
    obtain ⟨N, rfl⟩ : ∃ n, N = n + 1 := ⟨N - 1, by omega⟩
    obtain ⟨f, H⟩ := id C
    have i40 : i < 40 := by omega
    have go : ∀ t1, C4q t c (i + 1) t1 → c300_b193 (c : Int) (i : Int) tt = some (.inl (((i + 1 : Nat) : Int), t1)) → ∃ t', lp (fun s => c300_b193 (c : Int) s.1 s.2) (N + 1) ((i : Int), tt) = some t' ∧ C4q t c 40 t' := fun t1 C1' e => by
      obtain ⟨t', y1, y2⟩ := c300_l2 c40 D (i + 1) N t1 (by omega) (by omega) C1'
      exact ⟨t', (lp_n (show (fun s : Int × hS => c300_b193 (c : Int) s.1 s.2) ((i : Int), tt) = _ from e)).trans y1, y2⟩
    by_cases z : hI t 442 i = 0
    · refine go tt ⟨f, fun n hn => ⟨fun y => (H n hn).1 ⟨?_, y.2⟩, fun y => (H n hn).2 (fun q => y ⟨by omega, q.2⟩)⟩⟩ ?_
      · have : n ≠ i := fun q => y.2 (by rw [q]; exact z)
        omega
      · unfold c300_b193 c300_j229
        rw [if_neg (by omega)]
        refine bnd (aIs_s (by omega) (by omega)) ?_
        rw [Int.toNat_natCast, f.2 442 i (by omega), if_pos z, wadd_n (by omega)]
    · obtain ⟨ta, ea⟩ : ∃ ta, ta = sI tt 405 (40 * c + i) (hI t 440 i) := ⟨_, rfl⟩
      refine go ta ⟨fp_tr f (by rw [ea]; exact fp_sI ⟨rfl, by omega, by omega⟩), fun n hn => ?_⟩ ?_
      · by_cases q : n = i
        · subst q
          exact ⟨fun _ => by rw [ea, hI_sI, if_pos ⟨rfl, rfl⟩], fun y => absurd ⟨by omega, z⟩ y⟩
        · rw [ea, hI_sI, if_neg (by omega)]
          exact ⟨fun y => (H n hn).1 ⟨by omega, y.2⟩, fun y => (H n hn).2 (fun w => y ⟨by omega, w.2⟩)⟩
      · unfold c300_b193 c300_j229
        rw [if_neg (by omega)]
        refine bnd (aIs_s (by omega) (by omega)) ?_
        rw [Int.toNat_natCast, f.2 442 i (by omega), if_neg z]
        refine bnd (aIs_s (by omega) (by omega)) ?_
        rw [Int.toNat_natCast, f.2 440 i (by omega), ew40 c40 i40]
        refine bnd ((wIs_s (by omega) (by omega)).trans (congrArg some (show sI tt 405 (((40 * c + i : Nat) : Int)).toNat (hI t 440 i) = ta by rw [Int.toNat_natCast]; exact ea.symm))) ?_
        rw [wadd_n (by omega)]
theorem c300_e (W0 : WF t 0 m r) (W2 : WF t 2 m0 r0) (c40 : c < 40) (hk : 0 ≤ k ∧ k < m) (ho : 0 ≤ old ∧ old < m0) : ∃ t', c300 (c : Int) k old t = some t' ∧ fp (fun x j => (x = 405 ∧ 40 * c ≤ j ∧ j < 40 * c + 40) ∨ x = 440 ∨ x = 442) t t' ∧ ∀ n : Nat, n < 40 → fAt t 2 old n ≠ -1 → hI t' 405 (40 * c + n) = bvt t m old k c n := by
  obtain ⟨ta, a1, a2, a3⟩ := c300_l1 W0 W2 c40 hk ho 40 0 hF0 t rfl (hF0_lt (by omega)) ⟨fp_rf, fun n hn => by omega⟩
  obtain ⟨tb, b1, b2, b3⟩ := c300_l2 (t := ta) c40 40 0 hF0 ta rfl (hF0_lt (by omega)) ⟨fp_rf, fun n hn => ⟨fun y => by omega, fun _ => rfl⟩⟩
  refine ⟨tb, ?_, ⟨b2.1.trans a2.1, fun x j hx => by rw [b2.2 x j (by omega), a2.2 x j (by omega)]⟩, fun n hn z => ?_⟩
  · unfold c300
    refine bnd a1 ?_
    refine bnd b1 ?_
    rfl
  · obtain ⟨q1, q2⟩ := (a3 n hn).1 z
    rw [(b3 n hn).1 ⟨hn, by omega⟩, q2]
end BK3
