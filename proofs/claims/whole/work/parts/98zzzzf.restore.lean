/-! a patch is made: what was laid aside comes back; the relations stay -/
section RST
variable {t t0 t' t1 t5 t6 tY : hS} {m q : Nat}
theorem c283_388 : ∀ (D i N : Nat) (t : hS), i + D = 769 → D < N → fp (fun x j => x = 400 ∧ 1538 ≤ j ∧ j < 2307) t0 t → (∀ j, j < i → hI t 400 (1538 + j) = hI t0 447 j) → ∃ t', lp (fun s => c283_b388 s.1 s.2) N ((i : Int), t) = some t' ∧ fp (fun x j => x = 400 ∧ 1538 ≤ j ∧ j < 2307) t0 t' ∧ ∀ j, j < 769 → hI t' 400 (1538 + j) = hI t0 447 j
  | 0, i, N, t, hi, hN, f, H => by
    obtain ⟨N, rfl⟩ : ∃ n, N = n + 1 := ⟨N - 1, by omega⟩
    obtain rfl : i = 769 := by omega
    refine ⟨t, lp_d ?_, f, H⟩
    show c283_b388 ((769 : Nat) : Int) t = _
    unfold c283_b388
    rw [if_pos (by omega)]
  | D + 1, i, N, t, hi, hN, f, H => by
    obtain ⟨N, rfl⟩ : ∃ n, N = n + 1 := ⟨N - 1, by omega⟩
    obtain ⟨tb, eb⟩ : ∃ tb, tb = sI t 400 (1538 + i) (hI t0 447 i) := ⟨_, rfl⟩
    have fb : fp (fun x j => x = 400 ∧ 1538 ≤ j ∧ j < 2307) t tb := by rw [eb]; exact fp_sI ⟨rfl, by omega, by omega⟩
    obtain ⟨t', a1, a2, a3'⟩ := c283_388 D (i + 1) N tb (by omega) (by omega) (fp_tr f fb) (fun j hj => by
      rw [eb, hI_sI]
      by_cases c : j = i
      · rw [if_pos ⟨rfl, by omega⟩, c]
      · rw [if_neg (by omega)]
        exact H j (by omega))
    refine ⟨t', (lp_n (s' := (((i + 1 : Nat) : Int), tb)) ?_).trans a1, a2, a3'⟩
    show c283_b388 (i : Int) t = _
    unfold c283_b388
    rw [if_neg (by omega), wadd_e (x := 1538) (by omega) (by omega)]
    refine bnd (aIs_s (by omega) (by omega)) ?_
    rw [Int.toNat_natCast, f.2 447 i (by omega)]
    refine bnd ((wIs_s (by omega) (by omega)).trans (congrArg some (show sI t 400 (1538 + (i : Int)).toNat (hI t0 447 i) = tb by rw [show (1538 + (i : Int)).toNat = 1538 + i by omega]; exact eb.symm))) ?_
    rw [wadd_n (by omega)]
theorem c283_419 : ∀ (D i N : Nat) (t : hS), i + D = 1600 → D < N → fp (fun x j => x = 405 ∨ x = 406 ∨ x = 407) t0 t → (∀ j, j < i → hI t 405 j = hI t0 438 j ∧ hI t 406 j = hI t0 439 j ∧ hI t 407 j = wbol (hI t0 441 j)) → ∃ t', lp (fun s => c283_b419 s.1 s.2) N ((i : Int), t) = some t' ∧ fp (fun x j => x = 405 ∨ x = 406 ∨ x = 407) t0 t' ∧ ∀ j, j < 1600 → hI t' 405 j = hI t0 438 j ∧ hI t' 406 j = hI t0 439 j ∧ hI t' 407 j = wbol (hI t0 441 j)
  | 0, i, N, t, hi, hN, f, H => by
    obtain ⟨N, rfl⟩ : ∃ n, N = n + 1 := ⟨N - 1, by omega⟩
    obtain rfl : i = 1600 := by omega
    refine ⟨t, lp_d ?_, f, H⟩
    show c283_b419 ((1600 : Nat) : Int) t = _
    unfold c283_b419
    rw [if_pos (by omega)]
  | D + 1, i, N, t, hi, hN, f, H => by
    obtain ⟨N, rfl⟩ : ∃ n, N = n + 1 := ⟨N - 1, by omega⟩
    obtain ⟨ta, ea⟩ : ∃ ta, ta = sI t 405 i (hI t0 438 i) := ⟨_, rfl⟩
    obtain ⟨tb, eb⟩ : ∃ tb, tb = sI ta 406 i (hI t0 439 i) := ⟨_, rfl⟩
    obtain ⟨tc, ec⟩ : ∃ tc, tc = sI tb 407 i (wbol (hI t0 441 i)) := ⟨_, rfl⟩
    have fa : fp (fun x j => x = 405 ∨ x = 406 ∨ x = 407) t ta := by rw [ea]; exact fp_sI (.inl rfl)
    have fb : fp (fun x j => x = 405 ∨ x = 406 ∨ x = 407) ta tb := by rw [eb]; exact fp_sI (.inr (.inl rfl))
    have fc : fp (fun x j => x = 405 ∨ x = 406 ∨ x = 407) tb tc := by rw [ec]; exact fp_sI (.inr (.inr rfl))
    obtain ⟨t', a1, a2, a3⟩ := c283_419 D (i + 1) N tc (by omega) (by omega) (fp_tr f (fp_tr fa (fp_tr fb fc))) (fun j hj => by
      by_cases c : j = i
      · subst c
        refine ⟨?_, ?_, ?_⟩
        · rw [ec, hI_sI, if_neg (by omega), eb, hI_sI, if_neg (by omega), ea, hI_sI, if_pos ⟨rfl, rfl⟩]
        · rw [ec, hI_sI, if_neg (by omega), eb, hI_sI, if_pos ⟨rfl, rfl⟩]
        · rw [ec, hI_sI, if_pos ⟨rfl, rfl⟩]
      · have e : ∀ x, hI tc x j = hI t x j := fun x => by rw [ec, hI_sI, if_neg (by omega), eb, hI_sI, if_neg (by omega), ea, hI_sI, if_neg (by omega)]
        rw [e, e, e]
        exact H j (by omega))
    refine ⟨t', (lp_n (s' := (((i + 1 : Nat) : Int), tc)) ?_).trans a1, a2, a3⟩
    show c283_b419 (i : Int) t = _
    unfold c283_b419
    rw [if_neg (by omega)]
    refine bnd (aIs_s (by omega) (by omega)) ?_
    rw [Int.toNat_natCast, f.2 438 i (by omega)]
    refine bnd ((wIs_s (by omega) (by omega)).trans (congrArg some (show sI t 405 ((i : Int)).toNat (hI t0 438 i) = ta by rw [Int.toNat_natCast]; exact ea.symm))) ?_
    refine bnd (aIs_s (by omega) (by omega)) ?_
    rw [Int.toNat_natCast, fa.2 439 i (by omega), f.2 439 i (by omega)]
    refine bnd ((wIs_s (by omega) (by omega)).trans (congrArg some (show sI ta 406 ((i : Int)).toNat (hI t0 439 i) = tb by rw [Int.toNat_natCast]; exact eb.symm))) ?_
    refine bnd (aIs_s (by omega) (by omega)) ?_
    rw [Int.toNat_natCast, fb.2 441 i (by omega), fa.2 441 i (by omega), f.2 441 i (by omega)]
    refine bnd ((wIs_s (by omega) (by omega)).trans (congrArg some (show sI tb 407 ((i : Int)).toNat (wbol (hI t0 441 i)) = tc by rw [Int.toNat_natCast]; exact ec.symm))) ?_
    rw [wadd_n (by omega)]
theorem c283_470 (e33 : hI t0 395 33 = (q : Int)) (q40 : q ≤ 40) : ∀ (D i N : Nat) (t : hS), i + D = q → D < N → fp (fun x _ => x = 404) t0 t → (∀ c, c < i → hI t 404 c = hI t0 443 c) → (∀ c, i ≤ c → hI t 404 c = hI t0 404 c) → ∃ t', lp (fun s => c283_b470 s.1 s.2) N ((i : Int), t) = some t' ∧ fp (fun x _ => x = 404) t0 t' ∧ (∀ c, c < q → hI t' 404 c = hI t0 443 c) ∧ ∀ c, q ≤ c → hI t' 404 c = hI t0 404 c
  | 0, i, N, t, hi, hN, f, H, H2 => by
    obtain ⟨N, rfl⟩ : ∃ n, N = n + 1 := ⟨N - 1, by omega⟩
    obtain rfl : i = q := by omega
    refine ⟨t, lp_d ?_, f, H, H2⟩
    show c283_b470 (i : Int) t = _
    unfold c283_b470
    rw [f.2 395 33 (by omega), e33, if_pos (by omega)]
  | D + 1, i, N, t, hi, hN, f, H, H2 => by
    obtain ⟨N, rfl⟩ : ∃ n, N = n + 1 := ⟨N - 1, by omega⟩
    obtain ⟨t1, et⟩ : ∃ t1, t1 = sI t 404 i (hI t0 443 i) := ⟨_, rfl⟩
    have f1 : fp (fun x _ => x = 404) t t1 := by rw [et]; exact fp_sI rfl
    obtain ⟨t', a1, a2, a3, a4⟩ := c283_470 e33 q40 D (i + 1) N t1 (by omega) (by omega) (fp_tr f f1) (fun c hc => by
      rw [et, hI_sI]
      by_cases z : c = i
      · rw [if_pos ⟨rfl, z⟩, z]
      · rw [if_neg (fun y => z y.2)]
        exact H c (by omega)) (fun c hc => by
      rw [et, hI_sI, if_neg (by omega)]
      exact H2 c (by omega))
    refine ⟨t', (lp_n (s' := (((i + 1 : Nat) : Int), t1)) ?_).trans a1, a2, a3, a4⟩
    show c283_b470 (i : Int) t = _
    unfold c283_b470
    rw [f.2 395 33 (by omega), e33, if_neg (by omega)]
    refine bnd (aIs_s (by omega) (by omega)) ?_
    rw [Int.toNat_natCast, f.2 443 i (by omega)]
    refine bnd ((wIs_s (by omega) (by omega)).trans (congrArg some (show sI t 404 ((i : Int)).toNat (hI t0 443 i) = t1 by rw [Int.toNat_natCast]; exact et.symm))) ?_
    rw [wadd_n (by omega)]
/-- the other side is as it was -/
theorem RS_all (M : MVq tY t5 m q) (c : ckM t5 t6) (e33 : hI tY 395 33 = (q : Int)) (q40 : q ≤ 40) (b7 : ∀ j, j < 1600 → hI tY 407 j = 0 ∨ hI tY 407 j = 1) : ∃ ta tb tc td, c226 2 0 t6 = some ta ∧ lp (fun s => c283_b388 s.1 s.2) hF0 (0, ta) = some tb ∧ lp (fun s => c283_b419 s.1 s.2) hF0 (0, tb) = some tc ∧ lp (fun s => c283_b470 s.1 s.2) hF0 (0, tc) = some td ∧ scT tY td ∧ hI td 395 82 = hI t6 395 82 ∧ hI td 395 83 = hI t6 395 83 ∧ hI td 395 84 = hI t6 395 84 ∧ hI td 395 54 = hI t6 395 54 := by
  obtain ⟨m1, m2, m3, m4, m5, m6⟩ := M
  obtain ⟨ta, a1, a2, a3⟩ := c226_g (t0 := t6) (a := 2) (b := 0) (by omega) (by omega) (by omega)
  obtain ⟨tb, b1, b2, b3⟩ := c283_388 (t0 := ta) 769 0 hF0 ta (by omega) (hF0_lt (by omega)) fp_rf (fun n hn => by omega)
  obtain ⟨tc, c1, c2, c3⟩ := c283_419 (t0 := tb) 1600 0 hF0 tb (by omega) (hF0_lt (by omega)) fp_rf (fun n hn => by omega)
  have r33 : hI tc 395 33 = (q : Int) := by rw [c2.2 395 33 (by omega), b2.2 395 33 (by omega), a2.2 395 33 (by omega), c.2 395 33 (by omega), m1.2 395 33 (by omega)]; exact e33
  obtain ⟨td, d1, d2, d3, d4⟩ := c283_470 (t0 := tc) (q := q) r33 q40 q 0 hF0 tc (by omega) (hF0_lt (by omega)) fp_rf (fun n hn => by omega) (fun n _ => rfl)
  have low : ∀ x j, ¬ (x = 404 ∨ x = 405 ∨ x = 406 ∨ x = 407 ∨ (x = 400 ∧ (j < 769 ∨ (1538 ≤ j ∧ j < 2307)))) → hI td x j = hI t6 x j := fun x j hx => by rw [d2.2 x j (by omega), c2.2 x j (by omega), b2.2 x j (by omega), a2.2 x j (by omega)]
  refine ⟨ta, tb, tc, td, a1, b1, c1, d1, ⟨?_, fun x j hx => ?_⟩, low _ _ (by omega), low _ _ (by omega), low _ _ (by omega), low _ _ (by omega)⟩
  · rw [d2.1, c2.1, b2.1, a2.1, c.1, m1.1]
  · by_cases x4 : x = 404
    · subst x4
      by_cases jq : j < q
      · rw [d3 j jq, c2.2 443 j (by omega), b2.2 443 j (by omega), a2.2 443 j (by omega), c.2 443 j (by omega)]
        exact (m4 j jq).1
      · rw [d4 j (by omega), c2.2 404 j (by omega), b2.2 404 j (by omega), a2.2 404 j (by omega), c.2 404 j (by omega)]
        exact m5 j (by omega)
    · by_cases x5 : x = 405 ∨ x = 406 ∨ x = 407
      · have jl : j < 1600 := by omega
        obtain ⟨p1, p2, p3⟩ := c3 j jl
        obtain ⟨v1, v2, v3⟩ := m3 j jl
        have g : ∀ y, y = 438 ∨ y = 439 ∨ y = 441 → hI tb y j = hI t5 y j := fun y hy => by rw [b2.2 y j (by omega), a2.2 y j (by omega), c.2 y j (by omega)]
        rw [g 438 (by omega), v1] at p1
        rw [g 439 (by omega), v2] at p2
        rw [g 441 (by omega), v3] at p3
        rw [d2.2 x j (by omega)]
        rcases x5 with x5 | x5 | x5
        · rw [x5]; exact p1
        · rw [x5]; exact p2
        · rw [x5, p3]
          rcases b7 j jl with w | w <;> rw [w] <;> rfl
      · by_cases x0 : x = 400 ∧ (j < 769 ∨ (1538 ≤ j ∧ j < 2307))
        · obtain ⟨e, hj⟩ := x0
          subst e
          rw [d2.2 400 j (by omega), c2.2 400 j (by omega)]
          rcases hj with hj | hj
          · have := a3 j hj
            rw [show 769 * 0 + j = j by omega, show 769 * 2 + j = 1538 + j by omega] at this
            rw [b2.2 400 j (by omega), this, c.2 400 _ (by omega)]
            exact (m2 j hj).2.1
          · obtain ⟨a, rfl⟩ : ∃ a, j = 1538 + a := ⟨j - 1538, by omega⟩
            rw [b3 a (by omega), a2.2 447 a (by omega), c.2 447 a (by omega)]
            exact (m2 a (by omega)).2.2
        · rw [low x j (by omega), c.2 x j (by omega), m1.2 x j (by omega)]
end RST
section RSC
variable {h h' t t' : hS} {K : Nat → Int → Prop} {p P m q : Nat} {r : Int → Nat} {w : Int} {B : Nat}
theorem PW_ls (Pw : PW h t K p w m r) (pB : p + 1 < B) (kB : ∀ v : Int, 0 ≤ v → v < m → kd h p v + 13 ≤ B) (e : ∀ x, x < B → (448 ≤ x ∨ x = p ∨ x = p + 1) → sm h h' x) (en : hN h ≤ hN h') (ew : ∀ v g : Int, 0 ≤ v → v < m → 0 ≤ g → g < 64 → wg t' w v g = wg t w v g) (em : wm t' w = wm t w) : PW h' t' K p w m r := by
  obtain ⟨W, ⟨p1, p2, p3, p4, p5, p6, p7⟩, P3, P4⟩ := id Pw
  have sp := e p (by omega) (by omega)
  have sp1 := e (p + 1) pB (by omega)
  have hk : ∀ u : Int, kd h' p u = kd h p u := fun u => by
    unfold kd
    split
    · rfl
    · exact sp1.2.1 _
  refine ⟨⟨by rw [em]; exact W.1, W.2.1, fun k k0 k1 => ?_⟩, ⟨p1, by omega, by rw [sp.2.2.1]; exact p3, by rw [sp.2.1]; exact p4, by rw [sp1.2.2.1]; exact p5, by rw [sp1.2.2.2]; exact p6, by rw [sp.1]; exact p7⟩, fun j j0 j1 => ?_, fun i j i0 i1 j0 j1 => ?_⟩
  · rw [ew k 1 k0 k1 (by omega) (by omega), ew k 5 k0 k1 (by omega) (by omega), ew k 30 k0 k1 (by omega) (by omega), ew k 39 k0 k1 (by omega) (by omega)]
    exact W.2.2 k k0 k1
  · obtain ⟨-, -, w3, w4, w5⟩ := W.2.2 j j0 j1
    have kb := kB j j0 j1
    have k8 := (P3 j j0 j1).1.1
    exact KR_c2 (P3 j j0 j1) (hk _) (hk _) (fun o ho => e _ (by omega) (by omega)) en (fun f f0 f1 => ew j f j0 j1 f0 f1) w3.2 w4.2 w5.2 (fun _ _ z => z)
  · rw [ew i 0 i0 i1 (by omega) (by omega), ew j 0 j0 j1 (by omega) (by omega)]
    exact P4 i j i0 i1 j0 j1
theorem scH_s (a : scH P h h') (x : Nat) (hx : x < P) (z : 448 ≤ x ∨ (213 ≤ x ∧ x < 375)) : sm h h' x := by
  obtain ⟨⟨a1, a2⟩, a3, a4⟩ := a.2 x hx
  exact ⟨fun j => a4 j (by omega), fun j => a3 j (by omega), a1, a2⟩
/-- the relation of both stays where only scratch has changed -/
theorem RT_sc (R : RT h t K p m q r) (a : scH P h h') (b : scT t t') (hP : hN h = P) (h448 : 448 ≤ P) : RT h' t' K p m q r := by
  obtain ⟨S, Pw, T, C, hp, D⟩ := R
  have W := Pw.1
  have hm := W.2.1
  have pP := Pw.2.1.2.1
  have w0 : ∀ v g : Int, 0 ≤ v → v < 12 → 0 ≤ g → g < 64 → wg t' 0 v g = wg t 0 v g := fun v g v0 v1 g0 g1 => b.2 400 _ (by omega)
  have em : wm t' 0 = wm t 0 := b.2 400 _ (by omega)
  have kb : ∀ v : Int, 0 ≤ v → v < m → kd h p v + 13 ≤ P := fun v v0 v1 => by have := (Pw.2.2.1 v v0 v1).1.2.1; omega
  have Pw' : PW h' t' K p 0 m r := PW_ls Pw (by omega) kb (fun x hx z => scH_s a x hx (by omega)) a.1.1 (fun v g v0 v1 g0 g1 => w0 v g v0 (by omega) g0 g1) em
  have hk : ∀ u : Int, kd h' p u = kd h p u := fun u => by
    unfold kd
    split
    · rfl
    · exact (scH_s a (p + 1) (by omega) (by omega)).2.1 _
  have ax : agx 0 0 m t t' := fun k f k0 k1 f0 f1 _ => w0 k f k0 (by omega) f0 f1
  have g : ∀ x, x < 448 → (hT h' x = hT h x ∧ hL h' x = hL h x) ∧ (∀ j, ¬ ((x = 24 ∧ (j = 0 ∨ j = 3)) ∨ x = 51 ∨ (53 ≤ x ∧ x < 213 ∧ j = 2 ∧ (x - 53) % 4 = 0)) → hR h' x j = hR h x j) ∧ ∀ j, ¬ ((x = 22 ∧ (j = 5 ∨ j = 7 ∨ j = 8 ∨ j = 9)) ∨ x = 25 ∨ (x = 24 ∧ (j = 4 ∨ j = 5 ∨ j = 6)) ∨ x = 52 ∨ (53 ≤ x ∧ x < 213 ∧ ¬ ((x - 53) % 4 = 0 ∧ j ≠ 1)) ∨ (x = 48 ∧ 10 ≤ j ∧ j ≤ 12)) → hI h' x j = hI h x j := fun x hx => a.2 x (by omega)
  refine ⟨⟨fun c c40 => ?_, fun c c40 => ?_⟩, Pw', fun j j0 j1 n hn => ?_, ⟨by rw [(g 8 (by omega)).2.2 8 (by omega)]; exact C.1, by rw [b.2 395 33 (by omega)]; exact C.2.1, C.2.2.1, fun c c40 => ?_⟩, hp, fun x v hx => ?_⟩
  · obtain ⟨r1, s1, s2, s3, s4, s5, s6, s7⟩ := S.1 c c40
    have e := fun o (ho : o ≤ 3) => scH_s a (215 + 4 * c + o) (by omega) (by omega)
    have e0 := e 0 (by omega)
    rw [Nat.add_zero] at e0
    exact ⟨by rw [(g 19 (by omega)).2.1 c (by omega)]; exact r1, by rw [e0.2.2.1]; exact s1, by rw [e0.2.1]; exact s2, by rw [e0.2.1]; exact s3, by rw [e0.2.1]; exact s4, by rw [(e 1 (by omega)).2.2.1, (e 2 (by omega)).2.2.1, (e 3 (by omega)).2.2.1]; exact s5, by rw [(e 1 (by omega)).2.2.2, (e 2 (by omega)).2.2.2, (e 3 (by omega)).2.2.2]; exact s6, by rw [e0.1]; exact s7⟩
  · obtain ⟨r1, s1, s2, s3, s4, s5, s6, s7⟩ := S.2 c c40
    have e := fun o (ho : o ≤ 3) => g (53 + 4 * c + o) (by omega)
    have e0 := g (53 + 4 * c) (by omega)
    exact ⟨by rw [(g 49 (by omega)).2.1 c (by omega)]; exact r1, by rw [e0.1.1]; exact s1, by rw [e0.2.1 3 (by omega)]; exact s2, by rw [e0.2.1 4 (by omega)]; exact s3, by rw [e0.2.1 5 (by omega)]; exact s4, by rw [(e 1 (by omega)).1.1, (e 2 (by omega)).1.1, (e 3 (by omega)).1.1]; exact s5, by rw [(e 1 (by omega)).1.2, (e 2 (by omega)).1.2, (e 3 (by omega)).1.2]; exact s6, by rw [e0.2.2 0 (by omega)]; exact s7⟩
  · have kbj := kb j j0 j1
    have k8 := (Pw.2.2.1 j j0 j1).1.1
    have e := fun o (ho : o ≤ 12) => scH_s a (kd h p j + o) (by omega) (by omega)
    obtain ⟨y1, ⟨y2, y3⟩, y4, y5⟩ := T j j0 j1 n hn
    have bj : j = -1 ∨ (0 ≤ j ∧ j < m) := .inr ⟨j0, j1⟩
    rw [hk, hk, hk, (e 8 (by omega)).1, (e 9 (by omega)).2.1, (e 10 (by omega)).1, (e 11 (by omega)).2.1, (e 12 (by omega)).1, fAt_x ax W bj, sAt_x ax W bj, aAt_x ax W bj]
    refine ⟨y1, ⟨y2, fun z => ?_⟩, y4, fun z => ?_⟩
    · rw [y3 z]
      rcases sAt_b (n := (n : Int)) W bj with w | ⟨⟨w, w'⟩, -⟩
      · exact absurd w z
      · exact (sIx_x ax W w w').symm
    · rw [y5 z]
      rcases aAt_b (n := (n : Int)) W bj with w | ⟨⟨w, w'⟩, -⟩
      · exact absurd w z
      · exact (aIx_x ax W w w').symm
  · obtain ⟨r1, r2, r3, r4⟩ := C.2.2.2 c c40
    have e := fun o (ho : o ≤ 3) => scH_s a (215 + 4 * c + o) (by omega) (by omega)
    have e0 := e 0 (by omega)
    rw [Nat.add_zero] at e0
    rw [e0.1, b.2 403 c (by omega)]
    refine ⟨r1, r2, r3, fun z => ?_⟩
    obtain ⟨⟨k0, k1, k2⟩, kv⟩ := r4 z
    have e4 : hI t' 404 c = hI t 404 c := b.2 404 c (by omega)
    refine ⟨⟨by rw [e4]; exact k0, by rw [e4]; exact k1, by rw [e0.2.1, e4, hk]; exact k2⟩, fun n hn => ?_⟩
    obtain ⟨v1, v2, v3, v4⟩ := kv n hn
    rw [e4, fAt_x ax W (.inr ⟨k0, k1⟩), (e 1 (by omega)).1, (e 2 (by omega)).1, (e 3 (by omega)).1, b.2 405 _ (by omega), b.2 406 _ (by omega), b.2 407 _ (by omega)]
    exact ⟨v1, v2, v3, v4⟩
  · obtain ⟨⟨d1, d2, d3⟩, d4⟩ := D x v hx
    exact ⟨⟨d1, by have := a.1.1; omega, by rw [(a.2 x (by omega)).1.1]; exact d3⟩, fun j j0 j1 => by rw [hk]; exact d4 j j0 j1⟩
end RSC
