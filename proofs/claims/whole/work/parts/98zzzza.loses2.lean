/-! a patch is made: the other side's creatures, all -/
/-- the other side behind the carrying, ahead of the checks: from tY to t5 -/
def MVq (tY t5 : hS) (m q : Nat) : Prop := fp (fun x j => x = 438 ∨ x = 439 ∨ x = 441 ∨ x = 443 ∨ (404 ≤ x ∧ x ≤ 407) ∨ x = 447 ∨ (x = 400 ∧ (j < 769 ∨ (1538 ≤ j ∧ j < 2307)))) tY t5 ∧ (∀ j, j < 769 → hI t5 400 j = hI tY 400 (769 + j) ∧ hI t5 400 (1538 + j) = hI tY 400 j ∧ hI t5 447 j = hI tY 400 (1538 + j)) ∧ (∀ j, j < 1600 → hI t5 438 j = hI tY 405 j ∧ hI t5 439 j = hI tY 406 j ∧ hI t5 441 j = wbol (hI tY 407 j)) ∧ (∀ c, c < q → hI t5 443 c = hI tY 404 c ∧ hI t5 404 c = if hI tY 446 c = -1 then hI tY 404 c else hI tY 446 c) ∧ (∀ c, q ≤ c → hI t5 404 c = hI tY 404 c) ∧ ∀ c, c < 40 → ((c < q ∧ hI tY 446 c ≠ -1 ∧ wg tY 1 (hI tY 446 c) 3 = 1) → RWq tY t5 m (hI tY 404 c) (hI tY 446 c) c) ∧ (¬ (c < q ∧ hI tY 446 c ≠ -1 ∧ wg tY 1 (hI tY 446 c) 3 = 1) → RSq tY t5 c)
section LOT
variable {t t0 t' t1 tZ tY : hS} {m m0 q c i : Nat} {r r0 : Int → Nat} {old k u : Int}
theorem c283_163 (W1 : WF t0 1 m r) (W0 : WF t0 0 m0 r0) (e33 : hI t0 395 33 = (q : Int)) (q40 : q ≤ 40) (HK : ∀ c, c < q → hI t0 446 c ≠ -1 → (0 ≤ hI t0 446 c ∧ hI t0 446 c < m) ∧ 0 ≤ hI t0 404 c ∧ hI t0 404 c < m0) : ∀ (D i N : Nat) (t : hS), i + D = q → D < N → RAq t0 t m i → ∃ t', lp (fun s => c283_b163 s.1 s.2) N ((i : Int), t) = some t' ∧ RAq t0 t' m q
  | 0, i, N, t, hi, hN, R => by
    obtain ⟨N, rfl⟩ : ∃ n, N = n + 1 := ⟨N - 1, by omega⟩
    obtain rfl : i = q := by omega
    refine ⟨t, lp_d ?_, R⟩
    show c283_b163 (i : Int) t = _
    unfold c283_b163
    rw [R.1.2 395 33 (by omega), e33, if_pos (by omega)]
  | D + 1, i, N, t, hi, hN, R => by
    obtain ⟨N, rfl⟩ : ∃ n, N = n + 1 := ⟨N - 1, by omega⟩
    obtain ⟨f, RR⟩ := id R
    have i40 : i < 40 := by omega
    obtain ⟨ta, ea⟩ : ∃ ta, ta = sI t 443 i (hI t0 404 i) := ⟨_, rfl⟩
    have fa : fp (fun x _ => x = 443 ∨ x = 405 ∨ x = 406 ∨ x = 407) t ta := by rw [ea]; exact fp_sI (.inl rfl)
    have f1 := fp_tr f fa
    have o443 : ∀ x j, ¬ (x = 443 ∧ j = i) → hI ta x j = hI t x j := fun x j hx => by rw [ea, hI_sI, if_neg hx]
    have e443 : hI ta 443 i = hI t0 404 i := by rw [ea, hI_sI, if_pos ⟨rfl, rfl⟩]
    have RSi : RSq t0 t i := (RR i i40).2.1 (fun z => by omega)
    have RSa : RSq t0 ta i := fun n hn => by
      rw [o443 405 _ (by omega), o443 406 _ (by omega), o443 407 _ (by omega)]
      exact RSi n hn
    have pre : ∀ R', (if hI t0 446 i = -1 then c283_j273 (i : Int) ta else (c199 1 (hI t0 446 i) 3 ta).bind (fun v33 => if v33 = 1 then (c288 (i : Int) (hI t0 446 i) ta).bind (fun h36 => (lp (fun s => c283_b225 (i : Int) s.1 s.2) hF0 (0, h36)).bind (fun r42 => c283_j273 (i : Int) r42)) else c283_j273 (i : Int) ta)) = R' → c283_b163 (i : Int) t = R' := fun R' eR => by
      unfold c283_b163
      rw [f.2 395 33 (by omega), e33, if_neg (show ¬ (q : Int) ≤ (i : Int) by omega)]
      refine bnd (aIs_s (by omega) (by omega)) ?_
      rw [Int.toNat_natCast, f.2 404 i (by omega)]
      refine bnd ((wIs_s (by omega) (by omega)).trans (congrArg some (show sI t 443 ((i : Int)).toNat (hI t0 404 i) = ta by rw [Int.toNat_natCast]; exact ea.symm))) ?_
      refine bnd (aIs_s (by omega) (by omega)) ?_
      rw [Int.toNat_natCast, f1.2 446 i (by omega)]
      by_cases z : hI t0 446 i = -1
      · rw [if_pos z] at eR ⊢
        exact eR
      · rw [if_neg z] at eR ⊢
        refine bnd (aIs_s (by omega) (by omega)) ?_
        rw [Int.toNat_natCast, f1.2 446 i (by omega)]
        obtain ⟨⟨k0, k1⟩, -⟩ := HK i (by omega) z
        have hm := W1.2.1
        have e199 : c199 1 (hI t0 446 i) 3 ta = some (wg ta 1 (hI t0 446 i) 3) := c199_e (by omega) (by omega) k0 (by omega) (by omega) (by omega)
        refine bnd e199 ?_
        rw [e199] at eR
        have eR : (if wg ta 1 (hI t0 446 i) 3 = 1 then (c288 (i : Int) (hI t0 446 i) ta).bind (fun h36 => (lp (fun s => c283_b225 (i : Int) s.1 s.2) hF0 (0, h36)).bind (fun r42 => c283_j273 (i : Int) r42)) else c283_j273 (i : Int) ta) = R' := eR
        by_cases y : wg ta 1 (hI t0 446 i) 3 = 1
        · rw [if_pos y] at eR ⊢
          refine bnd (aIs_s (by omega) (by omega)) ?_
          rw [Int.toNat_natCast, f1.2 446 i (by omega)]
          exact eR
        · rw [if_neg y] at eR ⊢
          exact eR
    have j273 : ∀ tA, c283_j273 (i : Int) tA = some (.inl (((i + 1 : Nat) : Int), tA)) := fun tA => by
      unfold c283_j273
      rw [wadd_n (by omega)]
    have go : ∀ tA, RAq t0 tA m (i + 1) → c283_b163 (i : Int) t = some (.inl (((i + 1 : Nat) : Int), tA)) → ∃ t', lp (fun s => c283_b163 s.1 s.2) (N + 1) ((i : Int), t) = some t' ∧ RAq t0 t' m q := fun tA RA e => by
      obtain ⟨t', a1, a2⟩ := c283_163 W1 W0 e33 q40 HK D (i + 1) N tA (by omega) (by omega) RA
      refine ⟨t', ?_, a2⟩
      refine (lp_n (s' := (((i + 1 : Nat) : Int), tA)) ?_).trans a1
      exact e
    -- the other creatures
    have oth : ∀ tA : hS, (∀ x j, (x = 405 ∨ x = 406 ∨ x = 407) → ¬ (40 * i ≤ j ∧ j < 40 * i + 40) → hI tA x j = hI t x j) → (∀ j, j ≠ i → hI tA 443 j = hI t 443 j) → ∀ c, c < 40 → c ≠ i → ((c < i + 1 ∧ hI t0 446 c ≠ -1 ∧ wg t0 1 (hI t0 446 c) 3 = 1) → RWq t0 tA m (hI t0 404 c) (hI t0 446 c) c) ∧ (¬ (c < i + 1 ∧ hI t0 446 c ≠ -1 ∧ wg t0 1 (hI t0 446 c) 3 = 1) → RSq t0 tA c) ∧ (c < i + 1 → hI tA 443 c = hI t0 404 c) := fun tA g1 g2 c c40 ci => by
      obtain ⟨r1, r2, r3⟩ := RR c c40
      refine ⟨fun z n hn => ?_, fun z n hn => ?_, fun z => by rw [g2 c ci]; exact r3 (by omega)⟩
      · have := r1 ⟨by omega, z.2⟩ n hn
        rw [g1 405 _ (.inl rfl) (by omega), g1 406 _ (.inr (.inl rfl)) (by omega), g1 407 _ (.inr (.inr rfl)) (by omega)]
        exact this
      · have := r2 (fun y => z ⟨by omega, y.2⟩) n hn
        rw [g1 405 _ (.inl rfl) (by omega), g1 406 _ (.inr (.inl rfl)) (by omega), g1 407 _ (.inr (.inr rfl)) (by omega)]
        exact this
    have keep : ¬ (hI t0 446 i ≠ -1 ∧ wg t0 1 (hI t0 446 i) 3 = 1) → RAq t0 ta m (i + 1) := fun z => by
      refine ⟨f1, fun c c40 => ?_⟩
      by_cases ci : c = i
      · subst ci
        exact ⟨fun y => absurd y.2 z, fun _ => RSa, fun _ => e443⟩
      · exact oth ta (fun x j hx _ => o443 x j (by omega)) (fun j hj => o443 443 j (by omega)) c c40 ci
    have ew : wg ta = wg t0 := by
      funext w a b
      exact f1.2 400 _ (by omega)
    by_cases z : hI t0 446 i = -1
    · refine go ta (keep (fun y => y.1 z)) (pre _ ?_)
      rw [if_pos z]
      exact j273 ta
    · obtain ⟨⟨k0, k1⟩, o0, o1⟩ := HK i (by omega) z
      have hm := W1.2.1
      have e199 : c199 1 (hI t0 446 i) 3 ta = some (wg t0 1 (hI t0 446 i) 3) := by rw [c199_e (by omega) (by omega) k0 (by omega) (by omega) (by omega), ew]
      by_cases y : wg t0 1 (hI t0 446 i) 3 = 1
      · have W1a : WF ta 1 m r := by
          obtain ⟨w1, w2, w3⟩ := W1
          refine ⟨by show hI ta 400 _ = _; rw [f1.2 400 _ (by omega)]; exact w1, w2, fun a a0 a1 => by rw [ew]; exact w3 a a0 a1⟩
        have W0a : WF ta 0 m0 r0 := by
          obtain ⟨w1, w2, w3⟩ := W0
          refine ⟨by show hI ta 400 _ = _; rw [f1.2 400 _ (by omega)]; exact w1, w2, fun a a0 a1 => by rw [ew]; exact w3 a a0 a1⟩
        obtain ⟨tb, b1, b2, b3⟩ := c288_l (k := hI t0 446 i) (old := hI t0 404 i) W1a W0a ⟨k0, k1⟩ ⟨o0, o1⟩ i40 (f1.2 404 i (by omega)) 40 0 hF0 ta (by omega) (hF0_lt (by omega)) fp_rf (fun n hn => by omega) (fun n _ => ⟨rfl, rfl⟩)
        obtain ⟨tc, c1, c2, c3⟩ := c283_225 (t0 := tb) i40 40 0 hF0 tb (by omega) (hF0_lt (by omega)) fp_rf (fun n hn => by omega) (fun n _ => rfl)
        have fb : fp (fun x _ => x = 443 ∨ x = 405 ∨ x = 406 ∨ x = 407) ta tb := ⟨b2.1, fun x j hx => b2.2 x j (by omega)⟩
        have fc : fp (fun x _ => x = 443 ∨ x = 405 ∨ x = 406 ∨ x = 407) tb tc := ⟨c2.1, fun x j hx => c2.2 x j (by omega)⟩
        refine go tc ⟨fp_tr f1 (fp_tr fb fc), fun c c40 => ?_⟩ (pre _ ?_)
        · by_cases ci : c = i
          · subst ci
            refine ⟨fun _ n hn => ?_, fun w => absurd ⟨by omega, z, y⟩ w, fun _ => by rw [c2.2 443 c (by omega), b2.2 443 c (by omega)]; exact e443⟩
            obtain ⟨s5, s6, s7⟩ := RSa n hn
            obtain ⟨q1, q2⟩ := b3 n hn
            have v5 := c3 n hn
            rw [b2.2 442 _ (by omega), b2.2 405 _ (by omega), b2.2 440 _ (by omega), f1.2 442 _ (by omega), f1.2 440 _ (by omega), s5] at v5
            rw [s5] at q1
            rw [s6, s7] at q2
            refine ⟨v5, fun w => ?_, fun w => ?_⟩
            · rw [c2.2 407 _ (by omega), c2.2 406 _ (by omega)]
              exact q1 ((LSq_w ew).2 w)
            · rw [c2.2 407 _ (by omega), c2.2 406 _ (by omega)]
              exact q2 (fun w2 => w ((LSq_w ew).1 w2))
          · refine oth tc (fun x j hx hj => ?_) (fun j hj => ?_) c c40 ci
            · rw [c2.2 x j (by omega), b2.2 x j (by omega), o443 x j (by omega)]
            · rw [c2.2 443 j (by omega), b2.2 443 j (by omega), o443 443 j (by omega)]
        · rw [if_neg z]
          refine bnd e199 ?_
          rw [if_pos y]
          refine bnd (show c288 (i : Int) (hI t0 446 i) ta = some tb from ?_) ?_
          · unfold c288
            refine bnd b1 ?_
            rfl
          · refine bnd c1 ?_
            exact j273 tc
      · refine go ta (keep (fun w => y w.2)) (pre _ ?_)
        rw [if_neg z]
        refine bnd e199 ?_
        rw [if_neg y]
        exact j273 ta
/-- all the moves -/
theorem MV_e (W1 : WF tY 1 m r) (W0 : WF tY 0 m0 r0) (e33 : hI tY 395 33 = (q : Int)) (q40 : q ≤ 40) (HK : ∀ c, c < q → hI tY 446 c ≠ -1 → (0 ≤ hI tY 446 c ∧ hI tY 446 c < m) ∧ 0 ≤ hI tY 404 c ∧ hI tY 404 c < m0) : ∃ ta tb tc td te, lp (fun s => c283_b112 s.1 s.2) hF0 (0, tY) = some ta ∧ lp (fun s => c283_b163 s.1 s.2) hF0 (0, ta) = some tb ∧ lp (fun s => c283_b281 s.1 s.2) hF0 (0, tb) = some tc ∧ c226 1 0 tc = some td ∧ lp (fun s => c283_b336 s.1 s.2) hF0 (0, td) = some te ∧ MVq tY te m q := by
  obtain ⟨ta, a1, a2, a3⟩ := c283_112 (t0 := tY) 1600 0 hF0 tY (by omega) (hF0_lt (by omega)) fp_rf (fun n hn => by omega)
  have ewa : wg ta = wg tY := by
    funext w a b
    exact a2.2 400 _ (by omega)
  have W1a : WF ta 1 m r := by
    obtain ⟨w1, w2, w3⟩ := W1
    refine ⟨by show hI ta 400 _ = _; rw [a2.2 400 _ (by omega)]; exact w1, w2, fun a a0 a1 => by rw [ewa]; exact w3 a a0 a1⟩
  have W0a : WF ta 0 m0 r0 := by
    obtain ⟨w1, w2, w3⟩ := W0
    refine ⟨by show hI ta 400 _ = _; rw [a2.2 400 _ (by omega)]; exact w1, w2, fun a a0 a1 => by rw [ewa]; exact w3 a a0 a1⟩
  have e446 : ∀ c, hI ta 446 c = hI tY 446 c := fun c => a2.2 446 c (by omega)
  have e404 : ∀ c, hI ta 404 c = hI tY 404 c := fun c => a2.2 404 c (by omega)
  obtain ⟨tb, b1, b2, b3⟩ := c283_163 W1a W0a (by rw [a2.2 395 33 (by omega)]; exact e33) q40 (fun c hc => by rw [e446, e404]; exact HK c hc) q 0 hF0 ta (by omega) (hF0_lt (by omega)) ⟨fp_rf, fun c c40 => ⟨fun z => by omega, fun _ n hn => ⟨rfl, rfl, rfl⟩, fun z => by omega⟩⟩
  obtain ⟨tc, c1, c2, c3⟩ := c283_281 (t0 := tb) 769 0 hF0 tb (by omega) (hF0_lt (by omega)) fp_rf (fun n hn => by omega) (fun n _ _ => rfl)
  obtain ⟨td, d1, d2, d3⟩ := c226_g (t0 := tc) (a := 1) (b := 0) (by omega) (by omega) (by omega)
  obtain ⟨te, x1, x2, x3, x4⟩ := c283_336 (t0 := td) (q := q) (by rw [d2.2 395 33 (by omega), c2.2 395 33 (by omega), b2.2 395 33 (by omega), a2.2 395 33 (by omega)]; exact e33) q40 q 0 hF0 td (by omega) (hF0_lt (by omega)) fp_rf (fun n hn => by omega) (fun n _ => rfl)
  have g404 : ∀ c, hI td 404 c = hI tY 404 c := fun c => by rw [d2.2 404 c (by omega), c2.2 404 c (by omega), b2.2 404 c (by omega), e404]
  have g446 : ∀ c, hI td 446 c = hI tY 446 c := fun c => by rw [d2.2 446 c (by omega), c2.2 446 c (by omega), b2.2 446 c (by omega), e446]
  have rows : ∀ x j, x = 405 ∨ x = 406 ∨ x = 407 → hI te x j = hI tb x j := fun x j hx => by rw [x2.2 x j (by omega), d2.2 x j (by omega), c2.2 x j (by omega)]
  have a400 : ∀ j, hI tb 400 j = hI tY 400 j := fun j => by rw [b2.2 400 j (by omega), a2.2 400 j (by omega)]
  have ra : ∀ x j, x = 405 ∨ x = 406 ∨ x = 407 ∨ x = 440 ∨ x = 442 → hI ta x j = hI tY x j := fun x j hx => a2.2 x j (by omega)
  refine ⟨ta, tb, tc, td, te, a1, b1, c1, d1, x1, ?_, fun j hj => ⟨?_, ?_, ?_⟩, fun j hj => ?_, fun c hc => ⟨?_, ?_⟩, fun c hc => by rw [x4 c hc, g404], fun c c40 => ⟨fun z n hn => ?_, fun z n hn => ?_⟩⟩
  · have fa : fp (fun x j => x = 438 ∨ x = 439 ∨ x = 441 ∨ x = 443 ∨ (404 ≤ x ∧ x ≤ 407) ∨ x = 447 ∨ (x = 400 ∧ (j < 769 ∨ (1538 ≤ j ∧ j < 2307)))) tY ta := ⟨a2.1, fun x j z => a2.2 x j (by omega)⟩
    have fb : fp (fun x j => x = 438 ∨ x = 439 ∨ x = 441 ∨ x = 443 ∨ (404 ≤ x ∧ x ≤ 407) ∨ x = 447 ∨ (x = 400 ∧ (j < 769 ∨ (1538 ≤ j ∧ j < 2307)))) ta tb := ⟨b2.1, fun x j z => b2.2 x j (by omega)⟩
    have fc : fp (fun x j => x = 438 ∨ x = 439 ∨ x = 441 ∨ x = 443 ∨ (404 ≤ x ∧ x ≤ 407) ∨ x = 447 ∨ (x = 400 ∧ (j < 769 ∨ (1538 ≤ j ∧ j < 2307)))) tb tc := ⟨c2.1, fun x j z => c2.2 x j (by omega)⟩
    have fd : fp (fun x j => x = 438 ∨ x = 439 ∨ x = 441 ∨ x = 443 ∨ (404 ≤ x ∧ x ≤ 407) ∨ x = 447 ∨ (x = 400 ∧ (j < 769 ∨ (1538 ≤ j ∧ j < 2307)))) tc td := ⟨d2.1, fun x j z => d2.2 x j (by omega)⟩
    have fe' : fp (fun x j => x = 438 ∨ x = 439 ∨ x = 441 ∨ x = 443 ∨ (404 ≤ x ∧ x ≤ 407) ∨ x = 447 ∨ (x = 400 ∧ (j < 769 ∨ (1538 ≤ j ∧ j < 2307)))) td te := ⟨x2.1, fun x j z => x2.2 x j (by omega)⟩
    exact fp_tr fa (fp_tr fb (fp_tr fc (fp_tr fd fe')))
  · have := d3 j hj
    rw [show 769 * 0 + j = j by omega, show 769 * 1 + j = 769 + j by omega] at this
    rw [x2.2 400 _ (by omega), this, c2.2 400 _ (by omega), a400]
  · rw [x2.2 400 _ (by omega), d2.2 400 _ (by omega), (c3 j hj).2, a400]
  · rw [x2.2 447 _ (by omega), d2.2 447 _ (by omega), (c3 j hj).1, a400]
  · have e : ∀ x, x = 438 ∨ x = 439 ∨ x = 441 → hI te x j = hI ta x j := fun x hx => by rw [x2.2 x j (by omega), d2.2 x j (by omega), c2.2 x j (by omega), b2.2 x j (by omega)]
    rw [e 438 (by omega), e 439 (by omega), e 441 (by omega)]
    exact a3 j hj
  · rw [x2.2 443 c (by omega), d2.2 443 c (by omega), c2.2 443 c (by omega), (b3 c (by omega)).2.2 hc, e404]
  · rw [x3 c hc, g404, g446]
  · have w := (b3 c c40).1 (by rw [e446, ewa]; exact z) n hn
    rw [e446, e404, ra 442 _ (by omega), ra 405 _ (by omega), ra 440 _ (by omega), ra 407 _ (by omega), ra 406 _ (by omega)] at w
    rw [rows 405 _ (by omega), rows 406 _ (by omega), rows 407 _ (by omega)]
    exact ⟨w.1, fun y => w.2.1 ((LSq_w ewa).2 y), fun y => w.2.2 (fun y2 => y ((LSq_w ewa).1 y2))⟩
  · have w := (b3 c c40).2.1 (by rw [e446, ewa]; exact z) n hn
    rw [ra 405 _ (by omega), ra 406 _ (by omega), ra 407 _ (by omega)] at w
    rw [rows 405 _ (by omega), rows 406 _ (by omega), rows 407 _ (by omega)]
    exact w
end LOT
