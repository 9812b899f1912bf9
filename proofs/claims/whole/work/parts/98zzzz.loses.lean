/-! a patch is made: the other side's values, and what is lost -/
/-- does a field of k come from n, among the first i names -/
def gfl (t : hS) (m : Nat) (old k : Int) (n : Nat) : Nat → Int
  | 0 => 0
  | i + 1 => if gfl t m old k n i = 0 then (if fAt t 1 k (i : Int) ≠ -1 ∧ srN t m old k i = (n : Int) then 1 else 0) else 1
/-- the rows of all creatures -/
def RAq (t0 t : hS) (m i : Nat) : Prop := fp (fun x _ => x = 443 ∨ x = 405 ∨ x = 406 ∨ x = 407) t0 t ∧ ∀ c, c < 40 → ((c < i ∧ hI t0 446 c ≠ -1 ∧ wg t0 1 (hI t0 446 c) 3 = 1) → RWq t0 t m (hI t0 404 c) (hI t0 446 c) c) ∧ (¬ (c < i ∧ hI t0 446 c ≠ -1 ∧ wg t0 1 (hI t0 446 c) 3 = 1) → RSq t0 t c) ∧ (c < i → hI t 443 c = hI t0 404 c)
section LOS
variable {t t0 t' t1 tZ : hS} {m m0 q c i : Nat} {r r0 : Int → Nat} {old k u : Int}
theorem gfl_b : ∀ {n : Nat} (i : Nat), gfl t m old k n i = 0 ∨ gfl t m old k n i = 1
  | _, 0 => .inl rfl
  | n, i + 1 => by
    show (if gfl t m old k n i = 0 then (if fAt t 1 k (i : Int) ≠ -1 ∧ srN t m old k i = (n : Int) then (1 : Int) else 0) else 1) = 0 ∨ (if gfl t m old k n i = 0 then (if fAt t 1 k (i : Int) ≠ -1 ∧ srN t m old k i = (n : Int) then (1 : Int) else 0) else 1) = 1
    split
    · split
      · exact .inr rfl
      · exact .inl rfl
    · exact .inr rfl
theorem gfl_0 {n : Nat} : ∀ (i : Nat), gfl t m old k n i = 0 ↔ ∀ a : Nat, a < i → fAt t 1 k (a : Int) ≠ -1 → srN t m old k a ≠ (n : Int)
  | 0 => ⟨fun _ a ha => by omega, fun _ => rfl⟩
  | i + 1 => by
    have ih := gfl_0 (n := n) i
    show (if gfl t m old k n i = 0 then (if fAt t 1 k (i : Int) ≠ -1 ∧ srN t m old k i = (n : Int) then (1 : Int) else 0) else 1) = 0 ↔ _
    refine ⟨fun z a ha f => ?_, fun z => ?_⟩
    · by_cases q : gfl t m old k n i = 0
      · rw [if_pos q] at z
        by_cases w : a = i
        · subst w
          intro e
          rw [if_pos ⟨f, e⟩] at z
          omega
        · exact ih.1 q a (by omega) f
      · rw [if_neg q] at z
        omega
    · have q : gfl t m old k n i = 0 := ih.2 (fun a ha => z a (by omega))
      rw [if_pos q, if_neg (fun w => z i (by omega) w.1 w.2)]
theorem LSq_w {n : Nat} (e : wg t = wg tZ) : LSq t m old k n ↔ LSq tZ m old k n := by
  unfold LSq srN SRC sBq orgq fAt fIx
  rw [e]
theorem RWq_w (e : wg t0 = wg tZ) (Q : RWq t0 t m old k c) : ∀ n : Nat, n < 40 → (LSq tZ m old k n → hI t 407 (40 * c + n) = 1 ∧ hI t 406 (40 * c + n) = hI t0 405 (40 * c + n)) ∧ (¬ LSq tZ m old k n → hI t 407 (40 * c + n) = hI t0 407 (40 * c + n) ∧ hI t 406 (40 * c + n) = hI t0 406 (40 * c + n)) := fun n hn =>
  ⟨fun z => (Q n hn).2.1 ((LSq_w e).2 z), fun z => (Q n hn).2.2 (fun y => z ((LSq_w e).1 y))⟩
theorem c288_33 (W1 : WF t 1 m r) (W0 : WF t 0 m0 r0) (hk : 0 ≤ k ∧ k < m) (ho : 0 ≤ old ∧ old < m0) (c40 : c < 40) (e404 : hI t 404 c = old) {n : Nat} (n40 : n < 40) : ∀ (D i N : Nat), i + D = 40 → D < N → lp (fun s => c288_b33 (c : Int) k (n : Int) t s.1 s.2) N (gfl t m old k n i, (i : Int)) = some (gfl t m old k n 40)
  | 0, i, N, hi, hN => by
    obtain ⟨N, rfl⟩ : ∃ n, N = n + 1 := ⟨N - 1, by omega⟩
    obtain rfl : i = 40 := by omega
    refine lp_d ?_
    show c288_b33 (c : Int) k (n : Int) t (gfl t m old k n 40) ((40 : Nat) : Int) = _
    unfold c288_b33
    rw [if_pos (by omega)]
  | D + 1, i, N, hi, hN => by
    obtain ⟨N, rfl⟩ : ∃ n, N = n + 1 := ⟨N - 1, by omega⟩
    refine (lp_n (s' := (gfl t m old k n (i + 1), ((i + 1 : Nat) : Int))) ?_).trans (c288_33 W1 W0 hk ho c40 e404 n40 D (i + 1) N (by omega) (by omega))
    show c288_b33 (c : Int) k (n : Int) t (gfl t m old k n i) (i : Int) = some (Sum.inl ((if gfl t m old k n i = 0 then (if fAt t 1 k (i : Int) ≠ -1 ∧ srN t m old k i = (n : Int) then (1 : Int) else 0) else 1), ((i + 1 : Nat) : Int)))
    unfold c288_b33 c288_j76 c288_j80 c288_j81
    rw [if_neg (by omega), wadd_n (by omega)]
    by_cases q : gfl t m old k n i = 0
    · rw [if_pos q, if_pos q]
      refine bnd (c237_w W1 (by omega) (by omega) (.inr hk)) ?_
      by_cases f : fAt t 1 k (i : Int) = -1
      · rw [if_pos f, if_neg (fun w => w.1 f)]
      · rw [if_neg f]
        refine bnd (aIs_s (by omega) (by omega)) ?_
        rw [Int.toNat_natCast, e404]
        refine bnd (c287_e (n := (i : Int)) W1 (by omega) W0 (by omega) hk ho rfl f) ?_
        show (if srN t m old k i = (n : Int) then some (Sum.inl ((1 : Int), ((i + 1 : Nat) : Int))) else some (Sum.inl ((0 : Int), ((i + 1 : Nat) : Int)))) = _
        by_cases w : srN t m old k i = (n : Int)
        · rw [if_pos w, if_pos ⟨f, w⟩]
        · rw [if_neg w, if_neg (fun y => w y.2)]
    · rw [if_neg q, if_neg q]
/-- what is lost of creature c -/
theorem c288_l (W1 : WF t0 1 m r) (W0 : WF t0 0 m0 r0) (hk : 0 ≤ k ∧ k < m) (ho : 0 ≤ old ∧ old < m0) (c40 : c < 40) (e404 : hI t0 404 c = old) : ∀ (D i N : Nat) (t : hS), i + D = 40 → D < N → fp (fun x j => (x = 406 ∨ x = 407) ∧ 40 * c ≤ j ∧ j < 40 * c + 40) t0 t → (∀ n, n < i → (LSq t0 m old k n → hI t 407 (40 * c + n) = 1 ∧ hI t 406 (40 * c + n) = hI t0 405 (40 * c + n)) ∧ (¬ LSq t0 m old k n → hI t 407 (40 * c + n) = hI t0 407 (40 * c + n) ∧ hI t 406 (40 * c + n) = hI t0 406 (40 * c + n))) → (∀ n, i ≤ n → hI t 407 (40 * c + n) = hI t0 407 (40 * c + n) ∧ hI t 406 (40 * c + n) = hI t0 406 (40 * c + n)) → ∃ t', lp (fun s => c288_b2 (c : Int) k s.1 s.2) N ((i : Int), t) = some t' ∧ fp (fun x j => (x = 406 ∨ x = 407) ∧ 40 * c ≤ j ∧ j < 40 * c + 40) t0 t' ∧ ∀ n, n < 40 → (LSq t0 m old k n → hI t' 407 (40 * c + n) = 1 ∧ hI t' 406 (40 * c + n) = hI t0 405 (40 * c + n)) ∧ (¬ LSq t0 m old k n → hI t' 407 (40 * c + n) = hI t0 407 (40 * c + n) ∧ hI t' 406 (40 * c + n) = hI t0 406 (40 * c + n))
  | 0, i, N, t, hi, hN, f, H, _ => by
    obtain ⟨N, rfl⟩ : ∃ n, N = n + 1 := ⟨N - 1, by omega⟩
    obtain rfl : i = 40 := by omega
    refine ⟨t, lp_d ?_, f, H⟩
    show c288_b2 (c : Int) k ((40 : Nat) : Int) t = _
    unfold c288_b2
    rw [if_pos (by omega)]
  | D + 1, i, N, t, hi, hN, f, H, H2 => by
    obtain ⟨N, rfl⟩ : ∃ n, N = n + 1 := ⟨N - 1, by omega⟩
    have ew : wg t = wg t0 := by
      funext w a b
      exact f.2 400 _ (by omega)
    have W1t : WF t 1 m r := by
      obtain ⟨w1, w2, w3⟩ := W1
      refine ⟨by show hI t 400 _ = _; rw [f.2 400 _ (by omega)]; exact w1, w2, fun a a0 a1 => by rw [ew]; exact w3 a a0 a1⟩
    have W0t : WF t 0 m0 r0 := by
      obtain ⟨w1, w2, w3⟩ := W0
      refine ⟨by show hI t 400 _ = _; rw [f.2 400 _ (by omega)]; exact w1, w2, fun a a0 a1 => by rw [ew]; exact w3 a a0 a1⟩
    have e404t : hI t 404 c = old := by rw [f.2 404 c (by omega)]; exact e404
    have go : ∀ t1, fp (fun x j => (x = 406 ∨ x = 407) ∧ 40 * c ≤ j ∧ j < 40 * c + 40) t t1 → ((LSq t0 m old k i → hI t1 407 (40 * c + i) = 1 ∧ hI t1 406 (40 * c + i) = hI t0 405 (40 * c + i)) ∧ (¬ LSq t0 m old k i → hI t1 407 (40 * c + i) = hI t0 407 (40 * c + i) ∧ hI t1 406 (40 * c + i) = hI t0 406 (40 * c + i))) → (∀ n, n ≠ i → hI t1 407 (40 * c + n) = hI t 407 (40 * c + n) ∧ hI t1 406 (40 * c + n) = hI t 406 (40 * c + n)) → c288_b2 (c : Int) k (i : Int) t = some (.inl (((i + 1 : Nat) : Int), t1)) → ∃ t', lp (fun s => c288_b2 (c : Int) k s.1 s.2) (N + 1) ((i : Int), t) = some t' ∧ fp (fun x j => (x = 406 ∨ x = 407) ∧ 40 * c ≤ j ∧ j < 40 * c + 40) t0 t' ∧ ∀ n, n < 40 → (LSq t0 m old k n → hI t' 407 (40 * c + n) = 1 ∧ hI t' 406 (40 * c + n) = hI t0 405 (40 * c + n)) ∧ (¬ LSq t0 m old k n → hI t' 407 (40 * c + n) = hI t0 407 (40 * c + n) ∧ hI t' 406 (40 * c + n) = hI t0 406 (40 * c + n)) := fun t1 f1 e1 e2 e => by
      obtain ⟨t', a1, a2, a3⟩ := c288_l W1 W0 hk ho c40 e404 D (i + 1) N t1 (by omega) (by omega) (fp_tr f f1) (fun n hn => by
        by_cases z : n = i
        · rw [z]; exact e1
        · rw [(e2 n z).1, (e2 n z).2]
          exact H n (by omega)) (fun n hn => by
        rw [(e2 n (by omega)).1, (e2 n (by omega)).2]
        exact H2 n (by omega))
      refine ⟨t', ?_, a2, a3⟩
      refine (lp_n (s' := (((i + 1 : Nat) : Int), t1)) ?_).trans a1
      exact e
    have j131 : ∀ tA, c288_j131 (i : Int) tA = some (.inl (((i + 1 : Nat) : Int), tA)) := fun tA => by
      unfold c288_j131
      rw [wadd_n (by omega)]
    have ewm : wadd (wmul 40 (c : Int)) (i : Int) = ((40 * c + i : Nat) : Int) := by rw [wmul_e (by omega) (by omega), wadd_e (by omega) (by omega)]; omega
    have eF : c237 0 old (i : Int) t = some (fAt t0 0 old (i : Int)) := by
      rw [c237_w W0t (by omega) (by omega) (.inr ho)]
      unfold fAt fIx
      rw [ew]
    have top : ∀ R, (if fAt t0 0 old (i : Int) = -1 then c288_j131 (i : Int) t else (if gfl t m old k i 40 = 0 then (wIs t 407 1600 (wadd (wmul 40 (c : Int)) (i : Int)) (wbol 1)).bind (fun h14 => (aIs h14 405 1600 (wadd (wmul 40 (c : Int)) (i : Int))).bind (fun v15 => (wIs h14 406 1600 (wadd (wmul 40 (c : Int)) (i : Int)) v15).bind (fun h16 => c288_j131 (i : Int) h16))) else c288_j131 (i : Int) t)) = R → c288_b2 (c : Int) k (i : Int) t = R := fun R eR => by
      unfold c288_b2
      rw [if_neg (show ¬ (40 : Int) ≤ (i : Int) by omega)]
      refine bnd (aIs_s (by omega) (by omega)) ?_
      rw [Int.toNat_natCast, e404t]
      refine bnd eF ?_
      by_cases z : fAt t0 0 old (i : Int) = -1
      · rw [if_pos z] at eR ⊢
        exact eR
      · rw [if_neg z] at eR ⊢
        refine bnd (show lp (fun s => c288_b33 (c : Int) k (i : Int) t s.1 s.2) hF0 (0, 0) = some (gfl t m old k i 40) from c288_33 W1t W0t hk ho c40 e404t (show i < 40 by omega) 40 0 hF0 (by omega) (hF0_lt (by omega))) ?_
        exact eR
    have eLS : LSq t0 m old k i ↔ (fAt t0 0 old (i : Int) ≠ -1 ∧ gfl t m old k i 40 = 0) := by
      rw [← LSq_w ew]
      unfold LSq
      rw [gfl_0]
      have : fAt t 0 old (i : Int) = fAt t0 0 old (i : Int) := by unfold fAt fIx; rw [ew]
      rw [this]
    by_cases z : LSq t0 m old k i
    · have z' := eLS.1 z
      obtain ⟨ta, ea⟩ : ∃ ta, ta = sI t 407 (40 * c + i) 1 := ⟨_, rfl⟩
      obtain ⟨tb, eb⟩ : ∃ tb, tb = sI ta 406 (40 * c + i) (hI t0 405 (40 * c + i)) := ⟨_, rfl⟩
      have fa : fp (fun x j => (x = 406 ∨ x = 407) ∧ 40 * c ≤ j ∧ j < 40 * c + 40) t ta := by rw [ea]; exact fp_sI ⟨.inr rfl, by omega, by omega⟩
      have fb : fp (fun x j => (x = 406 ∨ x = 407) ∧ 40 * c ≤ j ∧ j < 40 * c + 40) ta tb := by rw [eb]; exact fp_sI ⟨.inl rfl, by omega, by omega⟩
      have v7 : hI tb 407 (40 * c + i) = 1 := by rw [eb, hI_sI, if_neg (by omega), ea, hI_sI, if_pos ⟨rfl, rfl⟩]
      have v6 : hI tb 406 (40 * c + i) = hI t0 405 (40 * c + i) := by rw [eb, hI_sI, if_pos ⟨rfl, rfl⟩]
      have e7 : sI t 407 (((40 * c + i : Nat) : Int)).toNat (wbol 1) = ta := by rw [Int.toNat_natCast, ea]; rfl
      have e6 : sI ta 406 (((40 * c + i : Nat) : Int)).toNat (hI t0 405 (40 * c + i)) = tb := by rw [Int.toNat_natCast]; exact eb.symm
      have r5 : hI ta 405 (40 * c + i) = hI t0 405 (40 * c + i) := by rw [fa.2 405 _ (by omega), f.2 405 _ (by omega)]
      have step : c288_b2 (c : Int) k (i : Int) t = some (.inl (((i + 1 : Nat) : Int), tb)) := by
        refine top _ ?_
        rw [if_neg z'.1, if_pos z'.2, ewm]
        clear ewm
        refine bnd ((wIs_s (by omega) (by omega)).trans (congrArg some e7)) ?_
        refine bnd (aIs_s (by omega) (by omega)) ?_
        rw [Int.toNat_natCast, r5]
        refine bnd ((wIs_s (by omega) (by omega)).trans (congrArg some e6)) ?_
        exact j131 tb
      clear ewm
      exact go tb (fp_tr fa fb) ⟨fun _ => ⟨v7, v6⟩, fun y => absurd z y⟩ (fun n hn => ⟨by rw [eb, hI_sI, if_neg (by omega), ea, hI_sI, if_neg (by omega)], by rw [eb, hI_sI, if_neg (by omega), ea, hI_sI, if_neg (by omega)]⟩) step
    · clear ewm
      refine go t fp_rf ⟨fun y => absurd y z, fun _ => H2 i (Nat.le_refl _)⟩ (fun _ _ => ⟨rfl, rfl⟩) (top _ ?_)
      by_cases f0 : fAt t0 0 old (i : Int) = -1
      · rw [if_pos f0]
        exact j131 t
      · rw [if_neg f0, if_neg (fun y => z (eLS.2 ⟨f0, y⟩))]
        exact j131 t
/-- the values of creature c that have come -/
theorem c283_225 (c40 : c < 40) : ∀ (D i N : Nat) (t : hS), i + D = 40 → D < N → fp (fun x j => x = 405 ∧ 40 * c ≤ j ∧ j < 40 * c + 40) t0 t → (∀ n, n < i → hI t 405 (40 * c + n) = if hI t0 442 (40 * c + n) = 0 then hI t0 405 (40 * c + n) else hI t0 440 (40 * c + n)) → (∀ n, i ≤ n → hI t 405 (40 * c + n) = hI t0 405 (40 * c + n)) → ∃ t', lp (fun s => c283_b225 (c : Int) s.1 s.2) N ((i : Int), t) = some t' ∧ fp (fun x j => x = 405 ∧ 40 * c ≤ j ∧ j < 40 * c + 40) t0 t' ∧ ∀ n, n < 40 → hI t' 405 (40 * c + n) = if hI t0 442 (40 * c + n) = 0 then hI t0 405 (40 * c + n) else hI t0 440 (40 * c + n)
  | 0, i, N, t, hi, hN, f, H, _ => by
    obtain ⟨N, rfl⟩ : ∃ n, N = n + 1 := ⟨N - 1, by omega⟩
    obtain rfl : i = 40 := by omega
    refine ⟨t, lp_d ?_, f, H⟩
    show c283_b225 (c : Int) ((40 : Nat) : Int) t = _
    unfold c283_b225
    rw [if_pos (by omega)]
  | D + 1, i, N, t, hi, hN, f, H, H2 => by
    obtain ⟨N, rfl⟩ : ∃ n, N = n + 1 := ⟨N - 1, by omega⟩
    have go : ∀ t1, fp (fun x j => x = 405 ∧ 40 * c ≤ j ∧ j < 40 * c + 40) t t1 → (hI t1 405 (40 * c + i) = if hI t0 442 (40 * c + i) = 0 then hI t0 405 (40 * c + i) else hI t0 440 (40 * c + i)) → (∀ n, n ≠ i → hI t1 405 (40 * c + n) = hI t 405 (40 * c + n)) → c283_b225 (c : Int) (i : Int) t = some (.inl (((i + 1 : Nat) : Int), t1)) → ∃ t', lp (fun s => c283_b225 (c : Int) s.1 s.2) (N + 1) ((i : Int), t) = some t' ∧ fp (fun x j => x = 405 ∧ 40 * c ≤ j ∧ j < 40 * c + 40) t0 t' ∧ ∀ n, n < 40 → hI t' 405 (40 * c + n) = if hI t0 442 (40 * c + n) = 0 then hI t0 405 (40 * c + n) else hI t0 440 (40 * c + n) := fun t1 f1 e1 e2 e => by
      obtain ⟨t', a1, a2, a3⟩ := c283_225 c40 D (i + 1) N t1 (by omega) (by omega) (fp_tr f f1) (fun n hn => by
        by_cases z : n = i
        · rw [z]; exact e1
        · rw [e2 n z]
          exact H n (by omega)) (fun n hn => by rw [e2 n (by omega)]; exact H2 n (by omega))
      refine ⟨t', ?_, a2, a3⟩
      refine (lp_n (s' := (((i + 1 : Nat) : Int), t1)) ?_).trans a1
      exact e
    have ewm : ∀ {x : Int}, x = (c : Int) → wadd (wmul 40 x) (i : Int) = ((40 * c + i : Nat) : Int) := fun hx => by rw [hx, wmul_e (by omega) (by omega), wadd_e (by omega) (by omega)]; omega
    have e442 : hI t 442 (40 * c + i) = hI t0 442 (40 * c + i) := f.2 442 _ (by omega)
    have e440 : hI t 440 (40 * c + i) = hI t0 440 (40 * c + i) := f.2 440 _ (by omega)
    by_cases z : hI t0 442 (40 * c + i) = 0
    · refine go t fp_rf (by rw [if_pos z]; exact H2 i (Nat.le_refl _)) (fun _ _ => rfl) ?_
      unfold c283_b225 c283_j267
      rw [if_neg (show ¬ (40 : Int) ≤ (i : Int) by omega), ewm rfl]
      refine bnd (aIs_s (by omega) (by omega)) ?_
      rw [Int.toNat_natCast, e442, if_pos z, wadd_n (by omega)]
    · obtain ⟨t1, et⟩ : ∃ t1, t1 = sI t 405 (40 * c + i) (hI t0 440 (40 * c + i)) := ⟨_, rfl⟩
      refine go t1 (by rw [et]; exact fp_sI ⟨rfl, by omega, by omega⟩) (by rw [if_neg z, et, hI_sI, if_pos ⟨rfl, rfl⟩]) (fun n hn => by rw [et, hI_sI, if_neg (by omega)]) ?_
      unfold c283_b225 c283_j267
      rw [if_neg (show ¬ (40 : Int) ≤ (i : Int) by omega), ewm rfl]
      refine bnd (aIs_s (by omega) (by omega)) ?_
      rw [Int.toNat_natCast, e442, if_neg z]
      refine bnd (aIs_s (by omega) (by omega)) ?_
      rw [Int.toNat_natCast, e440]
      refine bnd ((wIs_s (by omega) (by omega)).trans (congrArg some (show sI t 405 (((40 * c + i : Nat) : Int)).toNat (hI t0 440 (40 * c + i)) = t1 by rw [Int.toNat_natCast]; exact et.symm))) ?_
      rw [wadd_n (by omega)]
end LOS
