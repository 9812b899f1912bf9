/-! the other side's look: the whole of it -/
/-- the sort that the other side gives -/
def mt (s : Int) : Int := if s = 1 then 2 else if s = 2 then 3 else if s = 3 then 1 else if s = 4 then 0 else if s = 250 then 201 else if 200 ≤ s then s - 100 else 200 + s
theorem lrn_fj {h h' : hS} (W : lrn h) (f : fj h h') : lrn h' := ⟨by rw [f.2.2.1 395 9 (by omega)]; exact W.1, fun i hi => by rw [f.2.2.2 398 i (by omega)]; exact W.2 i hi⟩
theorem c188_w {t0 : Nat} : ∀ (k j N : Nat) (h : hS), j + k = 22 → k < N → (∀ t : Nat, t < 22 → (hJ h 398 t = hJ h 395 10 ↔ t = t0)) → ∃ h', lp (fun s => c188_b157 s.1 s.2) N ((j : Int), h) = some h' ∧ fj h h' ∧ hI h' 395 3 = (if j ≤ t0 ∧ t0 < 22 then 100 + (t0 : Int) else hI h 395 3) ∧ hI h' 395 2 = hI h 395 2 ∧ hI h' 395 4 = hI h 395 4 ∧ hJ h' 395 10 = hJ h 395 10
  | 0, j, N, h, e1, e2, e3 => by
    obtain ⟨N, rfl⟩ : ∃ N1, N = N1 + 1 := ⟨N - 1, by omega⟩
    refine ⟨h, lp_d ?_, fj_rf, by rw [if_neg (by omega)], rfl, rfl, rfl⟩
    show c188_b157 _ h = _
    unfold c188_b157
    rw [if_pos (by omega)]
  | k + 1, j, N, h, e1, e2, e3 => by
    obtain ⟨N, rfl⟩ : ∃ N1, N = N1 + 1 := ⟨N - 1, by omega⟩
    have st : ∀ v, c188_j189 v (j : Int) h = some (.inl (((j + 1 : Nat) : Int), sI h 395 3 v)) := by
      intro v
      unfold c188_j189
      rw [wadd_e (by omega) (by omega)]
      rfl
    have fi : ∀ v, fj h (sI h 395 3 v) := fun v => fj_sI (.inr (.inl rfl))
    have go : ∀ v, (v = if j = t0 then 100 + (t0 : Int) else hI h 395 3) → ∃ h', lp (fun s => c188_b157 s.1 s.2) N (((j + 1 : Nat) : Int), sI h 395 3 v) = some h' ∧ fj h h' ∧ hI h' 395 3 = (if j ≤ t0 ∧ t0 < 22 then 100 + (t0 : Int) else hI h 395 3) ∧ hI h' 395 2 = hI h 395 2 ∧ hI h' 395 4 = hI h 395 4 ∧ hJ h' 395 10 = hJ h 395 10 := by
      intro v hv
      obtain ⟨h', g1, g2, g3, g4, g5, g6⟩ := c188_w (t0 := t0) k (j + 1) N (sI h 395 3 v) (by omega) (by omega) e3
      refine ⟨h', g1, fj_tr (fi v) g2, ?_, g4.trans (by rw [hI_sI, if_neg (by omega)]), g5.trans (by rw [hI_sI, if_neg (by omega)]), g6⟩
      rw [g3, show hI (sI h 395 3 v) 395 3 = v by rw [hI_sI, if_pos ⟨rfl, rfl⟩], hv]
      by_cases c : j = t0
      · rw [if_neg (by omega), if_pos c, if_pos (by omega)]
      · by_cases c2 : j + 1 ≤ t0 ∧ t0 < 22
        · rw [if_pos c2, if_pos (by omega)]
        · rw [if_neg c2, if_neg c, if_neg (by omega)]
    by_cases c : j = t0
    · obtain ⟨h', g1, g⟩ := go (100 + (t0 : Int)) (by rw [if_pos c])
      refine ⟨h', (lp_n (s' := (((j + 1 : Nat) : Int), sI h 395 3 (100 + (t0 : Int)))) ?_).trans g1, g⟩
      show c188_b157 _ h = _
      unfold c188_b157
      rw [if_neg (by omega), aJs_s (by omega) (by omega)]
      simp only [bsome, Int.toNat_natCast]
      rw [if_pos ((wcmp_0 _ _).mpr ((e3 j (by omega)).mpr c)), wadd_e (by omega) (by omega), st, c]
    · obtain ⟨h', g1, g⟩ := go (hI h 395 3) (by rw [if_neg c])
      refine ⟨h', (lp_n (s' := (((j + 1 : Nat) : Int), sI h 395 3 (hI h 395 3))) ?_).trans g1, g⟩
      show c188_b157 _ h = _
      unfold c188_b157
      rw [if_neg (by omega), aJs_s (by omega) (by omega)]
      simp only [bsome, Int.toNat_natCast]
      rw [if_neg (fun z => c ((e3 j (by omega)).mp ((wcmp_0 _ _).mp z))), st]
def wkf (t : Nat) : Int := wkC.getD t 0
theorem wkf_inj {i j : Nat} (hi : i < 22) (hj : j < 22) (e : wkf i = wkf j) : i = j := by
  have key : ∀ i : Nat, i < 22 → ∀ j : Nat, j < 22 → wkC.getD i 0 = wkC.getD j 0 → i = j := by decide +kernel
  exact key i hi j hj e
/-- what stands in the look after one -/
def LKR (n : Nat) (b : Nat → Int) (a : Nat) (h : hS) : Prop := hI h 395 4 = (a : Int) ∧ (n ≤ a → hI h 395 3 = 0 ∧ hI h 395 2 = (a : Int)) ∧ (a < n → hI h 395 3 = mt (lexT b n wkf a).1 ∧ hI h 395 2 = (((lexT b n wkf a).2.2 : Nat) : Int) ∧ (smL (b a) = true → (lexT b n wkf a).1 ≠ 3 → W2R (lexT b n wkf a).2.1 (hJ h 395 10)) ∧ ((lexT b n wkf a).1 = 2 → hI h 395 5 = (lexT b n wkf a).2.1))
theorem c188_sgn {a : Nat} {c : Int} {h : hS} {n : Nat} {b : Nat → Int} (T : txr h n b) (p : hI h 395 2 = a) (ha : a < n) : ∃ h', c188_j395 c h = some h' ∧ fj h h' ∧ hI h' 395 4 = hI h 395 4 ∧ (if c = 61 ∧ a + 1 < n ∧ b (a + 1) = 61 then hI h' 395 3 = 201 ∧ hI h' 395 2 = ((a + 2 : Nat) : Int) else hI h' 395 3 = hI h 395 3 ∧ hI h' 395 2 = ((a + 1 : Nat) : Int)) := by
  have hn := T.2.1
  unfold c188_j395
  rw [p, wadd_e (by omega) (by omega)]
  simp only [bsome]
  have f1 : fj h (sI h 395 2 ((a : Int) + 1)) := fj_sI (.inl rfl)
  have T1 := txr_fj T f1
  have p1 : hI (sI h 395 2 ((a : Int) + 1)) 395 2 = ((a + 1 : Nat) : Int) := by rw [hI_sI, if_pos ⟨rfl, rfl⟩]; omega
  have q1 : hI (sI h 395 2 ((a : Int) + 1)) 395 3 = hI h 395 3 := by rw [hI_sI, if_neg (by omega)]
  have q2 : hI (sI h 395 2 ((a : Int) + 1)) 395 4 = hI h 395 4 := by rw [hI_sI, if_neg (by omega)]
  generalize sI h 395 2 ((a : Int) + 1) = h1 at f1 T1 p1 q1 q2 ⊢
  by_cases c1 : c = 61
  · rw [if_pos c1, p1, c189_e T1]
    simp only [bsome]
    by_cases c2 : a + 1 < n ∧ b (a + 1) = 61
    · rw [see_lt c2.1, if_pos c2.2]
      have r1 : hI (sI h1 395 3 201) 395 2 = ((a + 1 : Nat) : Int) := by rw [hI_sI, if_neg (by omega)]; exact p1
      rw [r1, wadd_e (by omega) (by omega)]
      refine ⟨_, rfl, fj_tr f1 (fj_tr (fj_sI (.inr (.inl rfl))) (fj_sI (.inl rfl))), ?_, ?_⟩
      · rw [hI_sI, if_neg (by omega), hI_sI, if_neg (by omega)]; exact q2
      · rw [if_pos ⟨c1, c2⟩]
        constructor
        · rw [hI_sI, if_neg (by omega), hI_sI, if_pos ⟨rfl, rfl⟩]
        · rw [hI_sI, if_pos ⟨rfl, rfl⟩]; omega
    · have c3 : ¬ see n b (a + 1) = 61 := by
        unfold see
        by_cases d : n ≤ a + 1
        · rw [if_pos d]; omega
        · rw [if_neg d]; exact fun z => c2 ⟨by omega, z⟩
      rw [if_neg c3]
      exact ⟨_, rfl, f1, q2, by rw [if_neg (fun z => c2 z.2)]; exact ⟨q1, p1⟩⟩
  · rw [if_neg c1]
    exact ⟨_, rfl, f1, q2, by rw [if_neg (fun z => c1 z.1)]; exact ⟨q1, p1⟩⟩
theorem sgn_or (c : Int) : sgn c = true ↔ c = 123 ∨ c = 125 ∨ c = 40 ∨ c = 41 ∨ c = 59 ∨ c = 61 ∨ c = 43 ∨ c = 45 ∨ c = 42 ∨ c = 47 ∨ c = 60 := by
  unfold sgn sgnL
  simp
theorem ite_or {α : Type} (p q : Prop) [Decidable p] [Decidable q] (x y : α) : (if p then x else if q then x else y) = if p ∨ q then x else y := by
  by_cases a : p
  · rw [if_pos a, if_pos (.inl a)]
  · by_cases b : q
    · rw [if_neg a, if_pos b, if_pos (.inr b)]
    · rw [if_neg a, if_neg b, if_neg (fun z => z.elim a b)]
theorem c188_ch (c : Int) (h : hS) : (if c = 123 then c188_j376 c h else if c = 125 then c188_j376 c h else if c = 40 then c188_j376 c h else if c = 41 then c188_j376 c h else if c = 59 then c188_j376 c h else if c = 61 then c188_j376 c h else if c = 43 then c188_j376 c h else if c = 45 then c188_j376 c h else if c = 42 then c188_j376 c h else if c = 47 then c188_j376 c h else if c = 60 then c188_j376 c h else c188_j381 0 c h) = c188_j381 (if sgn c = true then 1 else 0) c h := by
  unfold c188_j376
  rw [ite_or (c = 47), ite_or (c = 42), ite_or (c = 45), ite_or (c = 43), ite_or (c = 61), ite_or (c = 59), ite_or (c = 41), ite_or (c = 40), ite_or (c = 125), ite_or (c = 123)]
  by_cases s : sgn c = true
  · rw [if_pos s, if_pos ((sgn_or c).mp s)]
  · rw [if_neg s, if_neg (fun z => s ((sgn_or c).mpr z))]
theorem mt_w {t : Nat} (h : t < 22) : mt (200 + (t : Int)) = 100 + (t : Int) := by
  unfold mt
  rw [if_neg (by omega), if_neg (by omega), if_neg (by omega), if_neg (by omega), if_neg (by omega), if_pos (by omega)]
  omega
theorem mt_s {c : Int} (s : sgn c = true) : mt c = 200 + c := by
  have := (sgn_or c).mp s
  unfold mt
  rw [if_neg (by omega), if_neg (by omega), if_neg (by omega), if_neg (by omega), if_neg (by omega), if_neg (by omega)]
section LO3
variable {h : hS} {n : Nat} {b : Nat → Int}
theorem c188_e (T : txr h n b) (W : lrn h) {i : Nat} (e1 : hI h 395 2 = i) (hi : i ≤ n) : ∃ h', c188 h = some h' ∧ fj h h' ∧ LKR n b (spn spc b (n - i) i) h' := by
  have hn := T.2.1
  obtain ⟨h1, g1, g2, g3⟩ := c188_sp (n - i) i hF0 h T e1 (by omega) (hF0_lt (by omega))
  obtain ⟨b1, b2, b3, b4⟩ := spn_b (P := spc) (b := b) (n - i) i
  generalize spn spc b (n - i) i = a at g3 b1 b2 b3 b4 ⊢
  have T1 := txr_fj T g2
  have f7 : fj h1 (sI h1 395 4 (hI h1 395 2)) := fj_sI (.inr (.inr (.inl rfl)))
  have T7 := txr_fj T1 f7
  have p7 : hI (sI h1 395 4 (hI h1 395 2)) 395 2 = a := by rw [hI_sI, if_neg (by omega)]; exact g3
  have q7 : hI (sI h1 395 4 (hI h1 395 2)) 395 4 = a := by rw [hI_sI, if_pos ⟨rfl, rfl⟩]; exact g3
  have W7 : lrn (sI h1 395 4 (hI h1 395 2)) := lrn_fj (lrn_fj W g2) f7
  have F7 := fj_tr g2 f7
  unfold c188
  rw [g1]
  simp only [bsome]
  generalize sI h1 395 4 (hI h1 395 2) = h7 at F7 T7 p7 q7 W7 ⊢
  clear f7 g1 g2 g3 T1
  rw [p7, c189_e T7]
  simp only [bsome]
  have f9 : fj h7 (sI h7 395 3 1) := fj_sI (.inr (.inl rfl))
  have T9 := txr_fj T7 f9
  have p9 : hI (sI h7 395 3 1) 395 2 = a := by rw [hI_sI, if_neg (by omega)]; exact p7
  have q9 : hI (sI h7 395 3 1) 395 4 = a := by rw [hI_sI, if_neg (by omega)]; exact q7
  have s9 : hI (sI h7 395 3 1) 395 3 = 1 := by rw [hI_sI, if_pos ⟨rfl, rfl⟩]
  have W9 : lrn (sI h7 395 3 1) := lrn_fj W7 f9
  have F9 := fj_tr F7 f9
  generalize sI h7 395 3 1 = h9 at F9 T9 p9 q9 s9 W9 ⊢
  clear f9 F7 T7 p7 q7 W7 h7 h1
  by_cases an : n ≤ a
  · rw [see_ge an, if_pos rfl]
    refine ⟨_, rfl, fj_tr F9 (fj_sI (.inr (.inl rfl))), ?_, fun _ => ⟨?_, ?_⟩, fun z => absurd z (by omega)⟩
    · rw [hI_sI, if_neg (by omega)]; exact q9
    · rw [hI_sI, if_pos ⟨rfl, rfl⟩]
    · rw [hI_sI, if_neg (by omega)]; exact p9
  have al : a < n := by omega
  obtain ⟨x1, x2, x3⟩ := T9.2.2 a al
  rw [see_lt al, if_neg (by omega), c190_e]
  simp only [bsome]
  by_cases c1 : smL (b a) = true
  · rw [if_pos c1, if_neg (show ¬ (1 : Int) = 0 by omega)]
    have f48 : fj h9 (sJ h9 395 10 (Int64.ofNat 0)) := fj_sJ
    have T48 := txr_fj T9 f48
    have W48 := lrn_fj W9 f48
    have k48 : hJ (sJ h9 395 10 (Int64.ofNat 0)) 395 10 = Int64.ofInt (kk 64 (ltr b a) (min (a - a) 7)) := by
      rw [hJ_sJ, if_pos ⟨rfl, rfl⟩, show min (a - a) 7 = 0 by omega]; rfl
    have p48 : hI (sJ h9 395 10 (Int64.ofNat 0)) 395 2 = a := p9
    have q48 : hI (sJ h9 395 10 (Int64.ofNat 0)) 395 4 = a := q9
    have s48 : hI (sJ h9 395 10 (Int64.ofNat 0)) 395 3 = 1 := s9
    have F48 := fj_tr F9 f48
    generalize sJ h9 395 10 (Int64.ofNat 0) = h48 at F48 T48 W48 k48 p48 q48 s48 ⊢
    obtain ⟨h57, l1, l2, l3, l4, l5, l6⟩ := c188_nm (a := a) (n - a) a hF0 h48 (Nat.le_refl _) T48 p48 k48 (by omega) (hF0_lt (by omega)) (fun t t1 t2 => by omega)
    obtain ⟨y1, y2, y3, -⟩ := spn_b (P := smL) (b := b) (n - a) a
    have y4 := (spn_1 al c1).1
    rw [Nat.sub_self] at l1
    have l1 : lp (fun s => c188_b88 s.1 s.2) hF0 (0, h48) = _ := l1
    rw [l1]
    simp only [bsome]
    have F57 := fj_tr F48 l2
    have W57 := lrn_fj W48 l2
    have lt : lexT b n wkf a = (if 6 < spn smL b (n - a) a - a then (3, 0, spn smL b (n - a) a) else if ix wkf (kk 27 (ltr b a) (spn smL b (n - a) a - a)) 22 = -1 then (1, kk 27 (ltr b a) (spn smL b (n - a) a - a), spn smL b (n - a) a) else (200 + ix wkf (kk 27 (ltr b a) (spn smL b (n - a) a - a)) 22, kk 27 (ltr b a) (spn smL b (n - a) a - a), spn smL b (n - a) a)) := by
      unfold lexT; rw [if_pos c1]
    unfold LKR
    rw [lt]
    generalize spn smL b (n - a) a = e at l1 l3 l4 y1 y2 y3 y4 ⊢
    by_cases c : 6 < e - a
    · rw [if_neg (by omega), if_pos c]
      exact ⟨h57, rfl, F57, l6.trans q48, fun z => absurd z an, fun _ => ⟨l5.trans s48, l3, fun _ z => absurd rfl z, fun z => absurd (show (3 : Int) = 2 from z) (by omega)⟩⟩
    · rw [if_pos (by omega), if_neg c]
      have f59 : fj h57 (sI h57 395 3 2) := fj_sI (.inr (.inl rfl))
      have W59 := lrn_fj W57 f59
      have p59 : hI (sI h57 395 3 2) 395 2 = e := by rw [hI_sI, if_neg (by omega)]; exact l3
      have q59 : hI (sI h57 395 3 2) 395 4 = a := by rw [hI_sI, if_neg (by omega)]; exact l6.trans q48
      have s59 : hI (sI h57 395 3 2) 395 3 = 2 := by rw [hI_sI, if_pos ⟨rfl, rfl⟩]
      have k59 : hJ (sI h57 395 3 2) 395 10 = Int64.ofInt (kk 64 (ltr b a) (e - a)) := by
        have : hJ (sI h57 395 3 2) 395 10 = hJ h57 395 10 := rfl
        rw [this, l4, show min (e - a) 7 = e - a by omega]
      have F59 := fj_tr F57 f59
      generalize sI h57 395 3 2 = h59 at F59 W59 p59 q59 s59 k59 ⊢
      have R : W2R (kk 27 (ltr b a) (e - a)) (hJ h59 395 10) := ⟨ltr b a, e - a, by omega, fun t ht => by
        have : 97 ≤ b (a + t) ∧ b (a + t) ≤ 122 := of_decide_eq_true (y3 (a + t) (by omega) (by omega))
        unfold ltr
        omega, rfl, k59⟩
      have mtch : ∀ t : Nat, t < 22 → (hJ h59 398 t = hJ h59 395 10 ↔ wkf t = kk 27 (ltr b a) (e - a)) := fun t ht => by
        rw [W59.2 t ht]
        exact (W2R_iff (wk_rel t ht) R).symm
      generalize kk 27 (ltr b a) (e - a) = C at R mtch ⊢
      rcases ix_b wkf C 22 with z | ⟨t0, z, z1, z2, z3⟩
      · obtain ⟨h', m1, m2, m3, m4, m5, m6⟩ := c188_w (t0 := 22) 22 0 hF0 h59 (by omega) (hF0_lt (by omega)) (fun t ht => by
          rw [mtch t ht]
          constructor
          · intro w; exact absurd w (ix_none z t ht)
          · intro w; omega)
        have m1 : lp (fun s => c188_b157 s.1 s.2) hF0 (0, h59) = _ := m1
        rw [m1, if_pos z]
        rw [if_neg (by omega)] at m3
        exact ⟨h', rfl, fj_tr F59 m2, m5.trans q59, fun w => absurd w an, fun _ => ⟨m3.trans s59, m4.trans p59, fun _ _ => by rw [m6]; exact R, fun w => absurd (show (1 : Int) = 2 from w) (by omega)⟩⟩
      · obtain ⟨h', m1, m2, m3, m4, m5, m6⟩ := c188_w (t0 := t0) 22 0 hF0 h59 (by omega) (hF0_lt (by omega)) (fun t ht => by
          rw [mtch t ht]
          constructor
          · intro w; exact wkf_inj ht z1 (w.trans z2.symm)
          · intro w; rw [w]; exact z2)
        have m1 : lp (fun s => c188_b157 s.1 s.2) hF0 (0, h59) = _ := m1
        rw [m1, z, if_neg (by omega)]
        rw [if_pos (by omega)] at m3
        exact ⟨h', rfl, fj_tr F59 m2, m5.trans q59, fun w => absurd w an, fun _ => ⟨m3.trans (mt_w z1).symm, m4.trans p59, fun _ _ => by rw [m6]; exact R, fun w => absurd (show (200 : Int) + t0 = 2 from w) (by omega)⟩⟩
  rw [if_neg c1, if_pos rfl, c191_d]
  simp only [bsome]
  by_cases c2 : dgL (b a) = true
  · rw [if_pos c2, if_neg (show ¬ (1 : Int) = 0 by omega)]
    have f34 : fj h9 (sI h9 395 5 0) := fj_sI (.inr (.inr (.inr rfl)))
    have T34 := txr_fj T9 f34
    have k34 : hI (sI h9 395 5 0) 395 5 = kk 10 (dgt b a) (min (a - a) 6) := by
      rw [hI_sI, if_pos ⟨rfl, rfl⟩, show min (a - a) 6 = 0 by omega]; rfl
    have p34 : hI (sI h9 395 5 0) 395 2 = a := by rw [hI_sI, if_neg (by omega)]; exact p9
    have q34 : hI (sI h9 395 5 0) 395 4 = a := by rw [hI_sI, if_neg (by omega)]; exact q9
    have s34 : hI (sI h9 395 5 0) 395 3 = 1 := by rw [hI_sI, if_neg (by omega)]; exact s9
    have F34 := fj_tr F9 f34
    generalize sI h9 395 5 0 = h34 at F34 T34 k34 p34 q34 s34 ⊢
    obtain ⟨h42, l1, l2, l3, l4, l5, l6⟩ := c188_dg (a := a) (n - a) a hF0 h34 (Nat.le_refl _) T34 p34 k34 (by omega) (hF0_lt (by omega)) (fun t t1 t2 => by omega)
    obtain ⟨y1, y2, y3, -⟩ := spn_b (P := dgL) (b := b) (n - a) a
    rw [Nat.sub_self] at l1
    have l1 : lp (fun s => c188_b219 s.1 s.2) hF0 (0, h34) = _ := l1
    rw [l1]
    simp only [bsome]
    have F42 := fj_tr F34 l2
    have T42 := txr_fj T34 l2
    have lt : lexT b n wkf a = (if 6 < spn dgL b (n - a) a - a ∨ (spn dgL b (n - a) a < n ∧ lrL (b (spn dgL b (n - a) a)) = true) then (3, kk 10 (dgt b a) (min (spn dgL b (n - a) a - a) 6), spn dgL b (n - a) a) else (2, kk 10 (dgt b a) (min (spn dgL b (n - a) a - a) 6), spn dgL b (n - a) a)) := by
      unfold lexT; rw [if_neg c1, if_pos c2]
    unfold LKR c188_j307
    rw [lt]
    generalize spn dgL b (n - a) a = e at l1 l3 l4 y1 y2 y3 ⊢
    by_cases c : 6 < e - a
    · rw [if_pos (by omega), if_pos (.inl c)]
      exact ⟨h42, rfl, F42, l6.trans q34, fun z => absurd z an, fun _ => ⟨l5.trans s34, l3, fun z => absurd z c1, fun z => absurd (show (3 : Int) = 2 from z) (by omega)⟩⟩
    · rw [if_neg (by omega), l3, c189_e T42]
      simp only [bsome]
      rw [c192_e]
      simp only [bsome]
      by_cases d : e < n ∧ lrL (b e) = true
      · rw [see_lt d.1, if_pos d.2, if_neg (show ¬ (1 : Int) = 0 by omega), if_pos (.inr d)]
        exact ⟨h42, rfl, F42, l6.trans q34, fun z => absurd z an, fun _ => ⟨l5.trans s34, l3, fun z => absurd z c1, fun z => absurd (show (3 : Int) = 2 from z) (by omega)⟩⟩
      · have d2 : ¬ lrL (see n b e) = true := by
          unfold see
          by_cases w : n ≤ e
          · rw [if_pos w]; decide
          · rw [if_neg w]; exact fun z => d ⟨by omega, z⟩
        rw [if_neg d2, if_pos rfl, if_neg (by rintro (z | z); exact c z; exact d z)]
        refine ⟨_, rfl, fj_tr F42 (fj_sI (.inr (.inl rfl))), ?_, fun z => absurd z an, fun _ => ⟨?_, ?_, fun z => absurd z c1, fun _ => ?_⟩⟩
        · rw [hI_sI, if_neg (by omega)]; exact l6.trans q34
        · rw [hI_sI, if_pos ⟨rfl, rfl⟩]; rfl
        · rw [hI_sI, if_neg (by omega)]; exact l3
        · rw [hI_sI, if_neg (by omega)]; exact l4
  rw [if_neg c2, if_pos rfl, c188_ch]
  have lt : lexT b n wkf a = (if b a = 61 ∧ a + 1 < n ∧ b (a + 1) = 61 then (250, 0, a + 2) else if sgn (b a) = true then (b a, 0, a + 1) else (3, 0, a + 1)) := by
    unfold lexT; rw [if_neg c1, if_neg c2]
  unfold c188_j381 LKR
  rw [lt]
  by_cases s : sgn (b a) = true
  · rw [if_pos s, if_neg (show ¬ (1 : Int) = 0 by omega), wadd_e (by omega) (by omega)]
    simp only [bsome]
    have f23 : fj h9 (sI h9 395 3 (200 + b a)) := fj_sI (.inr (.inl rfl))
    have T23 := txr_fj T9 f23
    have p23 : hI (sI h9 395 3 (200 + b a)) 395 2 = a := by rw [hI_sI, if_neg (by omega)]; exact p9
    have q23 : hI (sI h9 395 3 (200 + b a)) 395 4 = a := by rw [hI_sI, if_neg (by omega)]; exact q9
    have s23 : hI (sI h9 395 3 (200 + b a)) 395 3 = 200 + b a := by rw [hI_sI, if_pos ⟨rfl, rfl⟩]
    obtain ⟨h', m1, m2, m3, m4⟩ := c188_sgn (c := b a) T23 p23 al
    refine ⟨h', m1, fj_tr F9 (fj_tr f23 m2), m3.trans q23, fun z => absurd z an, fun _ => ?_⟩
    by_cases w : b a = 61 ∧ a + 1 < n ∧ b (a + 1) = 61
    · rw [if_pos w] at m4 ⊢
      exact ⟨m4.1, m4.2, fun z => absurd z c1, fun z => absurd (show (250 : Int) = 2 from z) (by omega)⟩
    · rw [if_neg w] at m4 ⊢
      rw [if_pos s]
      exact ⟨m4.1.trans (s23.trans (mt_s s).symm), m4.2, fun z => absurd z c1, fun z => by have := (sgn_or (b a)).mp s; exact absurd (show b a = 2 from z) (by omega)⟩
  · rw [if_neg s, if_pos rfl]
    obtain ⟨h', m1, m2, m3, m4⟩ := c188_sgn (c := b a) T9 p9 al
    refine ⟨h', m1, fj_tr F9 m2, m3.trans q9, fun z => absurd z an, fun _ => ?_⟩
    by_cases w : b a = 61 ∧ a + 1 < n ∧ b (a + 1) = 61
    · exact absurd ((sgn_or (b a)).mpr (by omega)) s
    · rw [if_neg w] at m4 ⊢
      rw [if_neg s]
      exact ⟨m4.1.trans s9, m4.2, fun z => absurd z c1, fun z => absurd (show (3 : Int) = 2 from z) (by omega)⟩
end LO3
