/-! a patch is made: what goes nowhere is lost -/
/-- a field of the chain of old from kind to kind i, up to field fd of kind i -/
def prD (t : hS) (old : Int) (i fd : Nat) (x : Nat) : Prop := ∃ j g : Nat, (j < i ∨ (j = i ∧ g < fd)) ∧ (g : Int) < wg t 0 (upn t 0 old j) 5 ∧ wg t 0 (upn t 0 old j) (6 + g) = (x : Int)
/-- so far lost -/
def LIq (h0 : hS) (c : Nat) (pr : Nat → Prop) (h : hS) : Prop := fp (fun x _ => x = 55 + 4 * c ∨ x = 56 + 4 * c) h0 h ∧ ∀ n, n < 40 → ((pr n ∧ hI h0 52 n = -1) → hI h (55 + 4 * c) n = 1 ∧ hI h (56 + 4 * c) n = hI h0 (216 + 4 * c) n) ∧ (¬ (pr n ∧ hI h0 52 n = -1) → hI h (55 + 4 * c) n = hI h0 (55 + 4 * c) n ∧ hI h (56 + 4 * c) n = hI h0 (56 + 4 * c) n)
section LSE
variable {h h0 h' t : hS} {p m0 c len : Nat} {r0 : Int → Nat} {old : Int} {K : Nat → Int → Prop} {pr : Nat → Prop}
theorem LIq_im {pr pr' : Nat → Prop} (F : LIq h0 c pr h) (e : ∀ n, n < 40 → (pr n ↔ pr' n)) : LIq h0 c pr' h :=
  ⟨F.1, fun n hn => ⟨fun z => (F.2 n hn).1 ⟨(e n hn).2 z.1, z.2⟩, fun z => (F.2 n hn).2 (fun y => z ⟨(e n hn).1 y.1, y.2⟩)⟩⟩
/-- the fields of one kind -/
theorem c163_i {i : Nat} (Pw : PW h0 t K p 0 m0 r0) (SO : SHc h0 (215 + 4 * c) c) (SF : SHc h0 (53 + 4 * c) c) (c40 : c < 40) (hc : chq t 0 old m0 len) (hi : i < len) : ∀ (D fd N : Nat) (h : hS), fd + D = (wg t 0 (upn t 0 old i) 5).toNat → D < N → LIq h0 c (prD t old i fd) h → ∃ h', lp (fun s => c163_b12 (215 + 4 * c) (53 + 4 * c) (kd h0 p (upn t 0 old i)) s.1 s.2) N ((fd : Int), h) = some h' ∧ LIq h0 c (prD t old (i + 1) 0) h'
  | 0, fd, N, h, hd, hN, F => by
    obtain ⟨N, rfl⟩ : ∃ n, N = n + 1 := ⟨N - 1, by omega⟩
    obtain ⟨u0, u1⟩ := hc.2.1 i hi
    obtain ⟨Q, -, -, -, k5, -⟩ := Pw.2.2.1 _ u0 u1
    have k8 := Q.1
    refine ⟨h, lp_d ?_, LIq_im F (fun x _ => ⟨fun z => ?_, fun z => ?_⟩)⟩
    · show c163_b12 (215 + 4 * c) (53 + 4 * c) (kd h0 p (upn t 0 old i)) (fd : Int) h = _
      unfold c163_b12
      refine bnd (gI_s (by rw [h2_T F.1.1]; exact Q.2.2.1)) ?_
      rw [F.1.2 _ 4 (by omega), k5.1, if_pos (by omega)]
    · obtain ⟨j, g, z1, z2, z3⟩ := z
      exact ⟨j, g, by omega, z2, z3⟩
    · obtain ⟨j, g, z1, z2, z3⟩ := z
      refine ⟨j, g, ?_, z2, z3⟩
      rcases z1 with z1 | z1
      · by_cases q : j = i
        · right
          refine ⟨q, ?_⟩
          rw [q] at z2
          omega
        · left; omega
      · omega
  | D + 1, fd, N, h, hd, hN, F => by
    obtain ⟨N, rfl⟩ : ∃ n, N = n + 1 := ⟨N - 1, by omega⟩
    obtain ⟨u0, u1⟩ := hc.2.1 i hi
    obtain ⟨Q, -, -, -, k5, -⟩ := Pw.2.2.1 _ u0 u1
    have k8 := Q.1
    obtain ⟨-, -, w3, -, -⟩ := Pw.1.2.2 _ u0 u1
    obtain ⟨n1, -, n0, n40⟩ := k5.2 fd (by omega)
    obtain ⟨n, hn⟩ : ∃ n : Nat, wg t 0 (upn t 0 old i) (6 + fd) = (n : Int) := ⟨(wg t 0 (upn t 0 old i) (6 + fd)).toNat, by omega⟩
    rw [hn] at n1 n40
    obtain ⟨a1, a2, a3, a4, a5, a6, a7⟩ := SO
    obtain ⟨b1, b2, b3, b4, b5, b6, b7⟩ := SF
    have hT' := fun x => h2_T F.1.1 x
    have hL' := fun x => h2_L F.1.1 x
    have hR' := fun x j => h2_R F.1.1 x j
    have eq : ∀ x : Nat, x < 40 → (prD t old i (fd + 1) x ↔ (prD t old i fd x ∨ x = n)) := fun x _ => by
      refine ⟨fun z => ?_, fun z => ?_⟩
      · obtain ⟨j, g, z1, z2, z3⟩ := z
        by_cases q : j = i ∧ g = fd
        · right
          rw [q.1, q.2, hn] at z3
          omega
        · exact .inl ⟨j, g, by omega, z2, z3⟩
      · rcases z with ⟨j, g, z1, z2, z3⟩ | z
        · exact ⟨j, g, by omega, z2, z3⟩
        · exact ⟨i, fd, .inr ⟨rfl, by omega⟩, by omega, by rw [z]; exact hn⟩
    have go : ∀ h1, LIq h0 c (prD t old i (fd + 1)) h1 → c163_b12 (215 + 4 * c) (53 + 4 * c) (kd h0 p (upn t 0 old i)) (fd : Int) h = some (.inl (((fd + 1 : Nat) : Int), h1)) → ∃ h', lp (fun s => c163_b12 (215 + 4 * c) (53 + 4 * c) (kd h0 p (upn t 0 old i)) s.1 s.2) (N + 1) ((fd : Int), h) = some h' ∧ LIq h0 c (prD t old (i + 1) 0) h' := fun h1 F1 e => by
      obtain ⟨h', x1, x2⟩ := c163_i Pw ⟨a1, a2, a3, a4, a5, a6, a7⟩ ⟨b1, b2, b3, b4, b5, b6, b7⟩ c40 hc hi D (fd + 1) N h1 (by omega) (by omega) F1
      refine ⟨h', ?_, x2⟩
      refine (lp_n (s' := (((fd + 1 : Nat) : Int), h1)) ?_).trans x1
      exact e
    have pre : ∀ R, (if hI h0 52 n = -1 then (gR h (53 + 4 * c) 16 4).bind (fun v9 => (wI h v9 3 (n : Int) (wbol 1)).bind (fun h10 => (gR h10 (53 + 4 * c) 16 5).bind (fun v11 => (gR h10 (215 + 4 * c) 16 3).bind (fun v12 => (aI h10 v12 1 (n : Int)).bind (fun v13 => (wI h10 v11 1 (n : Int) v13).bind (fun h14 => c163_j63 (fd : Int) h14)))))) else c163_j63 (fd : Int) h) = R → c163_b12 (215 + 4 * c) (53 + 4 * c) (kd h0 p (upn t 0 old i)) (fd : Int) h = R := fun R eR => by
      unfold c163_b12
      refine bnd (gI_s (by rw [hT']; exact Q.2.2.1)) ?_
      rw [F.1.2 _ 4 (by omega), k5.1, if_neg (by omega)]
      refine bnd (gR_s (by rw [hT']; exact Q.2.2.1)) ?_
      rw [hR', (KD5 Q).1]
      refine bnd (aI_s (by rw [hT']; exact (KD5 Q).2.1) (by omega) (by rw [hL', (KD5 Q).2.2]; omega)) ?_
      rw [Int.toNat_natCast, F.1.2 _ _ (by omega), n1]
      refine bnd (aIs_s (by omega) (by omega)) ?_
      rw [Int.toNat_natCast, F.1.2 52 n (by omega)]
      exact eR
    by_cases q : hI h0 52 n = -1
    · obtain ⟨hA, eA⟩ : ∃ hA, hA = sI h (55 + 4 * c) n 1 := ⟨_, rfl⟩
      obtain ⟨hB, eB⟩ : ∃ hB, hB = sI hA (56 + 4 * c) n (hI h0 (216 + 4 * c) n) := ⟨_, rfl⟩
      have fA : fp (fun x _ => x = 55 + 4 * c ∨ x = 56 + 4 * c) h hA := by rw [eA]; exact fp_sI (.inl rfl)
      have fB : fp (fun x _ => x = 55 + 4 * c ∨ x = 56 + 4 * c) hA hB := by rw [eB]; exact fp_sI (.inr rfl)
      have r5 : ∀ j, hI hB (55 + 4 * c) j = if j = n then 1 else hI h (55 + 4 * c) j := fun j => by
        rw [eB, hI_sI, if_neg (by omega), eA, hI_sI]
        by_cases z : j = n
        · rw [if_pos ⟨rfl, z⟩, if_pos z]
        · rw [if_neg (fun y => z y.2), if_neg z]
      have r6 : ∀ j, hI hB (56 + 4 * c) j = if j = n then hI h0 (216 + 4 * c) n else hI h (56 + 4 * c) j := fun j => by
        rw [eB, hI_sI]
        by_cases z : j = n
        · rw [if_pos ⟨rfl, z⟩, if_pos z]
        · rw [if_neg (fun y => z y.2), if_neg z, eA, hI_sI, if_neg (by omega)]
      refine go hB ⟨fp_tr F.1 (fp_tr fA fB), fun x hx => ⟨fun z => ?_, fun z => ?_⟩⟩ (pre _ ?_)
      · rw [r5, r6]
        by_cases y : x = n
        · rw [if_pos y, if_pos y, y]
          exact ⟨rfl, rfl⟩
        · rw [if_neg y, if_neg y]
          exact (F.2 x hx).1 ⟨((eq x hx).1 z.1).elim id (fun y' => absurd y' y), z.2⟩
      · rw [r5, r6]
        have y : x ≠ n := fun y => z ⟨(eq x hx).2 (.inr y), by rw [y]; exact q⟩
        rw [if_neg y, if_neg y]
        exact (F.2 x hx).2 (fun w => z ⟨(eq x hx).2 (.inl w.1), w.2⟩)
      · rw [if_pos q]
        refine bnd (gR_s (by rw [hT']; exact b1)) ?_
        rw [hR', b3, show 53 + 4 * c + 2 = 55 + 4 * c by omega]
        have b52 := b5.2.1
        have b62 := b6.2.1
        have b53 := b5.2.2
        have b63 := b6.2.2
        rw [show 53 + 4 * c + 2 = 55 + 4 * c by omega] at b52 b62
        rw [show 53 + 4 * c + 3 = 56 + 4 * c by omega] at b53 b63
        refine bnd ((wI_s (by rw [hT']; exact b52) (by omega) (by rw [hL', b62]; omega)).trans (congrArg some (show sI h (55 + 4 * c) ((n : Int)).toNat (wbol 1) = hA by rw [Int.toNat_natCast]; exact eA.symm))) ?_
        have tA : ∀ x, hT hA x = hT h0 x := fun x => by rw [h2_T fA.1]; exact hT' x
        have lA' : ∀ x, hL hA x = hL h0 x := fun x => by rw [h2_L fA.1]; exact hL' x
        have rA : ∀ x j, hR hA x j = hR h0 x j := fun x j => by rw [h2_R fA.1]; exact hR' x j
        refine bnd (gR_s (by rw [tA]; exact b1)) ?_
        refine bnd (gR_s (by rw [tA]; exact a1)) ?_
        rw [rA, rA, b4, a2, show 53 + 4 * c + 3 = 56 + 4 * c by omega, show 215 + 4 * c + 1 = 216 + 4 * c by omega]
        have a51 := a5.1
        have a61 := a6.1
        rw [show 215 + 4 * c + 1 = 216 + 4 * c by omega] at a51 a61
        refine bnd (aI_s (by rw [tA]; exact a51) (by omega) (by rw [lA', a61]; omega)) ?_
        rw [Int.toNat_natCast, fA.2 _ _ (by omega), F.1.2 _ _ (by omega)]
        refine bnd ((wI_s (by rw [tA]; exact b53) (by omega) (by rw [lA', b63]; omega)).trans (congrArg some (show sI hA (56 + 4 * c) ((n : Int)).toNat (hI h0 (216 + 4 * c) n) = hB by rw [Int.toNat_natCast]; exact eB.symm))) ?_
        unfold c163_j63
        rw [wadd_n (by omega)]
    · refine go h ⟨F.1, fun x hx => ⟨fun z => (F.2 x hx).1 ⟨((eq x hx).1 z.1).elim id (fun y => absurd (by rw [← y]; exact z.2) q), z.2⟩, fun z => (F.2 x hx).2 (fun w => z ⟨(eq x hx).2 (.inl w.1), w.2⟩)⟩⟩ (pre _ ?_)
      rw [if_neg q]
      unfold c163_j63
      rw [wadd_n (by omega)]
/-- the chain of the old kind -/
theorem c163_c (Pw : PW h0 t K p 0 m0 r0) (SO : SHc h0 (215 + 4 * c) c) (SF : SHc h0 (53 + 4 * c) c) (c40 : c < 40) (hc : chq t 0 old m0 len) : ∀ (D i N : Nat) (h : hS), i + D = len → D < N → LIq h0 c (prD t old i 0) h → ∃ h', lp (fun s => c163_b5 (215 + 4 * c) (53 + 4 * c) s.1 s.2) N (kd h0 p (upn t 0 old i), h) = some h' ∧ LIq h0 c (prD t old len 0) h'
  | 0, i, N, h, hi, hN, F => by
    obtain ⟨N, rfl⟩ : ∃ n, N = n + 1 := ⟨N - 1, by omega⟩
    obtain rfl : i = len := by omega
    refine ⟨h, lp_d ?_, F⟩
    show c163_b5 (215 + 4 * c) (53 + 4 * c) (kd h0 p (upn t 0 old i)) h = _
    unfold c163_b5
    rw [hc.2.2, kd_m]
    refine bnd hnul_0 ?_
    rw [if_pos rfl]
  | D + 1, i, N, h, hi, hN, F => by
    obtain ⟨N, rfl⟩ : ∃ n, N = n + 1 := ⟨N - 1, by omega⟩
    obtain ⟨u0, u1⟩ := hc.2.1 i (by omega)
    obtain ⟨Q, -, k4, -, k5, -⟩ := Pw.2.2.1 _ u0 u1
    have k8 := Q.1
    obtain ⟨-, -, w3, -, -⟩ := Pw.1.2.2 _ u0 u1
    obtain ⟨h1, x1, x2⟩ := c163_i Pw SO SF c40 hc (show i < len by omega) (wg t 0 (upn t 0 old i) 5).toNat 0 hF0 h (by omega) (hF0_lt (by omega)) F
    obtain ⟨h', y1, y2⟩ := c163_c Pw SO SF c40 hc D (i + 1) N h1 (by omega) (by omega) x2
    refine ⟨h', (lp_n (s' := (kd h0 p (upn t 0 old (i + 1)), h1)) ?_).trans y1, y2⟩
    show c163_b5 (215 + 4 * c) (53 + 4 * c) (kd h0 p (upn t 0 old i)) h = _
    unfold c163_b5
    refine bnd (hnul_8 (by omega)) ?_
    rw [if_neg (by decide)]
    refine bnd x1 ?_
    refine bnd (gR_s (by rw [h2_T x2.1.1]; exact Q.2.2.1)) ?_
    rw [h2_R x2.1.1, k4]
    rfl
theorem prD_e (W : WF t 0 m0 r0) (C : CF t 0 m0) (hc : chq t 0 old m0 len) (x : Nat) : prD t old len 0 x ↔ fAt t 0 old x ≠ -1 := by
  refine ⟨fun z => ?_, fun z => ?_⟩
  · obtain ⟨j, g, z1, z2, z3⟩ := z
    have jl : j < len := by omega
    have := (fAt_c W C hc jl z2).2
    rw [z3] at this
    rw [this]
    have := (hc.2.1 j jl).1
    omega
  · obtain ⟨i, f, f1, f2, f3, -⟩ := fAt_d W hc z
    exact ⟨i, f, .inl f1, f2, f3⟩
theorem c163_e (Pw : PW h0 t K p 0 m0 r0) (C : CF t 0 m0) (SO : SHc h0 (215 + 4 * c) c) (SF : SHc h0 (53 + 4 * c) c) (c40 : c < 40) (ho : 0 ≤ old ∧ old < m0) (ek : hR h0 (215 + 4 * c) 2 = kd h0 p old) : ∃ h', c163 (215 + 4 * c) (53 + 4 * c) h0 = some h' ∧ LIq h0 c (fun x => fAt t 0 old x ≠ -1) h' := by
  obtain ⟨len, hc⟩ := chq_i Pw.1 ho
  obtain ⟨h', a1, a2⟩ := c163_c Pw SO SF c40 hc len 0 hF0 h0 (by omega) (hF0_lt (by have := hc.1.2; omega)) ⟨fp_rf, fun n hn => ⟨fun z => by obtain ⟨⟨j, g, z1, -⟩, -⟩ := z; omega, fun _ => ⟨rfl, rfl⟩⟩⟩
  refine ⟨h', ?_, LIq_im a2 (fun n _ => prD_e Pw.1 C hc n)⟩
  unfold c163
  refine bnd (gR_s SO.1) ?_
  rw [ek]
  refine bnd a1 ?_
  rfl
/-- the row goesTo is emptied -/
theorem c156_l : ∀ (D i N : Nat) (h : hS), i + D = 40 → D < N → fp (fun x _ => x = 52) h0 h → (hT h0 52 = 1 ∧ hL h0 52 = 40) → (∀ n, n < i → hI h 52 n = -1) → ∃ h', lp (fun s => c156_b5 52 (-1) 40 s.1 s.2) N ((i : Int), h) = some h' ∧ fp (fun x _ => x = 52) h0 h' ∧ ∀ n, n < 40 → hI h' 52 n = -1
  | 0, i, N, h, hi, hN, f, T, H => by
    obtain ⟨N, rfl⟩ : ∃ n, N = n + 1 := ⟨N - 1, by omega⟩
    obtain rfl : i = 40 := by omega
    refine ⟨h, lp_d ?_, f, H⟩
    show c156_b5 52 (-1) 40 ((40 : Nat) : Int) h = _
    unfold c156_b5
    rw [if_pos (by omega)]
  | D + 1, i, N, h, hi, hN, f, T, H => by
    obtain ⟨N, rfl⟩ : ∃ n, N = n + 1 := ⟨N - 1, by omega⟩
    obtain ⟨h1, e1⟩ : ∃ h1, h1 = sI h 52 i (-1) := ⟨_, rfl⟩
    obtain ⟨h', a1, a2, a3⟩ := c156_l D (i + 1) N h1 (by omega) (by omega) (fp_tr f (by rw [e1]; exact fp_sI rfl)) T (fun n hn => by
      rw [e1, hI_sI]
      by_cases c : n = i
      · rw [if_pos ⟨rfl, c⟩]
      · rw [if_neg (fun z => c z.2)]
        exact H n (by omega))
    refine ⟨h', (lp_n (s' := (((i + 1 : Nat) : Int), h1)) ?_).trans a1, a2, a3⟩
    show c156_b5 52 (-1) 40 (i : Int) h = _
    unfold c156_b5
    rw [if_neg (by omega)]
    refine bnd ((wI_s (by rw [h2_T f.1]; exact T.1) (by omega) (by rw [h2_L f.1, T.2]; omega)).trans (congrArg some (show sI h 52 ((i : Int)).toNat (-1) = h1 by rw [Int.toNat_natCast]; exact e1.symm))) ?_
    rw [wadd_n (by omega)]
theorem c156_e (T : hT h0 52 = 1 ∧ hL h0 52 = 40) : ∃ h', c156 52 (-1) h0 = some h' ∧ fp (fun x _ => x = 52) h0 h' ∧ ∀ n, n < 40 → hI h' 52 n = -1 := by
  obtain ⟨h', a1, a2, a3⟩ := c156_l 40 0 hF0 h0 rfl (hF0_lt (by omega)) fp_rf T (fun n hn => by omega)
  refine ⟨h', ?_, a2, a3⟩
  unfold c156
  refine bnd (show lA h0 52 1 = some (40 : Int) from ?_) ?_
  · rw [lA_s T.1, T.2]
    rfl
  · refine bnd a1 ?_
    rfl
end LSE
