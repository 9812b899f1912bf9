/-! a patch is made: a kind goes, in both -/
section GNE
variable {h h' h0 h1 t t' : hS} {m m0 P x c : Nat} {j G : Int} {r r0 : Int → Nat} {K : Nat → Int → Prop}
theorem kd_in (B : BW h t K P m r) (j0 : 0 ≤ j) (j1 : j < m) {u : Int} (hu : u = -1 ∨ (0 ≤ u ∧ u < m)) (e : kd h P u = kd h P j) : u = j := by
  have kj := B.2.1 j j0 j1
  rcases hu with z | ⟨u0, u1⟩
  · rw [z, kd_m] at e; omega
  · by_cases c : u < j
    · have := B.2.2.1 u j u0 c j1; omega
    · by_cases c2 : j < u
      · have := B.2.2.1 j u j0 c2 u1; omega
      · omega
/-- the class looks whether a kind is right under it -/
theorem c148_l (B : BW h t K P m r) (h448 : 448 ≤ P) (j0 : 0 ≤ j) (j1 : j < m) : ∀ (D i N : Nat) (a : Int), i + D = m → D < N → (a = if j < (i : Int) then j else -1) → ((∃ u : Nat, i ≤ u ∧ u < m ∧ wg t 1 (u : Int) 1 = j) → lp (fun s => c148_b4 P (kd h P j) h s.1 s.2) N (a, (i : Int)) = some (.inr (6, h))) ∧ ((∀ u : Nat, i ≤ u → u < m → wg t 1 (u : Int) 1 ≠ j) → lp (fun s => c148_b4 P (kd h P j) h s.1 s.2) N (a, (i : Int)) = some (.inl j)) := by
  obtain ⟨⟨W, ⟨p1, p2, p3, p4, p5, p6, p7⟩, P3, P4⟩, b1, b2, b3, b4⟩ := id B
  have hm := W.2.1
  intro D
  induction D with
  | zero =>
    intro i N a hi hN ha
    obtain ⟨N, rfl⟩ : ∃ n, N = n + 1 := ⟨N - 1, by omega⟩
    refine ⟨fun z => (by obtain ⟨u, u1, u2, -⟩ := z; omega), fun _ => ?_⟩
    refine lp_d ?_
    show c148_b4 P (kd h P j) h a (i : Int) = _
    unfold c148_b4
    refine bnd (gI_s p3) ?_
    rw [p7, if_pos (by omega), ha, if_pos (by omega)]
  | succ D ih =>
    intro i N a hi hN ha
    obtain ⟨N, rfl⟩ : ∃ n, N = n + 1 := ⟨N - 1, by omega⟩
    have ek : kd h P (i : Int) = hR h (P + 1) i := kd_n (by omega)
    obtain ⟨Q, -, k4, -⟩ := P3 (i : Int) (by omega) (by omega)
    have kj := b1 j j0 j1
    have hu := WF_up W (u := (i : Int)) ⟨by omega, by omega⟩
    have q1 : hreq (kd h P (wg t 1 (i : Int) 1)) (kd h P j) = some (decide (wg t 1 (i : Int) 1 = j)) := by
      rw [hreq_e (by
        rcases hu with z | ⟨z0, z1⟩
        · rw [z]; exact .inl kd_m
        · have := b1 _ z0 z1; omega) (by omega)]
      congr 1
      by_cases c : wg t 1 (i : Int) 1 = j
      · rw [c, decide_eq_true rfl, decide_eq_true rfl]
      · rw [decide_eq_false c, decide_eq_false (fun z => c (kd_in B j0 j1 hu z))]
    have q2 : hreq (kd h P (i : Int)) (kd h P j) = some (decide ((i : Int) = j)) := by
      rw [hreq_e (by have := b1 (i : Int) (by omega) (by omega); omega) (by omega)]
      congr 1
      by_cases c : (i : Int) = j
      · rw [c, decide_eq_true rfl, decide_eq_true rfl]
      · rw [decide_eq_false c, decide_eq_false (fun z => c (kd_in B j0 j1 (.inr ⟨by omega, by omega⟩) z))]
    have st : ∀ z, (if wg t 1 (i : Int) 1 = j then some (.inr (.inr (6, h))) else some (.inl ((if (i : Int) = j then (i : Int) else a), ((i + 1 : Nat) : Int)))) = z → c148_b4 P (kd h P j) h a (i : Int) = z := fun z hz => by
      rw [← hz]
      unfold c148_b4 c148_j40
      refine bnd (gI_s p3) ?_
      rw [p7, if_neg (by omega)]
      refine bnd (gR_s p3) ?_
      rw [p4]
      refine bnd (aR_s p5 (by omega) (by omega)) ?_
      rw [Int.toNat_natCast, ← ek]
      refine bnd (gR_s Q.2.2.1) ?_
      rw [k4]
      refine bnd q1 ?_
      by_cases c : wg t 1 (i : Int) 1 = j
      · rw [decide_eq_true c, if_pos rfl, if_pos c]
      · rw [decide_eq_false c, if_neg (by decide), if_neg c]
        refine bnd (gR_s p3) ?_
        rw [p4]
        refine bnd (aR_s p5 (by omega) (by omega)) ?_
        rw [Int.toNat_natCast, ← ek]
        refine bnd q2 ?_
        rw [wadd_n (by omega)]
        by_cases c2 : (i : Int) = j
        · rw [decide_eq_true c2, if_pos rfl, if_pos c2]
        · rw [decide_eq_false c2, if_neg (by decide), if_neg c2]
    by_cases c : wg t 1 (i : Int) 1 = j
    · rw [if_pos c] at st
      exact ⟨fun _ => lp_d (st _ rfl), fun z => absurd c (z i (Nat.le_refl _) (by omega))⟩
    · rw [if_neg c] at st
      obtain ⟨y1, y2⟩ := ih (i + 1) N (if (i : Int) = j then (i : Int) else a) (by omega) (by omega) (by
        by_cases c2 : (i : Int) = j
        · rw [if_pos c2, if_pos (by omega)]; exact c2
        · rw [if_neg c2, ha]
          by_cases c3 : j < (i : Int)
          · rw [if_pos c3, if_pos (by omega)]
          · rw [if_neg c3, if_neg (by omega)])
      have e0 := lp_n (f := fun s => c148_b4 P (kd h P j) h s.1 s.2) (n := N) (s := (a, (i : Int))) (s' := ((if (i : Int) = j then (i : Int) else a), ((i + 1 : Nat) : Int))) (st _ rfl)
      refine ⟨fun z => e0.trans (y1 ?_), fun z => e0.trans (y2 (fun u u1 u2 => z u (by omega) u2))⟩
      obtain ⟨u, u1, u2, u3⟩ := z
      refine ⟨u, ?_, u2, u3⟩
      by_cases e : u = i
      · subst e; exact absurd u3 c
      · omega
theorem c275_l {ch : Int} (W : WF t 1 m r) (j0 : 0 ≤ j) : ∀ (D i N : Nat), i + D = m → D < N → ((∃ u : Nat, i ≤ u ∧ u < m ∧ wg t 1 (u : Int) 1 = j) → lp (fun s => c275_b221 ch j s.1 s.2) N ((i : Int), t) = some (.inr (0, rfS 6 ch (-1) t))) ∧ ((∀ u : Nat, i ≤ u → u < m → wg t 1 (u : Int) 1 ≠ j) → lp (fun s => c275_b221 ch j s.1 s.2) N ((i : Int), t) = some (.inl t)) := by
  have hm := W.2.1
  intro D
  induction D with
  | zero =>
    intro i N hi hN
    obtain ⟨N, rfl⟩ : ∃ n, N = n + 1 := ⟨N - 1, by omega⟩
    refine ⟨fun z => (by obtain ⟨u, u1, u2, -⟩ := z; omega), fun _ => ?_⟩
    refine lp_d ?_
    show c275_b221 ch j (i : Int) t = _
    unfold c275_b221
    refine bnd (c198_e (by omega) (by omega)) ?_
    rw [W.1, if_pos (by omega)]
  | succ D ih =>
    intro i N hi hN
    obtain ⟨N, rfl⟩ : ∃ n, N = n + 1 := ⟨N - 1, by omega⟩
    have e199 : c199 1 (i : Int) 1 t = some (wg t 1 (i : Int) 1) := c199_e (by omega) (by omega) (by omega) (by omega) (by omega) (by omega)
    by_cases c : wg t 1 (i : Int) 1 = j
    · refine ⟨fun _ => ?_, fun z => absurd c (z i (Nat.le_refl _) (by omega))⟩
      refine lp_d ?_
      show c275_b221 ch j (i : Int) t = _
      unfold c275_b221
      refine bnd (c198_e (by omega) (by omega)) ?_
      rw [W.1, if_neg (by omega)]
      refine bnd e199 ?_
      rw [if_pos c]
      rfl
    · obtain ⟨y1, y2⟩ := ih (i + 1) N (by omega) (by omega)
      have e0 := lp_n (f := fun s => c275_b221 ch j s.1 s.2) (n := N) (s := ((i : Int), t)) (s' := (((i + 1 : Nat) : Int), t)) (by
        show c275_b221 ch j (i : Int) t = _
        unfold c275_b221
        refine bnd (c198_e (by omega) (by omega)) ?_
        rw [W.1, if_neg (by omega)]
        refine bnd e199 ?_
        rw [if_neg c, wadd_n (by omega)])
      refine ⟨fun z => e0.trans (y1 ?_), fun z => e0.trans (y2 (fun u u1 u2 => z u (by omega) u2))⟩
      obtain ⟨u, u1, u2, u3⟩ := z
      refine ⟨u, ?_, u2, u3⟩
      by_cases e : u = i
      · subst e; exact absurd u3 c
      · omega
/-- the kind goes -/
theorem goN {J : Nat} (B : B1 h t K P m r m0 G) (W0 : WF t 0 m0 r0) (h448 : 448 ≤ P) (jm : J < m) (no : ∀ u : Nat, u < m → wg t 1 (u : Int) 1 ≠ (J : Int)) : ∃ h' t' r', c148 P (kd h P (J : Int)) h = some (0, h') ∧ c278 (J : Int) t = some t' ∧ B1 h' t' K P (m - 1) r' m0 G ∧ (hN h' = hN h ∧ hM h' = hM h) ∧ (∀ x, x < P → sm h h' x) ∧ fw t t' ∧ ∀ (v : Nat) (g : Int), v + 1 < m → 0 ≤ g → g < 64 → wg t' 1 (v : Int) g = if g = 1 then dr1 (J : Int) (wg t 1 ((phi J v : Nat) : Int) 1) else wg t 1 ((phi J v : Nat) : Int) g := by
  obtain ⟨B0, Tz, Os⟩ := id B
  obtain ⟨⟨W, ⟨p1, p2, p3, p4, p5, p6, p7⟩, P3, P4⟩, b1, b2, b3, b4⟩ := id B0
  have hm := W.2.1
  obtain ⟨t', c1, c2, c3, c4⟩ := c278_e (h := t) (n := m) (j := J) W.1 hm jm (fun v v0 v1 => by
    rcases WF_up W ⟨v0, v1⟩ with z | z <;> omega)
  obtain ⟨hA, eA⟩ : ∃ hA, hA = sCR h (P + 1) (J + 1) (P + 1) J (m - 1 - J) := ⟨_, rfl⟩
  obtain ⟨hB, eB⟩ : ∃ hB, hB = sI hA P 1 ((m : Int) - 1) := ⟨_, rfl⟩
  obtain ⟨hC, eC⟩ : ∃ hC, hC = sR hB (P + 1) (m - 1) 0 := ⟨_, rfl⟩
  have iC : ∀ x i, ¬ (x = P ∧ i = 1) → hI hC x i = hI h x i := fun x i hx => by rw [eC, hI_sR, eB, hI_sI, if_neg hx, eA]; rfl
  have rC : ∀ x i, x ≠ P + 1 → hR hC x i = hR h x i := fun x i hx => by rw [eC, hR_sR, if_neg (by omega), eB, hR_sI, eA, hR_sCR, if_neg (by omega)]
  have tC : hT hC = hT h := by rw [eC, eB, eA]; rfl
  have lC : hL hC = hL h := by rw [eC, eB, eA]; rfl
  have nC : hN hC = hN h := by rw [eC, eB, eA]; rfl
  have mC : hM hC = hM h := by rw [eC, eB, eA]; rfl
  have sC : ∀ x, x ≠ P → x ≠ P + 1 → sm h hC x := fun x h1 h2 => ⟨fun i => iC x i (by omega), fun i => rC x i h2, by rw [tC], by rw [lC]⟩
  have ph : ∀ v : Nat, v + 1 < m → phi J v < m := fun v hv => by unfold phi; split <;> omega
  have phJ : ∀ v : Nat, phi J v ≠ J := fun v => by unfold phi; split <;> omega
  have phm : ∀ a b : Nat, a < b → phi J a < phi J b := fun a b hab => by unfold phi; split <;> split <;> omega
  have kC : ∀ v : Nat, v + 1 < m → kd hC P (v : Int) = kd h P ((phi J v : Nat) : Int) := fun v hv => by
    rw [kd_n (by omega), kd_n (by omega), Int.toNat_natCast, Int.toNat_natCast, eC, hR_sR, if_neg (by omega), eB, hR_sI, eA, hR_sCR]
    unfold phi
    by_cases c : J ≤ v
    · rw [if_pos ⟨rfl, c, by omega⟩, if_pos c]
      congr 1
      omega
    · rw [if_neg (by omega), if_neg c]
  have upv : ∀ v : Nat, v + 1 < m → wg t 1 ((phi J v : Nat) : Int) 1 = -1 ∨ (0 ≤ wg t 1 ((phi J v : Nat) : Int) 1 ∧ wg t 1 ((phi J v : Nat) : Int) 1 < m ∧ wg t 1 ((phi J v : Nat) : Int) 1 ≠ (J : Int)) := fun v hv => by
    rcases WF_up W (u := ((phi J v : Nat) : Int)) ⟨by omega, by have := ph v hv; omega⟩ with z | z
    · exact .inl z
    · exact .inr ⟨z.1, z.2, no _ (ph v hv)⟩
  have kd1 : ∀ a : Int, a = -1 ∨ (0 ≤ a ∧ a < m ∧ a ≠ (J : Int)) → kd hC P (dr1 (J : Int) a) = kd h P a ∧ (a = -1 ∨ (0 ≤ dr1 (J : Int) a ∧ dr1 (J : Int) a < ((m - 1 : Nat) : Int))) := fun a ha => by
    rcases ha with z | ⟨z0, z1, z2⟩
    · subst z
      unfold dr1
      rw [if_neg (by omega)]
      exact ⟨by rw [kd_m, kd_m], .inl rfl⟩
    · obtain ⟨a, rfl⟩ : ∃ A : Nat, a = (A : Int) := ⟨a.toNat, by omega⟩
      unfold dr1
      by_cases c : (J : Int) < (a : Int)
      · rw [if_pos c]
        have := kC (a - 1) (by omega)
        rw [show ((a - 1 : Nat) : Int) = (a : Int) - 1 by omega] at this
        refine ⟨by rw [this]; congr 1; unfold phi; rw [if_pos (by omega)]; omega, .inr ⟨by omega, by omega⟩⟩
      · rw [if_neg c]
        have := kC a (by omega)
        refine ⟨by rw [this]; congr 1; unfold phi; rw [if_neg (by omega)], .inr ⟨by omega, by omega⟩⟩
  have w1 : ∀ v : Nat, v + 1 < m → wg t' 1 (v : Int) 1 = dr1 (J : Int) (wg t 1 ((phi J v : Nat) : Int) 1) := fun v hv => by rw [c4 v 1 hv (by omega) (by omega), if_pos rfl]
  have wo : ∀ (v : Nat) (g : Int), v + 1 < m → 0 ≤ g → g < 64 → g ≠ 1 → wg t' 1 (v : Int) g = wg t 1 ((phi J v : Nat) : Int) g := fun v g hv g0 g1 hg => by rw [c4 v g hv g0 g1, if_neg hg]
  -- ranks
  obtain ⟨r', hr'⟩ := RKx (m := m - 1) (by omega) (fun u => wg t' 1 u 1) (fun u => r ((phi J u.toNat : Nat) : Int)) (fun u u0 u1 => by
    obtain ⟨v, rfl⟩ : ∃ v : Nat, u = (v : Int) := ⟨u.toNat, by omega⟩
    have hv : v + 1 < m := by omega
    show wg t' 1 (v : Int) 1 = -1 ∨ (0 ≤ wg t' 1 (v : Int) 1 ∧ wg t' 1 (v : Int) 1 < ((m - 1 : Nat) : Int) ∧ r ((phi J (wg t' 1 (v : Int) 1).toNat : Nat) : Int) < r ((phi J (v : Int).toNat : Nat) : Int))
    rw [w1 v hv, Int.toNat_natCast]
    have hz := (kd1 _ (upv v hv)).2
    rcases upv v hv with z | ⟨z0, z1, z2⟩
    · rw [z]; left; unfold dr1; rw [if_neg (by omega)]
    · rcases hz with y | ⟨y0, y1⟩
      · omega
      · refine .inr ⟨y0, y1, ?_⟩
        have e : ((phi J (dr1 (J : Int) (wg t 1 ((phi J v : Nat) : Int) 1)).toNat : Nat) : Int) = wg t 1 ((phi J v : Nat) : Int) 1 := by
          unfold dr1 phi
          by_cases c : (J : Int) < wg t 1 ((if J ≤ v then v + 1 else v : Nat) : Int) 1
          · have c' := c
            unfold phi at z0 z1 z2
            rw [if_pos c, if_pos (by omega)]; omega
          · unfold phi at z0 z1 z2
            rw [if_neg c, if_neg (by omega)]; omega
        rw [e]
        rcases WF_ok W _ ⟨show (0 : Int) ≤ ((phi J v : Nat) : Int) by omega, by have := ph v hv; omega⟩ with q | q
        · omega
        · exact q.2)
  refine ⟨hC, t', r', ?_, c1, ⟨⟨⟨⟨by rw [c3]; omega, by omega, fun k k0 k1 => ?_⟩, ⟨p1, by rw [nC]; exact p2, by rw [tC]; exact p3, by rw [rC P 0 (by omega)]; exact p4, by rw [tC]; exact p5, by rw [lC]; exact p6, by rw [eC, hI_sR, eB, hI_sI, if_pos ⟨rfl, rfl⟩]; omega⟩, fun k k0 k1 => ?_, fun i k i0 i1 k0 k1 => ?_⟩, fun k k0 k1 => ?_, fun i k i0 ik k1 => ?_, fun x v hx => ?_, fun k k0 k1 => ?_⟩, fun k k0 k1 n hn => ?_, fun k k0 k1 => ?_⟩, ⟨nC, mC⟩, fun x hx => sC x (by omega) (by omega), c2, c4⟩
  · -- c148
    have l := (c148_l (j := (J : Int)) B0 h448 (by omega) (by omega) m 0 hF0 (-1) (by omega) (hF0_lt (by omega)) (by rw [if_neg (by omega)])).2 (fun u _ u2 => no u u2)
    unfold c148
    refine (bnd l rfl).trans ?_
    rw [xs_il, if_neg (show ¬ ((J : Int) = (-1)) by omega)]
    refine bnd (gR_s p3) ?_
    refine bnd (gR_s p3) ?_
    refine bnd (gI_s p3) ?_
    rw [p4, p7, wadd_e (by omega) (by omega), wsub_e (x := (m : Int)) (by omega) (by omega), wsub_e (by omega) (by omega)]
    refine bnd ((cpR_n (J + 1) J (m - 1 - J) p5 p5 (by omega) (by omega) rfl rfl (by omega) (by rw [p6]; omega) (by rw [p6]; omega) (fun i hi => .inr ?_)).trans (congrArg some eA.symm)) ?_
    · have ek : kd h P ((J + 1 + i : Nat) : Int) = hR h (P + 1) (J + 1 + i) := kd_n (by omega)
      rw [← ek]
      exact (P3 _ (by omega) (by omega)).1.2.2.1
    have pA : hT hA P = 18 := by rw [eA]; exact p3
    refine bnd (gI_s pA) ?_
    rw [show hI hA P 1 = (m : Int) by rw [eA]; exact p7, wsub_e (by omega) (by omega)]
    refine bnd ((pI_s pA).trans (congrArg some eB.symm)) ?_
    have pB : hT hB P = 18 := by rw [eB]; exact pA
    refine bnd (gR_s pB) ?_
    refine bnd (gI_s pB) ?_
    rw [show hR hB P 0 = P + 1 by rw [eB, hR_sI, eA, hR_sCR, if_neg (by omega)]; exact p4, show hI hB P 1 = (m : Int) - 1 by rw [eB, hI_sI, if_pos ⟨rfl, rfl⟩]]
    refine bnd ((wR_s (by rw [eB, eA]; exact p5) (by omega) (by omega) (by rw [eB, eA]; show _ < (hL h (P + 1) : Int); omega) (.inl rfl)).trans (congrArg some (?_ : _ = hC))) rfl
    rw [eC, show ((m : Int) - 1).toNat = m - 1 by omega]
  · obtain ⟨v, rfl⟩ : ∃ v : Nat, k = (v : Int) := ⟨k.toNat, by omega⟩
    have hv : v + 1 < m := by omega
    obtain ⟨x1, x2⟩ := hr' (v : Int) k0 k1
    obtain ⟨-, -, w3, w4, w5⟩ := W.2.2 ((phi J v : Nat) : Int) (by omega) (by have := ph v hv; omega)
    rw [wo v 5 hv (by omega) (by omega) (by omega), wo v 30 hv (by omega) (by omega) (by omega), wo v 39 hv (by omega) (by omega) (by omega)]
    exact ⟨x1, x2, w3, w4, w5⟩
  · obtain ⟨v, rfl⟩ : ∃ v : Nat, k = (v : Int) := ⟨k.toNat, by omega⟩
    have hv : v + 1 < m := by omega
    have pv := ph v hv
    obtain ⟨Q, k1', k2', k3', k4', k5', k6'⟩ := P3 ((phi J v : Nat) : Int) (by omega) (by omega)
    obtain ⟨-, -, w3, w4, w5⟩ := W.2.2 ((phi J v : Nat) : Int) (by omega) (by omega)
    have kb := b1 ((phi J v : Nat) : Int) (by omega) (by omega)
    have s : ∀ o, sm h hC (kd h P ((phi J v : Nat) : Int) + o) := fun o => sC _ (by omega) (by omega)
    have s0 := s 0
    rw [Nat.add_zero] at s0
    unfold KR
    rw [kC v hv, wo v 0 hv (by omega) (by omega) (by omega), wo v 2 hv (by omega) (by omega) (by omega), wo v 5 hv (by omega) (by omega) (by omega), wo v 30 hv (by omega) (by omega) (by omega), wo v 39 hv (by omega) (by omega) (by omega), w1 v hv, (kd1 _ (upv v hv)).1, s0.1, s0.1, s0.1, s0.1, s0.1, s0.2.1]
    refine ⟨KD_sm Q (by rw [nC]; exact Nat.le_refl _) (fun o _ => s o) rfl, k1', k2', k3', ⟨k4'.1, fun i hi => ?_⟩, ⟨k5'.1, fun i hi => ?_⟩, ⟨k6'.1, fun i hi => ?_⟩⟩
    · rw [(s 1).1, (s 2).1, wo v _ hv (by omega) (by omega) (by omega), wo v _ hv (by omega) (by omega) (by omega)]
      exact k4'.2 i hi
    · rw [(s 4).1, (s 5).1, wo v _ hv (by omega) (by omega) (by omega), wo v _ hv (by omega) (by omega) (by omega)]
      exact k5'.2 i hi
    · rw [(s 6).1, (s 7).2.1, wo v _ hv (by omega) (by omega) (by omega), wo v _ hv (by omega) (by omega) (by omega)]
      exact k6'.2 i hi
  · obtain ⟨a, rfl⟩ : ∃ v : Nat, i = (v : Int) := ⟨i.toNat, by omega⟩
    obtain ⟨b, rfl⟩ : ∃ v : Nat, k = (v : Int) := ⟨k.toNat, by omega⟩
    rw [wo a 0 (by omega) (by omega) (by omega) (by omega), wo b 0 (by omega) (by omega) (by omega) (by omega)]
    intro e
    have := P4 _ _ (by omega) (by have := ph a (by omega); omega) (by omega) (by have := ph b (by omega); omega) e
    have := phi_i (g := J) a b (by omega)
    omega
  · obtain ⟨v, rfl⟩ : ∃ v : Nat, k = (v : Int) := ⟨k.toNat, by omega⟩
    rw [kC v (by omega)]
    exact b1 _ (by omega) (by have := ph v (by omega); omega)
  · obtain ⟨a, rfl⟩ : ∃ v : Nat, i = (v : Int) := ⟨i.toNat, by omega⟩
    obtain ⟨b, rfl⟩ : ∃ v : Nat, k = (v : Int) := ⟨k.toNat, by omega⟩
    rw [kC a (by omega), kC b (by omega)]
    exact b2 _ _ (by omega) (by have := phm a b (by omega); omega) (by have := ph b (by omega); omega)
  · obtain ⟨x1, x2, x3⟩ := b3 x v hx
    refine ⟨by rw [nC]; exact x1, x2, fun k k0 k1 => ?_⟩
    obtain ⟨v, rfl⟩ : ∃ v : Nat, k = (v : Int) := ⟨k.toNat, by omega⟩
    rw [kC v (by omega)]
    exact x3 _ (by omega) (by have := ph v (by omega); omega)
  · obtain ⟨v, rfl⟩ : ∃ v : Nat, k = (v : Int) := ⟨k.toNat, by omega⟩
    have hv : v + 1 < m := by omega
    have pv := ph v hv
    obtain ⟨y1, y2⟩ := b4 ((phi J v : Nat) : Int) (by omega) (by omega)
    obtain ⟨-, -, w3, -, -⟩ := W.2.2 ((phi J v : Nat) : Int) (by omega) (by omega)
    have kb := b1 ((phi J v : Nat) : Int) (by omega) (by omega)
    unfold XR
    rw [kC v hv, wo v 3 hv (by omega) (by omega) (by omega), wo v 5 hv (by omega) (by omega) (by omega), iC _ _ (by omega)]
    refine ⟨y1, fun i hi => ?_⟩
    rw [iC _ _ (by omega), wo v _ hv (by omega) (by omega) (by omega)]
    exact y2 i hi
  · obtain ⟨v, rfl⟩ : ∃ v : Nat, k = (v : Int) := ⟨k.toNat, by omega⟩
    have hv : v + 1 < m := by omega
    have pv := ph v hv
    have kb := b1 ((phi J v : Nat) : Int) (by omega) (by omega)
    rw [kC v hv, iC _ _ (by omega), rC _ _ (by omega), rC _ _ (by omega)]
    exact Tz _ (by omega) (by omega) n hn
  · obtain ⟨v, rfl⟩ : ∃ v : Nat, k = (v : Int) := ⟨k.toNat, by omega⟩
    have hv : v + 1 < m := by omega
    have pv := ph v hv
    obtain ⟨-, -, w3, w4, -⟩ := W.2.2 ((phi J v : Nat) : Int) (by omega) (by omega)
    exact KO_mv W0 c2 (Os ((phi J v : Nat) : Int) (by omega) (by omega)) (fun g g0 g1 hg => wo v g hv g0 (by omega) hg) w3.2 w4.2
end GNE
