/-! a patch is made: is a member told twice in a family -/
/-- the loop stops at the first that isn't right -/
theorem lp_ev {σ ρ : Type} {f : σ → Option (σ ⊕ ρ)} (e : Nat → σ) (ok : Nat → Prop) (F : Nat) (d b : ρ) (h1 : ∀ a, a < F → ok a → f (e a) = some (.inl (e (a + 1)))) (h2 : ∀ a, a < F → ¬ ok a → f (e a) = some (.inr b)) (h3 : f (e F) = some (.inr d)) : ∀ D i N, i + D = F → D < N → ((∀ a, i ≤ a → a < F → ok a) → lp f N (e i) = some d) ∧ ((∃ a, i ≤ a ∧ a < F ∧ ¬ ok a) → lp f N (e i) = some b) := by
  intro D
  induction D with
  | zero =>
    intro i N hi hN
    obtain ⟨N, rfl⟩ : ∃ n, N = n + 1 := ⟨N - 1, by omega⟩
    obtain rfl : i = F := by omega
    exact ⟨fun _ => lp_d h3, fun z => by obtain ⟨a, z1, z2, -⟩ := z; omega⟩
  | succ D ih =>
    intro i N hi hN
    obtain ⟨N, rfl⟩ : ∃ n, N = n + 1 := ⟨N - 1, by omega⟩
    obtain ⟨y1, y2⟩ := ih (i + 1) N (by omega) (by omega)
    by_cases c : ok i
    · have st := lp_n (n := N) (h1 i (by omega) c)
      refine ⟨fun z => st.trans (y1 (fun a a1 a2 => z a (by omega) a2)), fun z => st.trans (y2 ?_)⟩
      obtain ⟨a, a1, a2, a3⟩ := z
      refine ⟨a, ?_, a2, a3⟩
      by_cases q : a = i
      · subst q; exact absurd c a3
      · omega
    · exact ⟨fun z => absurd (z i (Nat.le_refl _) (by omega)) c, fun _ => lp_d (h2 i (by omega) c)⟩
/-- n is a name of an own field or static of i -/
def nmq (t : hS) (i n : Int) : Prop := (∃ a : Nat, (a : Int) < wg t 1 i 5 ∧ n = wg t 1 i (6 + a)) ∨ ∃ a : Nat, (a : Int) < wg t 1 i 30 ∧ n = wg t 1 i (31 + a)
section TWI
variable {h t : hS} {m P : Nat} {i j n u : Int} {r : Int → Nat} {K : Nat → Int → Prop}
theorem hAt_m : hAt t 1 (-1) n = -1 := clb_n _ _ 13
theorem hAt_u (W : WF t 1 m r) (u0 : 0 ≤ u) (u1 : u < m) : hAt t 1 u n = if hOw t 1 u n = true then u else hAt t 1 (wg t 1 u 1) n := clb_st W (fun v => hOw t 1 v n) u0 u1
/-- the class climbs from u -/
theorem c152_c (B : BW h t K P m r) (h448 : 448 ≤ P) (i0 : 0 ≤ i) (i1 : i < m) : ∀ (d N : Nat) (u : Int), (u = -1 ∨ ((0 ≤ u ∧ u < m) ∧ r u < d)) → d < N → ((∀ n, nmq t i n → hAt t 1 u n = -1) → lp (fun s => c152_b22 (kd h P i) h s) N (kd h P u) = some (.inl ())) ∧ ((∃ n, nmq t i n ∧ hAt t 1 u n ≠ -1) → lp (fun s => c152_b22 (kd h P i) h s) N (kd h P u) = some (.inr 1)) := by
  have base : ∀ N, 0 < N → ((∀ n, nmq t i n → hAt t 1 (-1) n = -1) → lp (fun s => c152_b22 (kd h P i) h s) N (kd h P (-1)) = some (.inl ())) ∧ ((∃ n, nmq t i n ∧ hAt t 1 (-1) n ≠ -1) → lp (fun s => c152_b22 (kd h P i) h s) N (kd h P (-1)) = some (.inr 1)) := fun N hN => by
    obtain ⟨N, rfl⟩ : ∃ n, N = n + 1 := ⟨N - 1, by omega⟩
    refine ⟨fun _ => ?_, fun z => by obtain ⟨n, -, z⟩ := z; exact absurd hAt_m z⟩
    refine lp_d ?_
    show c152_b22 (kd h P i) h (kd h P (-1)) = _
    unfold c152_b22
    rw [kd_m]
    refine bnd hnul_0 ?_
    rw [if_pos rfl]
  obtain ⟨⟨Q, -⟩, ⟨a1, a2, a3⟩, ⟨s1, s2, s3⟩, -⟩ := BW_at B i0 i1 rfl
  have T := Q.2.2.1
  intro d
  induction d with
  | zero =>
    intro N u hu hN
    have e : u = -1 := by
      rcases hu with z | ⟨-, z⟩
      · exact z
      · omega
    subst e
    exact base N hN
  | succ d ih =>
    intro N u hu hN
    obtain ⟨N, rfl⟩ : ∃ n, N = n + 1 := ⟨N - 1, by omega⟩
    rcases hu with z | ⟨⟨u0, u1⟩, z⟩
    · subst z
      exact base (N + 1) (by omega)
    · have k8 := kd_8 B.1 u0 u1
      have Tu := (B.1.2.2.1 u u0 u1).1.2.2.1
      have cf := lp_ev (f := fun s => c152_b29 (kd h P i) (kd h P u) h s) (fun a => (a : Int)) (fun a => hOw t 1 u (wg t 1 i (6 + a)) = false) (wg t 1 i 5).toNat (.inl ()) (.inr 1) (fun a ha q => by
        show c152_b29 (kd h P i) (kd h P u) h (a : Int) = _
        unfold c152_b29
        refine bnd (gI_s T) ?_
        rw [a1, if_neg (by omega)]
        refine bnd (gR_s T) ?_
        rw [(KD5 Q).1]
        refine bnd (aI_s (KD5 Q).2.1 (by omega) (by rw [(KD5 Q).2.2]; omega)) ?_
        refine bnd (kT_s Tu) ?_
        rw [Int.toNat_natCast, (a3 a (by omega)).1]
        refine bnd (c61_w (n := wg t 1 i (6 + a)) B.1 u0 u1) ?_
        rw [q, if_neg (show ¬ false = true by decide), if_pos rfl, wadd_n (by omega)]) (fun a ha q => by
        show c152_b29 (kd h P i) (kd h P u) h (a : Int) = _
        unfold c152_b29
        refine bnd (gI_s T) ?_
        rw [a1, if_neg (by omega)]
        refine bnd (gR_s T) ?_
        rw [(KD5 Q).1]
        refine bnd (aI_s (KD5 Q).2.1 (by omega) (by rw [(KD5 Q).2.2]; omega)) ?_
        refine bnd (kT_s Tu) ?_
        rw [Int.toNat_natCast, (a3 a (by omega)).1]
        refine bnd (c61_w (n := wg t 1 i (6 + a)) B.1 u0 u1) ?_
        rw [if_pos (show hOw t 1 u (wg t 1 i (6 + a)) = true by cases hh : hOw t 1 u (wg t 1 i (6 + a)); exact absurd hh q; rfl), if_neg (by omega)]) (by
        show c152_b29 (kd h P i) (kd h P u) h (((wg t 1 i 5).toNat : Nat) : Int) = _
        unfold c152_b29
        refine bnd (gI_s T) ?_
        rw [a1, if_pos (by omega)]) (wg t 1 i 5).toNat 0 hF0 (by omega) (hF0_lt (by omega))
      have cs := lp_ev (f := fun s => c152_b63 (kd h P i) (kd h P u) h s) (fun a => (a : Int)) (fun a => hOw t 1 u (wg t 1 i (31 + a)) = false) (wg t 1 i 30).toNat (.inl ()) (.inr 1) (fun a ha q => by
        show c152_b63 (kd h P i) (kd h P u) h (a : Int) = _
        unfold c152_b63
        refine bnd (gI_s T) ?_
        rw [s1, if_neg (by omega)]
        refine bnd (gR_s T) ?_
        rw [(KD9 Q).1]
        refine bnd (aI_s (KD9 Q).2.1 (by omega) (by rw [(KD9 Q).2.2]; omega)) ?_
        refine bnd (kT_s Tu) ?_
        rw [Int.toNat_natCast, (s3 a (by omega)).1]
        refine bnd (c61_w (n := wg t 1 i (31 + a)) B.1 u0 u1) ?_
        rw [q, if_neg (show ¬ false = true by decide), if_pos rfl, wadd_n (by omega)]) (fun a ha q => by
        show c152_b63 (kd h P i) (kd h P u) h (a : Int) = _
        unfold c152_b63
        refine bnd (gI_s T) ?_
        rw [s1, if_neg (by omega)]
        refine bnd (gR_s T) ?_
        rw [(KD9 Q).1]
        refine bnd (aI_s (KD9 Q).2.1 (by omega) (by rw [(KD9 Q).2.2]; omega)) ?_
        refine bnd (kT_s Tu) ?_
        rw [Int.toNat_natCast, (s3 a (by omega)).1]
        refine bnd (c61_w (n := wg t 1 i (31 + a)) B.1 u0 u1) ?_
        rw [if_pos (show hOw t 1 u (wg t 1 i (31 + a)) = true by cases hh : hOw t 1 u (wg t 1 i (31 + a)); exact absurd hh q; rfl), if_neg (by omega)]) (by
        show c152_b63 (kd h P i) (kd h P u) h (((wg t 1 i 30).toNat : Nat) : Int) = _
        unfold c152_b63
        refine bnd (gI_s T) ?_
        rw [s1, if_pos (by omega)]) (wg t 1 i 30).toNat 0 hF0 (by omega) (hF0_lt (by omega))
      have okF : ∀ n, hOw t 1 u n = false ∨ hOw t 1 u n = true := fun n => by cases hOw t 1 u n; exact .inl rfl; exact .inr rfl
      have one : ∀ R, ((lp (fun s => c152_b29 (kd h P i) (kd h P u) h s) hF0 0).bind (fun r14 => xs r14 (fun x14 => (lp (fun s => c152_b63 (kd h P i) (kd h P u) h s) hF0 0).bind (fun r22 => xs r22 (fun x22 => (gR h (kd h P u) 24 1).bind (fun v23 => some (.inl (v23)))) (fun o22 => some (.inr (.inr o22))))) (fun o14 => some (.inr (.inr o14))))) = R → c152_b22 (kd h P i) h (kd h P u) = R := fun R e => by
        unfold c152_b22
        refine bnd (hnul_8 (by omega)) ?_
        rw [if_neg (by decide)]
        exact e
      by_cases ex : ∃ n, nmq t i n ∧ hOw t 1 u n = true
      · have out : lp (fun s => c152_b22 (kd h P i) h s) (N + 1) (kd h P u) = some (.inr 1) := by
          refine lp_d (one _ ?_)
          by_cases exF : ∃ a : Nat, 0 ≤ a ∧ a < (wg t 1 i 5).toNat ∧ ¬ hOw t 1 u (wg t 1 i (6 + a)) = false
          · refine bnd (cf.2 exF) ?_
            rfl
          · refine bnd (cf.1 (fun a a0 a1 => by
              rcases okF (wg t 1 i (6 + a)) with q | q
              · exact q
              · exact absurd ⟨a, a0, a1, by rw [q]; decide⟩ exF)) ?_
            refine (bnd (cs.2 ?_) rfl).trans rfl
            obtain ⟨n, n1, n2⟩ := ex
            rcases n1 with ⟨a, a1, a2⟩ | ⟨a, a1, a2⟩
            · exact absurd ⟨a, Nat.zero_le _, by omega, by rw [← a2, n2]; decide⟩ exF
            · exact ⟨a, Nat.zero_le _, by omega, by rw [← a2, n2]; decide⟩
        refine ⟨fun q => ?_, fun _ => out⟩
        obtain ⟨n, n1, n2⟩ := ex
        have := q n n1
        rw [hAt_u B.1.1 u0 u1, if_pos n2] at this
        omega
      · have no : ∀ n, nmq t i n → hOw t 1 u n = false := fun n hn => by
          rcases okF n with q | q
          · exact q
          · exact absurd ⟨n, hn, q⟩ ex
        have st : (fun s => c152_b22 (kd h P i) h s) (kd h P u) = some (.inl (kd h P (wg t 1 u 1))) := by
          refine one _ ?_
          refine (bnd (cf.1 (fun a _ a1 => no _ (.inl ⟨a, by omega, rfl⟩))) rfl).trans ?_
          refine (bnd (cs.1 (fun a _ a1 => no _ (.inr ⟨a, by omega, rfl⟩))) rfl).trans ?_
          refine bnd (gR_s Tu) ?_
          rw [(B.1.2.2.1 u u0 u1).2.2.1]
        have hh : ∀ n, nmq t i n → hAt t 1 u n = hAt t 1 (wg t 1 u 1) n := fun n hn => by rw [hAt_u B.1.1 u0 u1, if_neg (by rw [no n hn]; decide)]
        obtain ⟨y1, y2⟩ := ih N (wg t 1 u 1) (by
          rcases WF_ok B.1.1 u ⟨u0, u1⟩ with y | ⟨y1, y2⟩
          · exact .inl y
          · exact .inr ⟨y1, by omega⟩) (by omega)
        refine ⟨fun q => (lp_n st).trans (y1 (fun n hn => by rw [← hh n hn]; exact q n hn)), fun q => (lp_n st).trans (y2 ?_)⟩
        obtain ⟨n, n1, n2⟩ := q
        exact ⟨n, n1, by rw [← hh n n1]; exact n2⟩
/-- kind i is clear -/
def clq (t : hS) (i : Int) : Prop := ∀ n, nmq t i n → hAt t 1 (wg t 1 i 1) n = -1
theorem c152_e (B : BW h t K P m r) (h448 : 448 ≤ P) : ((∀ i : Nat, i < m → clq t i) → c152 P h = some 0) ∧ ((∃ i : Nat, i < m ∧ ¬ clq t i) → c152 P h = some 1) := by
  have W := B.1.1
  have hm := W.2.1
  have p3 := B.1.2.1.2.2.1
  have p7 := B.1.2.1.2.2.2.2.2.2
  have go : ∀ i : Nat, i < m → (clq t i → c152_b2 P h (i : Int) = some (.inl ((i + 1 : Nat) : Int))) ∧ (¬ clq t i → c152_b2 P h (i : Int) = some (.inr (.inr 1))) := fun i hi => by
    have i0 : (0 : Int) ≤ i := by omega
    have i1 : (i : Int) < m := by omega
    have ek : kd h P (i : Int) = hR h (P + 1) i := kd_n i0
    have KRi := B.1.2.2.1 (i : Int) i0 i1
    have c := c152_c B h448 i0 i1 12 hF0 (wg t 1 (i : Int) 1) (by
      rcases WF_up W ⟨i0, i1⟩ with z | z
      · exact .inl z
      · exact .inr ⟨z, (W.2.2 _ z.1 z.2).1⟩) (hF0_lt (by omega))
    have st : ∀ R, ((lp (fun s => c152_b22 (kd h P (i : Int)) h s) hF0 (kd h P (wg t 1 (i : Int) 1))).bind (fun r24 => xs r24 (fun _ => some (.inl (wadd (i : Int) 1))) (fun o24 => some (.inr (.inr o24))))) = R → c152_b2 P h (i : Int) = R := fun R e => by
      unfold c152_b2
      refine bnd (gI_s p3) ?_
      rw [p7, if_neg (by omega)]
      refine bnd (gR_s p3) ?_
      rw [B.1.2.1.2.2.2.1]
      refine bnd (aR_s B.1.2.1.2.2.2.2.1 i0 (by rw [B.1.2.1.2.2.2.2.2.1]; omega)) ?_
      rw [Int.toNat_natCast, ← ek]
      refine bnd (gR_s KRi.1.2.2.1) ?_
      rw [KRi.2.2.1]
      exact e
    refine ⟨fun q => st _ ?_, fun q => st _ ?_⟩
    · refine (bnd (c.1 q) rfl).trans ?_
      show some (Sum.inl (wadd (i : Int) 1)) = _
      rw [wadd_n (by omega)]
    · refine (bnd (c.2 ?_) rfl).trans rfl
      by_cases ex : ∃ n, nmq t i n ∧ hAt t 1 (wg t 1 i 1) n ≠ -1
      · exact ex
      · exact absurd (fun n hn => by
          by_cases y : hAt t 1 (wg t 1 i 1) n = -1
          · exact y
          · exact absurd ⟨n, hn, y⟩ ex) q
  have l := lp_ev (f := fun s => c152_b2 P h s) (fun a => (a : Int)) (fun a => clq t a) m (.inl ()) (.inr 1) (fun a ha q => (go a ha).1 q) (fun a ha q => (go a ha).2 q) (by
    show c152_b2 P h (m : Int) = _
    unfold c152_b2
    refine bnd (gI_s p3) ?_
    rw [p7, if_pos (by omega)]) m 0 hF0 (by omega) (hF0_lt (by omega))
  refine ⟨fun q => ?_, fun q => ?_⟩
  · unfold c152
    exact (bnd (l.1 (fun a _ ha => q a ha)) rfl).trans rfl
  · unfold c152
    obtain ⟨a, a1, a2⟩ := q
    exact (bnd (l.2 ⟨a, Nat.zero_le _, a1, a2⟩) rfl).trans rfl
theorem c282_e (W : WF t 1 m r) : ((∀ i : Nat, i < m → clq t i) → c282 t = some (1, t)) ∧ ((∃ i : Nat, i < m ∧ ¬ clq t i) → c282 t = some (0, rfS 8 (-1) (-1) t)) := by
  have hm := W.2.1
  have go : ∀ i : Nat, i < m → (clq t i → c282_b2 (i : Int) t = some (.inl (((i + 1 : Nat) : Int), t))) ∧ (¬ clq t i → c282_b2 (i : Int) t = some (.inr (.inr (0, rfS 8 (-1) (-1) t)))) := fun i hi => by
    have i0 : (0 : Int) ≤ i := by omega
    have i1 : (i : Int) < m := by omega
    obtain ⟨-, -, w3, w4, -⟩ := W.2.2 (i : Int) i0 i1
    have cf := lp_ev (f := fun s : Int × hS => c282_b13 (i : Int) s.1 s.2) (fun a => ((a : Int), t)) (fun a => hAt t 1 (wg t 1 i 1) (wg t 1 i (6 + a)) = -1) (wg t 1 i 5).toNat (.inl t) (.inr (0, rfS 8 (-1) (-1) t)) (fun a ha q => by
      show c282_b13 (i : Int) (a : Int) t = _
      unfold c282_b13
      refine bnd (c199_e (by omega) (by omega) i0 (by omega) (by omega) (by omega)) ?_
      rw [if_neg (by omega), wadd_e (by omega) (by omega)]
      refine bnd (c199_e (by omega) (by omega) i0 (by omega) (by omega) (by omega)) ?_
      refine bnd (c209_w W (by omega) (by omega) i0 i1) ?_
      rw [show clb (fun u => hOw t 1 u (wg t 1 (i : Int) (6 + a))) (fun u => wg t 1 u 1) 13 (wg t 1 (i : Int) 1) = hAt t 1 (wg t 1 (i : Int) 1) (wg t 1 (i : Int) (6 + a)) from rfl, if_pos q, if_pos rfl, wadd_n (by omega)]) (fun a ha q => by
      show c282_b13 (i : Int) (a : Int) t = _
      unfold c282_b13
      refine bnd (c199_e (by omega) (by omega) i0 (by omega) (by omega) (by omega)) ?_
      rw [if_neg (by omega), wadd_e (by omega) (by omega)]
      refine bnd (c199_e (by omega) (by omega) i0 (by omega) (by omega) (by omega)) ?_
      refine bnd (c209_w W (by omega) (by omega) i0 i1) ?_
      rw [show clb (fun u => hOw t 1 u (wg t 1 (i : Int) (6 + a))) (fun u => wg t 1 u 1) 13 (wg t 1 (i : Int) 1) = hAt t 1 (wg t 1 (i : Int) 1) (wg t 1 (i : Int) (6 + a)) from rfl, if_neg q, if_neg (by omega)]
      rfl) (by
      show c282_b13 (i : Int) (((wg t 1 i 5).toNat : Nat) : Int) t = _
      unfold c282_b13
      refine bnd (c199_e (by omega) (by omega) i0 (by omega) (by omega) (by omega)) ?_
      rw [if_pos (by omega)]) (wg t 1 i 5).toNat 0 hF0 (by omega) (hF0_lt (by omega))
    have cs := lp_ev (f := fun s : Int × hS => c282_b60 (i : Int) s.1 s.2) (fun a => ((a : Int), t)) (fun a => hAt t 1 (wg t 1 i 1) (wg t 1 i (31 + a)) = -1) (wg t 1 i 30).toNat (.inl t) (.inr (0, rfS 8 (-1) (-1) t)) (fun a ha q => by
      show c282_b60 (i : Int) (a : Int) t = _
      unfold c282_b60
      refine bnd (c199_e (by omega) (by omega) i0 (by omega) (by omega) (by omega)) ?_
      rw [if_neg (by omega), wadd_e (by omega) (by omega)]
      refine bnd (c199_e (by omega) (by omega) i0 (by omega) (by omega) (by omega)) ?_
      refine bnd (c209_w W (by omega) (by omega) i0 i1) ?_
      rw [show clb (fun u => hOw t 1 u (wg t 1 (i : Int) (31 + a))) (fun u => wg t 1 u 1) 13 (wg t 1 (i : Int) 1) = hAt t 1 (wg t 1 (i : Int) 1) (wg t 1 (i : Int) (31 + a)) from rfl, if_pos q, if_pos rfl, wadd_n (by omega)]) (fun a ha q => by
      show c282_b60 (i : Int) (a : Int) t = _
      unfold c282_b60
      refine bnd (c199_e (by omega) (by omega) i0 (by omega) (by omega) (by omega)) ?_
      rw [if_neg (by omega), wadd_e (by omega) (by omega)]
      refine bnd (c199_e (by omega) (by omega) i0 (by omega) (by omega) (by omega)) ?_
      refine bnd (c209_w W (by omega) (by omega) i0 i1) ?_
      rw [show clb (fun u => hOw t 1 u (wg t 1 (i : Int) (31 + a))) (fun u => wg t 1 u 1) 13 (wg t 1 (i : Int) 1) = hAt t 1 (wg t 1 (i : Int) 1) (wg t 1 (i : Int) (31 + a)) from rfl, if_neg q, if_neg (by omega)]
      rfl) (by
      show c282_b60 (i : Int) (((wg t 1 i 30).toNat : Nat) : Int) t = _
      unfold c282_b60
      refine bnd (c199_e (by omega) (by omega) i0 (by omega) (by omega) (by omega)) ?_
      rw [if_pos (by omega)]) (wg t 1 i 30).toNat 0 hF0 (by omega) (hF0_lt (by omega))
    have st : ∀ R, ((lp (fun s => c282_b13 (i : Int) s.1 s.2) hF0 ((0 : Int), t)).bind (fun r10 => xs r10 (fun x10 => (lp (fun s => c282_b60 (i : Int) s.1 s.2) hF0 ((0 : Int), x10)).bind (fun r18 => xs r18 (fun x18 => some (.inl ((wadd (i : Int) 1), x18))) (fun o18 => some (.inr (.inr o18))))) (fun o10 => some (.inr (.inr o10))))) = R → c282_b2 (i : Int) t = R := fun R e => by
      unfold c282_b2
      refine bnd (c198_e (by omega) (by omega)) ?_
      rw [W.1, if_neg (by omega)]
      exact e
    refine ⟨fun q => st _ ?_, fun q => st _ ?_⟩
    · refine (bnd (cf.1 (fun a _ a1 => q _ (.inl ⟨a, by omega, rfl⟩))) rfl).trans ?_
      refine (bnd (cs.1 (fun a _ a1 => q _ (.inr ⟨a, by omega, rfl⟩))) rfl).trans ?_
      show some (Sum.inl (wadd (i : Int) 1, t)) = _
      rw [wadd_n (by omega)]
    · by_cases exF : ∃ a : Nat, 0 ≤ a ∧ a < (wg t 1 i 5).toNat ∧ ¬ hAt t 1 (wg t 1 i 1) (wg t 1 i (6 + a)) = -1
      · exact (bnd (cf.2 exF) rfl).trans rfl
      · have okF : ∀ a : Nat, a < (wg t 1 i 5).toNat → hAt t 1 (wg t 1 i 1) (wg t 1 i (6 + a)) = -1 := fun a ha => by
          by_cases y : hAt t 1 (wg t 1 i 1) (wg t 1 i (6 + a)) = -1
          · exact y
          · exact absurd ⟨a, Nat.zero_le _, ha, y⟩ exF
        refine (bnd (cf.1 (fun a _ a1 => okF a a1)) rfl).trans ?_
        refine (bnd (cs.2 ?_) rfl).trans rfl
        by_cases exS : ∃ a : Nat, 0 ≤ a ∧ a < (wg t 1 i 30).toNat ∧ ¬ hAt t 1 (wg t 1 i 1) (wg t 1 i (31 + a)) = -1
        · exact exS
        · refine absurd (fun n hn => ?_) q
          rcases hn with ⟨a, a1, a2⟩ | ⟨a, a1, a2⟩
          · rw [a2]; exact okF a (by omega)
          · rw [a2]
            by_cases y : hAt t 1 (wg t 1 i 1) (wg t 1 i (31 + a)) = -1
            · exact y
            · exact absurd ⟨a, Nat.zero_le _, by omega, y⟩ exS
  have l := lp_ev (f := fun s : Int × hS => c282_b2 s.1 s.2) (fun a => ((a : Int), t)) (fun a => clq t a) m (.inl t) (.inr (0, rfS 8 (-1) (-1) t)) (fun a ha q => (go a ha).1 q) (fun a ha q => (go a ha).2 q) (by
    show c282_b2 (m : Int) t = _
    unfold c282_b2
    refine bnd (c198_e (by omega) (by omega)) ?_
    rw [W.1, if_pos (by omega)]) m 0 hF0 (by omega) (hF0_lt (by omega))
  refine ⟨fun q => ?_, fun q => ?_⟩
  · unfold c282
    exact (bnd (l.1 (fun a _ ha => q a ha)) rfl).trans rfl
  · unfold c282
    obtain ⟨a, a1, a2⟩ := q
    exact (bnd (l.2 ⟨a, Nat.zero_le _, a1, a2⟩) rfl).trans rfl
/-- no name twice in a family -/
theorem KO_CF {m0 : Nat} {G : Int} (W : WF t 1 m r) (Os : ∀ j : Int, 0 ≤ j → j < m → KO t m0 G j) (q : ∀ i : Nat, i < m → clq t i) : CF t 1 m := by
  intro j j0 j1
  obtain ⟨-, -, -, o4, o5, o6, -, -⟩ := Os j j0 j1
  obtain ⟨-, -, w3, w4, -⟩ := W.2.2 j j0 j1
  refine ⟨o4, o5, fun n hn => ?_, fun n hn => ?_⟩
  · by_cases c : sIx t 1 j n = -1
    · exact c
    · obtain ⟨a1, a2, a3⟩ := fIx_lt W j0 j1 hn
      obtain ⟨b1, b2, b3⟩ := sIx_lt W j0 j1 c
      have := o6 (fIx t 1 j n).toNat (sIx t 1 j n).toNat (by omega) (by omega)
      rw [show ((fIx t 1 j n).toNat : Int) = fIx t 1 j n by omega, show ((sIx t 1 j n).toNat : Int) = sIx t 1 j n by omega, a3, b3] at this
      exact absurd rfl this
  · have qj := q j.toNat (by omega)
    rw [show ((j.toNat : Nat) : Int) = j by omega] at qj
    refine qj n ?_
    by_cases c : fIx t 1 j n = -1
    · have c2 : sIx t 1 j n ≠ -1 := fun z => by
        unfold hOw at hn
        rw [decide_eq_true_iff] at hn
        exact hn ⟨c, z⟩
      obtain ⟨b1, b2, b3⟩ := sIx_lt W j0 j1 c2
      exact .inr ⟨(sIx t 1 j n).toNat, by omega, by rw [show ((sIx t 1 j n).toNat : Int) = sIx t 1 j n by omega, b3]⟩
    · obtain ⟨a1, a2, a3⟩ := fIx_lt W j0 j1 c
      exact .inl ⟨(fIx t 1 j n).toNat, by omega, by rw [show ((fIx t 1 j n).toNat : Int) = fIx t 1 j n by omega, a3]⟩
end TWI
