/-! a patch is made: ranks, who is under whom -/
def cntq (P : Nat → Bool) : Nat → Nat
  | 0 => 0
  | n + 1 => (if P n = true then 1 else 0) + cntq P n
theorem cntq_le {P Q : Nat → Bool} : ∀ (n : Nat), (∀ i, i < n → P i = true → Q i = true) → cntq P n ≤ cntq Q n
  | 0, _ => Nat.le_refl _
  | n + 1, h => by
    have ih := cntq_le n (fun i hi => h i (by omega))
    show (if P n = true then 1 else 0) + cntq P n ≤ (if Q n = true then 1 else 0) + cntq Q n
    by_cases c : P n = true
    · rw [if_pos c, if_pos (h n (by omega) c)]; omega
    · rw [if_neg c]; omega
theorem cntq_lt {P Q : Nat → Bool} {x : Nat} : ∀ (n : Nat), (∀ i, i < n → P i = true → Q i = true) → x < n → Q x = true → ¬ P x = true → cntq P n < cntq Q n
  | 0, _, hx, _, _ => by omega
  | n + 1, h, hx, q, p => by
    show (if P n = true then 1 else 0) + cntq P n < (if Q n = true then 1 else 0) + cntq Q n
    by_cases e : x = n
    · subst e
      have := cntq_le x (fun i hi => h i (by omega))
      rw [if_neg p, if_pos q]; omega
    · have ih := cntq_lt n (fun i hi => h i (by omega)) (by omega) q p
      by_cases c : P n = true
      · rw [if_pos c, if_pos (h n (by omega) c)]; omega
      · rw [if_neg c]; omega
theorem cntq_n : ∀ n : Nat, cntq (fun _ => true) n = n
  | 0 => rfl
  | n + 1 => by
    show (if true = true then 1 else 0) + cntq (fun _ => true) n = _
    rw [cntq_n n, if_pos rfl]; omega
/-- ranks below m, where some ranks are there -/
theorem RKx {m : Nat} (hm : m ≤ 12) (up : Int → Int) (s : Int → Nat) (hs : ∀ k : Int, 0 ≤ k → k < m → up k = -1 ∨ (0 ≤ up k ∧ up k < m ∧ s (up k) < s k)) : ∃ r : Int → Nat, ∀ k : Int, 0 ≤ k → k < m → r k < 12 ∧ (up k = -1 ∨ (0 ≤ up k ∧ up k < m ∧ r (up k) < r k)) := by
  refine ⟨fun k => cntq (fun i => decide (s (i : Int) < s k)) m, fun k k0 k1 => ⟨?_, ?_⟩⟩
  · have := cntq_lt (P := fun i => decide (s (i : Int) < s k)) (Q := fun _ => true) (x := k.toNat) m (fun _ _ _ => rfl) (by omega) rfl (by
      show ¬ decide (s ((k.toNat : Nat) : Int) < s k) = true
      rw [show ((k.toNat : Nat) : Int) = k by omega, decide_eq_true_iff]
      omega)
    rw [cntq_n] at this
    show cntq (fun i => decide (s (i : Int) < s k)) m < 12
    omega
  · rcases hs k k0 k1 with e | ⟨e0, e1, e2⟩
    · exact .inl e
    · refine .inr ⟨e0, e1, ?_⟩
      refine cntq_lt (x := (up k).toNat) m (fun i _ z => ?_) (by omega) ?_ ?_
      · have z : decide (s (i : Int) < s (up k)) = true := z
        show decide (s (i : Int) < s k) = true
        rw [decide_eq_true_iff] at z ⊢
        omega
      · show decide (s (((up k).toNat : Nat) : Int) < s k) = true
        rw [show (((up k).toNat : Nat) : Int) = up k by omega, decide_eq_true_iff]
        exact e2
      · show ¬ decide (s (((up k).toNat : Nat) : Int) < s (up k)) = true
        rw [show (((up k).toNat : Nat) : Int) = up k by omega, decide_eq_true_iff]
        omega
theorem hreq_e {x y : Nat} (hx : x = 0 ∨ 8 ≤ x) (hy : 8 ≤ y) : hreq x y = some (decide (x = y)) := by
  unfold hreq
  rw [rv_ge hy]
  rcases hx with e | e
  · subst e
    show some false = _
    rw [decide_eq_false (by omega)]
  · rw [rv_ge e]
    show some (decide (x - 8 = y - 8)) = _
    by_cases c : x = y
    · rw [decide_eq_true c, decide_eq_true (by omega)]
    · rw [decide_eq_false c, decide_eq_false (by omega)]
/-- u is j or under it -/
def iU (t : hS) (w j u : Int) : Int := clb (fun v => decide (v = j)) (fun v => wg t w v 1) 13 u
section UND
variable {h t hc hr : hS} {m p : Nat} {w j u n : Int} {r : Int → Nat} {C : Nat → Int → Prop}
theorem clb_Q {P : Int → Bool} {up : Int → Int} : ∀ (f : Nat) (u : Int), clb P up f u = -1 ∨ P (clb P up f u) = true
  | 0, _ => .inl rfl
  | f + 1, u => by
    show (if u = -1 then (-1 : Int) else if P u = true then u else clb P up f (up u)) = -1 ∨ P (if u = -1 then (-1 : Int) else if P u = true then u else clb P up f (up u)) = true
    by_cases e : u = -1
    · rw [if_pos e]; exact .inl rfl
    · rw [if_neg e]
      by_cases e2 : P u = true
      · rw [if_pos e2]; exact .inr e2
      · rw [if_neg e2]; exact clb_Q f (up u)
theorem iU_j (e : iU t w j u ≠ -1) : iU t w j u = j := by
  unfold iU at e ⊢
  rcases clb_Q (P := fun v => decide (v = j)) (up := fun v => wg t w v 1) 13 u with z | z
  · exact absurd z e
  · exact of_decide_eq_true z
theorem iU_m : iU t w j (-1) = -1 := clb_n _ _ 13
theorem iU_st (W : WF t w m r) (u0 : 0 ≤ u) (u1 : u < m) : iU t w j u = if u = j then u else iU t w j (wg t w u 1) := by
  unfold iU
  rw [clb_st W _ u0 u1]
  by_cases c : u = j
  · rw [if_pos (decide_eq_true c), if_pos c]
  · rw [if_neg (by rw [decide_eq_true_iff]; exact c), if_neg c]
theorem c279_l (W : WF t w m r) (w0 : 0 ≤ w) (w1 : w < 3) (j0 : 0 ≤ j) : ∀ (d N : Nat) (u : Int), (u = -1 ∨ ((0 ≤ u ∧ u < m) ∧ r u < d)) → d < N → lp (fun s => c279_b3 w j t s) N u = some (clb (fun v => decide (v = j)) (fun v => wg t w v 1) (d + 1) u) := by
  refine lp_clb (fun v => decide (v = j)) (fun v => wg t w v 1) r (fun u => 0 ≤ u ∧ u < m) ?_ (fun u hu => ?_) (fun u hu => WF_ok W u hu) (fun u hu => by omega)
  · show c279_b3 w j t (-1) = _
    unfold c279_b3
    rw [if_pos rfl]
  · show c279_b3 w j t u = _
    have hm := W.2.1
    unfold c279_b3
    rw [if_neg (by omega)]
    by_cases c : u = j
    · rw [if_pos c, if_pos (decide_eq_true c)]
    · rw [if_neg c, if_neg (by rw [decide_eq_true_iff]; exact c)]
      exact bnd (c199_e w0 w1 hu.1 (by omega) (by omega) (by omega)) rfl
theorem clb_13 (W : WF t w m r) (P : Int → Bool) (hu : u = -1 ∨ (0 ≤ u ∧ u < m)) : clb P (fun v => wg t w v 1) (12 + 1) u = clb P (fun v => wg t w v 1) 13 u := rfl
theorem c279_w (W : WF t w m r) (w0 : 0 ≤ w) (w1 : w < 3) (j0 : 0 ≤ j) (hu : u = -1 ∨ (0 ≤ u ∧ u < m)) : c279 w u j t = some (if iU t w j u = -1 then 0 else 1) := by
  have e := c279_l (j := j) W w0 w1 j0 12 hF0 u (by
    rcases hu with z | z
    · exact .inl z
    · exact .inr ⟨z, (W.2.2 u z.1 z.2).1⟩) (hF0_lt (by omega))
  unfold c279
  refine bnd e ?_
  show (if iU t w j u = j then some 1 else some 0) = _
  by_cases c : iU t w j u = -1
  · rw [if_neg (by rw [c]; omega), if_pos c]
  · rw [if_pos (iU_j c), if_neg c]
/-- the class asks by the name -/
theorem c150_w (P : PW hc hr C p w m r) (hu : u = -1 ∨ (0 ≤ u ∧ u < m)) : c150 (kd hc p u) n hc = some (if clb (fun v => decide (wg hr w v 0 = n)) (fun v => wg hr w v 1) 13 u = -1 then 0 else 1) := by
  obtain ⟨W, P2, P3, P4⟩ := P
  have key : ∀ (d N : Nat) (u : Int), (u = -1 ∨ ((0 ≤ u ∧ u < m) ∧ r u < d)) → d < N → lp (fun s => c150_b2 n hc s) N (kd hc p u) = some (if clb (fun v => decide (wg hr w v 0 = n)) (fun v => wg hr w v 1) (d + 1) u = -1 then .inl () else .inr 1) := by
    intro d
    induction d with
    | zero =>
      intro N u hu hN
      obtain ⟨N, rfl⟩ : ∃ n, N = n + 1 := ⟨N - 1, by omega⟩
      have e : u = -1 := by
        rcases hu with z | ⟨-, z⟩
        · exact z
        · omega
      subst e
      rw [clb_n, if_pos rfl]
      refine lp_d ?_
      show c150_b2 n hc (kd hc p (-1)) = _
      unfold c150_b2
      rw [kd_m]
      refine bnd hnul_0 ?_
      rw [if_pos rfl]
    | succ d ih =>
      intro N u hu hN
      obtain ⟨N, rfl⟩ : ∃ n, N = n + 1 := ⟨N - 1, by omega⟩
      rcases hu with z | ⟨⟨u0, u1⟩, z⟩
      · subst z
        rw [clb_n, if_pos rfl]
        refine lp_d ?_
        show c150_b2 n hc (kd hc p (-1)) = _
        unfold c150_b2
        rw [kd_m]
        refine bnd hnul_0 ?_
        rw [if_pos rfl]
      · obtain ⟨Q, ⟨k1, -, -⟩, k4, -⟩ := P3 u u0 u1
        have q8 := Q.1
        have e0 : clb (fun v => decide (wg hr w v 0 = n)) (fun v => wg hr w v 1) (d + 1 + 1) u = if wg hr w u 0 = n then u else clb (fun v => decide (wg hr w v 0 = n)) (fun v => wg hr w v 1) (d + 1) (wg hr w u 1) := by
          show (if u = -1 then (-1 : Int) else if decide (wg hr w u 0 = n) = true then u else _) = _
          rw [if_neg (by omega)]
          by_cases c : wg hr w u 0 = n
          · rw [if_pos (decide_eq_true c), if_pos c]
          · rw [if_neg (by rw [decide_eq_true_iff]; exact c), if_neg c]
        rw [e0]
        by_cases c : wg hr w u 0 = n
        · rw [if_pos c, if_neg (by omega)]
          refine lp_d ?_
          show c150_b2 n hc (kd hc p u) = _
          unfold c150_b2
          refine bnd (hnul_8 (by omega)) ?_
          rw [if_neg (by decide)]
          refine bnd (gI_s Q.2.2.1) ?_
          rw [k1, if_pos c]
        · rw [if_neg c]
          refine (lp_n (s' := kd hc p (wg hr w u 1)) ?_).trans (ih N (wg hr w u 1) ?_ (by omega))
          · show c150_b2 n hc (kd hc p u) = _
            unfold c150_b2
            refine bnd (hnul_8 (by omega)) ?_
            rw [if_neg (by decide)]
            refine bnd (gI_s Q.2.2.1) ?_
            rw [k1, if_neg c]
            refine bnd (gR_s Q.2.2.1) ?_
            rw [k4]
          · rcases WF_ok W u ⟨u0, u1⟩ with y | ⟨y1, y2⟩
            · exact .inl y
            · exact .inr ⟨y1, by omega⟩
  have e := key 12 hF0 u (by
    rcases hu with z | z
    · exact .inl z
    · exact .inr ⟨z, (W.2.2 u z.1 z.2).1⟩) (hF0_lt (by omega))
  unfold c150
  refine bnd e ?_
  by_cases c : clb (fun v => decide (wg hr w v 0 = n)) (fun v => wg hr w v 1) 13 u = -1
  · rw [if_pos c, if_pos c]; rfl
  · rw [if_neg c, if_neg c]; rfl
/-- by the name of j is by j -/
theorem iU_n (P : PW hc hr C p w m r) (j0 : 0 ≤ j) (j1 : j < m) (hn : wg hr w j 0 = n) (hu : u = -1 ∨ (0 ≤ u ∧ u < m)) : clb (fun v => decide (wg hr w v 0 = n)) (fun v => wg hr w v 1) 13 u = iU hr w j u := by
  obtain ⟨W, P2, P3, P4⟩ := P
  unfold iU
  refine clb_eq (ok := fun v => 0 ≤ v ∧ v < m) (fun v hv => ⟨?_, rfl, ?_⟩) 13 u hu
  · by_cases c : v = j
    · rw [c, decide_eq_true hn, decide_eq_true rfl]
    · rw [decide_eq_false c, decide_eq_false (fun z => c (P4 v j hv.1 hv.2 j0 j1 (by rw [z, hn])))]
  · rcases WF_ok W v hv with z | z
    · exact .inl z
    · exact .inr z.1
/-- no kind has the name -/
theorem iU_o (W : WF hr w m r) (hn : ∀ v : Int, 0 ≤ v → v < m → wg hr w v 0 ≠ n) (hu : u = -1 ∨ (0 ≤ u ∧ u < m)) : clb (fun v => decide (wg hr w v 0 = n)) (fun v => wg hr w v 1) 13 u = -1 := by
  rcases clb_b (fun v => decide (wg hr w v 0 = n)) (fun v => wg hr w v 1) (fun v => 0 ≤ v ∧ v < m) (fun v hv => by
    rcases WF_ok W v hv with z | z
    · exact .inl z
    · exact .inr z.1) 13 u hu with z | ⟨z1, z2⟩
  · exact z
  · exact absurd (of_decide_eq_true z2) (hn _ z1.1 z1.2)
end UND
