/-! an act from outside: it goes to its end -/
/-- what an act from outside changes in the class -/
def RNc (p m F0 : Nat) (h h' : hS) : Prop := (hJ h' = hJ h ∧ hT h' = hT h ∧ hL h' = hL h ∧ hN h' = hN h ∧ hM h' = hM h) ∧ (∀ x j, (∀ e, e ≤ 20 → x ≠ FF F0 e) → ¬ (x = 23 ∧ j = 0) → hR h' x j = hR h x j) ∧ ∀ x j, (∀ e, e ≤ 20 → x ≠ FF F0 e) → ¬ ((x = 22 ∧ j ≠ 11) ∨ x = 25 ∨ x = 26 ∨ (215 ≤ x ∧ x < 375 ∧ (x - 215) % 4 ≠ 0 ∧ (x - 215) % 4 ≠ 2) ∨ ∃ u : Int, 0 ≤ u ∧ u < m ∧ x = kd h p u + 5) → hI h' x j = hI h x j
/-- and on the other side -/
def RNr (t t' : hS) : Prop := fp (fun x j => (x = 395 ∧ (j = 39 ∨ j = 40 ∨ j = 41 ∨ j = 42 ∨ j = 52 ∨ j = 54 ∨ j = 55 ∨ j = 66)) ∨ x = 417 ∨ (419 ≤ x ∧ x ≤ 422) ∨ x = 405 ∨ x = 406 ∨ (x = 400 ∧ j < 769 ∧ 35 ≤ (j + 63) % 64 ∧ (j + 63) % 64 < 39) ∨ (408 ≤ x ∧ x ≤ 416)) t t'
/-- both stand ready to run -/
def RUNp (K : Nat → Int → Prop) (p m q : Nat) (r : Int → Nat) (κ : Nat) (h t : hS) : Prop := RT h t K p m q r ∧ CT h t K κ ∧ κ ≤ 6 ∧ ((∀ e, 1 ≤ e → e ≤ 20 → hR h 23 e = 27 + e ∧ hT h (27 + e) = 12) ∧ hT h 24 = 12) ∧ rnnR h t ∧ hI h 22 11 = hI t 395 60 ∧ hI t 395 54 = 0
section RNS
variable {h h' h0 h1 t t' t0 t1 t2 : hS} {K : Nat → Int → Prop} {p m q κ F0 d x c k a i : Nat} {r : Int → Nat} {n v : Int}
theorem RNr_tr (a : RNr t t1) (b : RNr t1 t') : RNr t t' := fp_tr a b
theorem RNr_C (a : RCr d t t') : RNr t t' := ⟨a.1, fun x j z => a.2 x j (by omega)⟩
theorem RNr_L (a : lvL d t t') : RNr t t' := ⟨a.1, fun x j z => a.2 x j (by omega)⟩
theorem aIx_o (P : PW h t K p 0 m r) {j : Int} (j0 : 0 ≤ j) (j1 : j < m) (hn : ¬ (0 ≤ n ∧ n < 40)) : aIx t 0 j n = -1 := by
  by_cases z : aIx t 0 j n = -1
  · exact z
  · obtain ⟨x1, x2, x3⟩ := aIx_lt P.1 j0 j1 z
    have := ((P.2.2.1 j j0 j1).2.2.2.2.2.2.2 (aIx t 0 j n).toNat (by omega)).2.2
    rw [show (((aIx t 0 j n).toNat : Nat) : Int) = aIx t 0 j n by omega, x3] at this
    exact absurd this hn
theorem c253_o (P : PW h t K p 0 m r) (hn : ¬ (0 ≤ n ∧ n < 40)) (e : Int) : ∀ (D N : Nat) (u : Int), (u = -1 ∨ ((0 ≤ u ∧ u < m) ∧ r u < D)) → D < N → lp (fun s => c253_b6 e n s.1 s.2.1 s.2.2) N (0, u, t) = some (0, t) := by
  have hm := P.1.2.1
  have none : ∀ N, 0 < N → lp (fun s => c253_b6 e n s.1 s.2.1 s.2.2) N (0, -1, t) = some (0, t) := fun N hN => by
    obtain ⟨N, rfl⟩ : ∃ N1, N = N1 + 1 := ⟨N - 1, by omega⟩
    refine lp_d ?_
    show c253_b6 e n 0 (-1) t = _
    unfold c253_b6
    rw [if_pos rfl]
  intro D
  induction D with
  | zero =>
    intro N u hu hN
    rcases hu with rfl | ⟨-, z⟩
    · exact none N hN
    · omega
  | succ D ih =>
    intro N u hu hN
    rcases hu with rfl | ⟨⟨u0, u1⟩, hr⟩
    · exact none N (by omega)
    · obtain ⟨N, rfl⟩ : ∃ N1, N = N1 + 1 := ⟨N - 1, by omega⟩
      obtain ⟨-, w2, -, -, w5⟩ := P.1.2.2 u u0 u1
      have up : wg t 0 u 1 = -1 ∨ ((0 ≤ wg t 0 u 1 ∧ wg t 0 u 1 < m) ∧ r (wg t 0 u 1) < D) := by
        rcases w2 with z | ⟨z1, z2, z3⟩
        · exact .inl z
        · exact .inr ⟨⟨z1, z2⟩, by omega⟩
      have e1 : c253_b6 e n 0 u t = some (.inl (0, wg t 0 u 1, t)) := by
        unfold c253_b6
        rw [if_neg (by omega)]
        refine bnd (c205_w P.1 (by omega) (by omega) u0 u1) ?_
        rw [if_pos (aIx_o P u0 u1 hn)]
        unfold c253_j98
        rw [c199_e (by omega) (by omega) u0 (by omega) (by omega) (by omega)]
        rfl
      rw [lp_n (s' := (0, wg t 0 u 1, t)) e1]
      exact ih N _ up (by omega)
theorem c252_o (R : RT h t K p m q r) (c40 : c < 40) (lv : hI h (215 + 4 * c) 1 = 1) (hn : ¬ (0 ≤ n ∧ n < 40)) : ∃ t2, c252 0 (c : Int) n v t = some (0, t2) ∧ lvL 0 t t2 := by
  obtain ⟨S, P, T, C, hp, D⟩ := id R
  obtain ⟨u1, u2, u3, u4⟩ := C.2.2.2 c c40
  obtain ⟨⟨k0, k1, k2⟩, -⟩ := u4 lv
  obtain ⟨w1, -⟩ := P.1.2.2 _ k0 k1
  refine ⟨sI (sI (sI (sI (sI (sI t 411 0 0) 412 0 0) 408 0 (c : Int)) 409 0 v) 410 0 0) 413 0 n, ?_, fp_tr (fp_tr (fp_tr (fp_tr (fp_tr (fp_sI (by omega)) (fp_sI (by omega))) (fp_sI (by omega))) (fp_sI (by omega))) (fp_sI (by omega))) (fp_sI (by omega))⟩
  unfold c252
  refine bnd (show aIs t 404 40 (c : Int) = some (hI t 404 c) by rw [aIs_s (by omega) (by omega), Int.toNat_natCast]) ?_
  refine bnd (show c253 0 (hI t 404 c) n t = some (0, t) by unfold c253; exact bnd (c253_o P hn 0 12 hF0 _ (.inr ⟨⟨k0, k1⟩, w1⟩) (hF0_lt (by omega))) rfl) ?_
  have ws : ∀ (y : Nat) (z : Int) (T : hS), wIs T y 21 0 z = some (sI T y 0 z) := fun y z T => by rw [wIs_s (by omega) (by omega)]; rfl
  refine bnd (ws 411 _ _) ?_
  refine bnd (ws 412 _ _) ?_
  refine bnd (ws 408 _ _) ?_
  refine bnd (ws 409 _ _) ?_
  refine bnd (ws 410 _ _) ?_
  refine bnd (ws 413 _ _) ?_
  refine bnd (show aIs (sI (sI (sI (sI (sI (sI t 411 0 0) 412 0 0) 408 0 (c : Int)) 409 0 v) 410 0 0) 413 0 n) 411 21 0 = some 0 by
    rw [aIs_s (by omega) (by omega), show ((0 : Int)).toNat = 0 from rfl, hI_sI, if_neg (by omega), hI_sI, if_neg (by omega), hI_sI, if_neg (by omega), hI_sI, if_neg (by omega), hI_sI, if_neg (by omega), hI_sI, if_pos ⟨rfl, rfl⟩]) ?_
  exact if_pos (Int.le_refl 0)
/-- the class goes on until the run has come to its end -/
theorem GO_c {l2 : Int} (hl : l2 = 0 ∨ l2 = 1) (hF : hT h F0 = 12) (run : runS k (sI (sI (sI (sI (sR h 23 0 F0) 22 3 0) 22 5 0) 22 6 l2) 22 7 (-1)) h') (hk : k < 1000000) (h7 : hI h' 22 7 ≠ -1) : c118 F0 l2 h = some (hI h' 22 7, h') := by
  obtain ⟨N, hN⟩ : ∃ N, hF0 = (N + 1) + k := ⟨hF0 - k - 1, by have := hF0_lt (m := k + 1) (by omega); omega⟩
  have e1 : lp (fun s => c118_b29 s.1 s.2) hF0 (0, sI (sI (sI (sI (sR h 23 0 F0) 22 3 0) 22 5 0) 22 6 l2) 22 7 (-1)) = some h' := by
    have := runS_lp 0 (N + 1) run (by omega)
    rw [hN]
    refine this.trans (lp_d ?_)
    show c118_b29 _ h' = _
    unfold c118_b29
    by_cases z : (1000000 : Int) ≤ ((0 + k : Nat) : Int)
    · rw [if_pos z]
    · rw [if_neg z, if_neg h7]
  unfold c118
  refine bnd (show wRs h 23 21 12 0 F0 = some (sR h 23 0 F0) from ?_) ?_
  · exact if_pos ⟨⟨by omega, by omega⟩, .inr hF⟩
  · refine bnd rfl ?_
    refine bnd rfl ?_
    refine bnd (kB_s hl) ?_
    refine bnd rfl ?_
    refine bnd rfl ?_
    refine bnd e1 ?_
    rw [if_neg h7]
end RNS
