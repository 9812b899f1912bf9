/-! an act is called by both -/
section CLW
variable {h h' h1 t t' t1 : hS} {K : Nat → Int → Prop} {p m q κ F0 d n x c k a tx i pos fu : Nat} {r : Int → Nat} {v : Int}
/-- has a kind the act? the other side's loop -/
theorem c267_l (W : WF t 0 m r) : ∀ (D N : Nat) (s u : Int), (s = 0 ∨ s = 1) → (u = -1 ∨ ((0 ≤ u ∧ u < m) ∧ r u < D)) → D < N → lp (fun s => c267_b172 (n : Int) t s.1 s.2) N (s, u) = some (if s = 0 ∧ aAt t 0 u n = -1 then 0 else 1) := by
  have hm := W.2.1
  have none : ∀ (N : Nat) (s : Int), (s = 0 ∨ s = 1) → 0 < N → lp (fun s => c267_b172 (n : Int) t s.1 s.2) N (s, -1) = some (if s = 0 ∧ aAt t 0 (-1) n = -1 then 0 else 1) := fun N s hs hN => by
    obtain ⟨N, rfl⟩ : ∃ N1, N = N1 + 1 := ⟨N - 1, by omega⟩
    have ea : aAt t 0 (-1) n = -1 := clb_n _ _ 13
    refine lp_d ?_
    show c267_b172 (n : Int) t s (-1) = _
    unfold c267_b172
    rw [if_pos rfl, ea]
    by_cases z : s = 0
    · rw [if_pos ⟨z, rfl⟩, z]
    · rw [if_neg (fun y => z y.1), show s = 1 by omega]
  intro D
  induction D with
  | zero =>
    intro N s u hs hu hN
    rcases hu with rfl | ⟨-, z⟩
    · exact none N s hs hN
    · omega
  | succ D ih =>
    intro N s u hs hu hN
    rcases hu with rfl | ⟨⟨u0, u1⟩, hr⟩
    · exact none N s hs (by omega)
    · obtain ⟨N, rfl⟩ : ∃ N1, N = N1 + 1 := ⟨N - 1, by omega⟩
      obtain ⟨-, w2, -, -, w5⟩ := W.2.2 u u0 u1
      have up : wg t 0 u 1 = -1 ∨ ((0 ≤ wg t 0 u 1 ∧ wg t 0 u 1 < m) ∧ r (wg t 0 u 1) < D) := by
        rcases w2 with z | ⟨z1, z2, z3⟩
        · exact .inl z
        · exact .inr ⟨⟨z1, z2⟩, by omega⟩
      have e205 : c205 0 u (n : Int) t = some (aIx t 0 u n) := c205_w W (by omega) (by omega) u0 u1
      have st := aAt_st W u0 u1 (n := (n : Int))
      have e201 : ∀ s0 : Int, c267_j201 s0 u t = some (.inl (s0, wg t 0 u 1)) := fun s0 => by
        unfold c267_j201
        rw [c199_e (by omega) (by omega) u0 (by omega) (by omega) (by omega)]
        rfl
      by_cases z : s = 0
      · by_cases z2 : aIx t 0 u n = -1
        · rw [if_neg (fun y => y z2)] at st
          have e1 : c267_b172 (n : Int) t s u = some (.inl (0, wg t 0 u 1)) := by
            unfold c267_b172
            rw [if_neg (by omega), if_pos z]
            refine bnd e205 ?_
            rw [if_pos z2]
            exact e201 0
          rw [lp_n (s' := (0, wg t 0 u 1)) e1, ih N 0 _ (.inl rfl) up (by omega), st, z]
        · rw [if_pos z2] at st
          have e1 : c267_b172 (n : Int) t s u = some (.inl (1, wg t 0 u 1)) := by
            unfold c267_b172
            rw [if_neg (by omega), if_pos z]
            refine bnd e205 ?_
            rw [if_neg z2]
            exact e201 1
          rw [lp_n (s' := (1, wg t 0 u 1)) e1, ih N 1 _ (.inr rfl) up (by omega), st, if_neg (fun y => by omega), if_neg (fun y => by omega)]
      · have e1 : c267_b172 (n : Int) t s u = some (.inl (1, wg t 0 u 1)) := by
          unfold c267_b172
          rw [if_neg (by omega), if_neg z]
          exact e201 1
        rw [lp_n (s' := (1, wg t 0 u 1)) e1, ih N 1 _ (.inr rfl) up (by omega), if_neg (fun y => by omega), if_neg (fun y => z y.1)]
theorem RCc_F (d0 : d ≠ 0) (d20 : d ≤ 20) (ch : chg (fun x => x = FF F0 d) h h') : RCc p m F0 d h h' := by
  obtain ⟨c1, c2, c3, c4, c5, c6⟩ := ch
  exact ⟨⟨c1, c2, c3, c4, c5⟩, fun y j q => (c6 y (q d (Nat.le_refl _) d20 d0) j).2, fun y j q _ => (c6 y (q d (Nat.le_refl _) d20) j).1⟩
/-- a fault ends the run -/
theorem FLT (R : BRt K p m q r κ F0 h t) (G : GOt d h t) (v : Int) : RSL K p m q r κ F0 d x c pos h t (sI (sI h 22 9 v) 22 7 1) (sI t 395 39 v) 2 := by
  have g2 := G.1.2
  have rc : RCc p m F0 d h (sI (sI h 22 9 v) 22 7 1) := RCc_tr R.2.2.2.1 R.1.2.2.2.2.1 (RCc_sI g2 (.inr ⟨rfl, by omega, by omega⟩)) (RCc_sI g2 (.inr ⟨rfl, by omega, by omega⟩))
  have rr : RCr d t (sI t 395 39 v) := fp_sI (.inl ⟨rfl, .inl rfl⟩)
  have i1 : ∀ y j, ¬ (y = 22 ∧ (j = 9 ∨ j = 7)) → hI (sI (sI h 22 9 v) 22 7 1) y j = hI h y j := fun y j hy => by rw [hI_sI, if_neg (by omega), hI_sI, if_neg (by omega)]
  have i2 : ∀ y j, ¬ (y = 395 ∧ j = 39) → hI (sI t 395 39 v) y j = hI t y j := fun y j hy => by rw [hI_sI, if_neg hy]
  have e54 := R.2.2.2.2.2.2.2.2
  have cn := R.2.2.2.2.2.1
  obtain ⟨r1, r2, r3⟩ := R.2.2.2.2.2.2.1
  refine .inr (.inr ⟨rfl, BR_c R rc rr (RT_c R.1 (chg_tr (chg_sI (show (20 ≤ 22 ∧ 22 ≤ 47) ∨ (375 ≤ 22 ∧ 22 < 395) by omega)) (chg_sI (show (20 ≤ 22 ∧ 22 ≤ 47) ∨ (375 ≤ 22 ∧ 22 < 395) by omega))) (fun y j hy => i2 y j (by omega))) (by rw [i1 22 10 (by omega), i2 395 41 (by omega)]; exact cn) ⟨by rw [i1 22 13 (by omega), i2 395 66 (by omega)]; exact r1, by rw [i1 22 13 (by omega)]; exact r2, fun u hu => ?_⟩ (by rw [i2 395 54 (by omega)]; exact e54), rc, rr, i1 22 8 (by omega), .inl ⟨by rw [hI_sI, if_pos ⟨rfl, rfl⟩], by rw [hI_sI, if_neg (by omega), hI_sI, if_pos ⟨rfl, rfl⟩, hI_sI, if_pos ⟨rfl, rfl⟩], by rw [i2 395 42 (by omega)]; exact G.2.2.2⟩⟩)
  rw [i1 22 13 (by omega)] at hu
  rw [i1 26 _ (by omega), i1 26 _ (by omega), i1 26 _ (by omega), i1 26 _ (by omega), i2 419 _ (by omega), i2 420 _ (by omega), i2 421 _ (by omega), i2 422 _ (by omega)]
  exact r3 u hu
end CLW
