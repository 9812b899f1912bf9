/-! an act is opened by both -/
section OPN
variable {h h' t t' t1 : hS} {K : Nat → Int → Prop} {p m q κ e n c : Nat} {r : Int → Nat}
theorem aAt_st (W : WF t 0 m r) {u : Int} (u0 : 0 ≤ u) (u1 : u < m) {n : Int} : aAt t 0 u n = if aIx t 0 u n ≠ -1 then u else aAt t 0 (wg t 0 u 1) n := by
  unfold aAt
  rw [clb_st W _ u0 u1]
  by_cases z : aIx t 0 u n = -1
  · rw [if_neg (by simp [z]), if_neg (fun q => q z)]
  · rw [if_pos (by simp [z]), if_pos z]
/-- the rows of level e -/
def rwL (e : Nat) (t t' : hS) : Prop := fp (fun x j => 414 ≤ x ∧ x ≤ 416 ∧ 12 * e ≤ j ∧ j < 12 * e + 12) t t'
theorem c253_l (R : RT h t K p m q r) (he : e ≤ 20) (hn : n < 40) : ∀ (D mm N : Nat) (u : Int) (t1 : hS), (u = -1 ∨ ((0 ≤ u ∧ u < m) ∧ r u < D)) → mm + D ≤ 12 → D < N → rwL e t t1 → ∃ (k : Nat) (t2 : hS), lp (fun s => c253_b6 (e : Int) (n : Int) s.1 s.2.1 s.2.2) N ((mm : Int), u, t1) = some (((mm + k : Nat) : Int), t2) ∧ k ≤ D ∧ rwL e t t2 ∧ (∀ i, i < mm → hI t2 414 (12 * e + i) = hI t1 414 (12 * e + i) ∧ hI t2 415 (12 * e + i) = hI t1 415 (12 * e + i) ∧ hI t2 416 (12 * e + i) = hI t1 416 (12 * e + i)) ∧ (aAt t 0 u n = -1 → k = 0) ∧ (aAt t 0 u n ≠ -1 → ACH h K n (fun i => hI t2 414 (12 * e + i)) (fun i => hI t2 415 (12 * e + i)) (fun i => hI t2 416 (12 * e + i)) k (kd h p (aAt t 0 u n)) mm) := by
  have P := R.2.1
  have T := R.2.2.1
  have hm := P.1.2.1
  have none : ∀ (mm N : Nat) (t1 : hS), rwL e t t1 → 0 < N → ∃ (k : Nat) (t2 : hS), lp (fun s => c253_b6 (e : Int) (n : Int) s.1 s.2.1 s.2.2) N ((mm : Int), -1, t1) = some (((mm + k : Nat) : Int), t2) ∧ k = 0 ∧ t2 = t1 := fun mm N t1 f hN => by
    obtain ⟨N, rfl⟩ : ∃ N1, N = N1 + 1 := ⟨N - 1, by omega⟩
    refine ⟨0, t1, lp_d ?_, rfl, rfl⟩
    show c253_b6 (e : Int) (n : Int) (mm : Int) (-1) t1 = _
    unfold c253_b6
    rw [if_pos rfl]
    rfl
  intro D
  induction D with
  | zero =>
    intro mm N u t1 hu hD hN f
    rcases hu with rfl | ⟨-, z⟩
    · obtain ⟨k, t2, a1, rfl, rfl⟩ := none mm N t1 f hN
      exact ⟨0, t2, a1, Nat.le_refl _, f, fun i _ => ⟨rfl, rfl, rfl⟩, fun _ => rfl, fun z => absurd rfl z⟩
    · omega
  | succ D ih =>
    intro mm N u t1 hu hD hN f
    rcases hu with rfl | ⟨⟨u0, u1⟩, hr⟩
    · obtain ⟨k, t2, a1, rfl, rfl⟩ := none mm N t1 f (by omega)
      exact ⟨0, t2, a1, by omega, f, fun i _ => ⟨rfl, rfl, rfl⟩, fun _ => rfl, fun z => absurd rfl z⟩
    · obtain ⟨N, rfl⟩ : ∃ N1, N = N1 + 1 := ⟨N - 1, by omega⟩
      have ew : ∀ (T1 : hS), rwL e t T1 → ∀ k f, wg T1 0 k f = wg t 0 k f := fun T1 g k f => g.2 400 _ (by omega)
      have Q := P.2.2.1 u u0 u1
      obtain ⟨-, w2, -, -, w5⟩ := P.1.2.2 u u0 u1
      have up : wg t 0 u 1 = -1 ∨ ((0 ≤ wg t 0 u 1 ∧ wg t 0 u 1 < m) ∧ r (wg t 0 u 1) < D) := by
        rcases w2 with z | ⟨z1, z2, z3⟩
        · exact .inl z
        · exact .inr ⟨⟨z1, z2⟩, by omega⟩
      have W1 : WF t1 0 m r := WF_cg P.1 (ew t1 f) (f.2 400 _ (by omega))
      have e205 : c205 0 u (n : Int) t1 = some (aIx t 0 u n) := by rw [c205_w W1 (by omega) (by omega) u0 u1, aIx_cg (ew t1 f)]
      have st := aAt_st P.1 u0 u1 (n := (n : Int))
      have e98 : ∀ (mm' : Nat) (T1 : hS), rwL e t T1 → c253_j98 (mm' : Int) u T1 = some (.inl ((mm' : Int), wg t 0 u 1, T1)) := fun mm' T1 g => by
        unfold c253_j98
        rw [c199_e (by omega) (by omega) u0 (by omega) (by omega) (by omega), ew T1 g]
        rfl
      by_cases z : aIx t 0 u n = -1
      · rw [if_neg (fun q => q z)] at st
        have e1 : c253_b6 (e : Int) (n : Int) (mm : Int) u t1 = some (.inl ((mm : Int), wg t 0 u 1, t1)) := by
          unfold c253_b6
          rw [if_neg (by omega)]
          refine bnd e205 ?_
          rw [if_pos z]
          exact e98 mm t1 f
        obtain ⟨k, t2, a1, a2, a3, a4, a5, a6⟩ := ih mm N (wg t 0 u 1) t1 up (by omega) (by omega) f
        rw [st]
        exact ⟨k, t2, by rw [lp_n (s' := ((mm : Int), wg t 0 u 1, t1)) e1]; exact a1, by omega, a3, a4, a5, a6⟩
      · rw [if_pos z] at st
        obtain ⟨x1, x2, x3⟩ := aIx_lt P.1 u0 u1 z
        obtain ⟨i, hi⟩ : ∃ i : Nat, aIx t 0 u n = (i : Int) := ⟨(aIx t 0 u n).toNat, by omega⟩
        have K7 := (Q.2.2.2.2.2.2.2 i (by omega))
        obtain ⟨T1, hT1⟩ : ∃ T1, T1 = sI (sI (sI t1 414 (12 * e + mm) (wg t 0 u (48 + i))) 415 (12 * e + mm) (wg t 0 u 0)) 416 (12 * e + mm) (wg t 0 u 2) := ⟨_, rfl⟩
        have i1 : ∀ x j, hI T1 x j = if x = 416 ∧ j = 12 * e + mm then wg t 0 u 2 else if x = 415 ∧ j = 12 * e + mm then wg t 0 u 0 else if x = 414 ∧ j = 12 * e + mm then wg t 0 u (48 + i) else hI t1 x j := fun x j => by rw [hT1, hI_sI, hI_sI, hI_sI]
        have g1 : rwL e t T1 := fp_tr f (by rw [hT1]; exact fp_tr (fp_tr (fp_sI ⟨by omega, by omega, by omega, by omega⟩) (fp_sI ⟨by omega, by omega, by omega, by omega⟩)) (fp_sI ⟨by omega, by omega, by omega, by omega⟩))
        have e1 : c253_b6 (e : Int) (n : Int) (mm : Int) u t1 = some (.inl (((mm + 1 : Nat) : Int), wg t 0 u 1, T1)) := by
          unfold c253_b6
          rw [if_neg (by omega)]
          refine bnd e205 ?_
          rw [if_neg z, hi, wadd_e (by omega) (by omega)]
          have ws : ∀ (y : Nat) (v : Int) (T : hS), wIs T y 252 (wadd (wmul 12 (e : Int)) (mm : Int)) v = some (sI T y (12 * e + mm) v) := fun y v T => by
            rw [wmul_e (by omega) (by omega), wadd_e (by omega) (by omega), wIs_s (by omega) (by omega)]
            rw [show (12 * (e : Int) + (mm : Int)).toNat = 12 * e + mm by omega]
          have wgc : ∀ (T : hS) (ff : Int), rwL e t T → 0 ≤ ff → ff < 64 → c199 0 u ff T = some (wg t 0 u ff) := fun T ff g f0 f1 => by
            rw [c199_e (by omega) (by omega) u0 (by omega) f0 f1, ew T g]
          have r1 : rwL e t (sI t1 414 (12 * e + mm) (wg t 0 u (48 + i))) := fp_tr f (fp_sI ⟨by omega, by omega, by omega, by omega⟩)
          have r2 : rwL e t (sI (sI t1 414 (12 * e + mm) (wg t 0 u (48 + i))) 415 (12 * e + mm) (wg t 0 u 0)) := fp_tr r1 (fp_sI ⟨by omega, by omega, by omega, by omega⟩)
          refine bnd (wgc t1 _ f (by omega) (by omega)) ?_
          refine bnd (ws 414 _ t1) ?_
          refine bnd (wgc _ 0 r1 (by omega) (by omega)) ?_
          refine bnd (ws 415 _ _) ?_
          refine bnd (wgc _ 2 r2 (by omega) (by omega)) ?_
          refine bnd (ws 416 _ _) ?_
          rw [wadd_n (by omega), ← hT1]
          exact e98 (mm + 1) T1 g1
        obtain ⟨k, t2, a1, a2, a3, a4, a5, a6⟩ := ih (mm + 1) N (wg t 0 u 1) T1 up (by omega) (by omega) g1
        obtain ⟨b1, b2, b3⟩ := a4 mm (by omega)
        obtain ⟨-, -, z3, z4⟩ := T u u0 u1 n hn
        rw [st] at z3 z4 ⊢
        have kpl := z4 (by omega)
        have ab : hR h (kd h p u) 1 = kd h p (wg t 0 u 1) := Q.2.2.1
        refine ⟨k + 1, t2, by rw [lp_n (s' := (((mm + 1 : Nat) : Int), wg t 0 u 1, T1)) e1, a1, show mm + 1 + k = mm + (k + 1) by omega], by omega, a3, fun i' hi' => ?_, fun z => by omega, fun _ => ⟨⟨Q.1, by rw [kpl]; omega, ?_⟩, ?_, ?_, ?_, ?_⟩⟩
        · obtain ⟨y1, y2, y3⟩ := a4 i' (by omega)
          rw [y1, y2, y3, i1, i1, i1, if_neg (by omega), if_neg (by omega), if_neg (by omega), if_neg (by omega), if_neg (by omega), if_neg (by omega), if_neg (by omega), if_neg (by omega), if_neg (by omega)]
          exact ⟨rfl, rfl, rfl⟩
        · rw [ab]
          rcases up with y | ⟨⟨y1, y2⟩, -⟩
          · rw [y, kd_m]; exact .inl rfl
          · exact .inr (P.2.2.1 _ y1 y2).1
        · show K (cdo h (kd h p u) n) (hI t2 414 (12 * e + mm))
          unfold cdo
          rw [kpl, hi, Int.toNat_natCast, b1, i1, if_neg (by omega), if_neg (by omega), if_pos ⟨rfl, rfl⟩]
          exact K7.2.1
        · show hI h (kd h p u) 0 = hI t2 415 (12 * e + mm)
          rw [b2, i1, if_neg (by omega), if_pos ⟨rfl, rfl⟩]
          exact Q.2.1.1
        · show hI h (kd h p u) 2 = hI t2 416 (12 * e + mm)
          rw [b3, i1, if_pos ⟨rfl, rfl⟩]
          exact Q.2.2.2.1
        · unfold nxk
          rw [ab]
          rcases up with y | ⟨⟨y1, y2⟩, -⟩
          · rw [y] at a5 ⊢
            exact .inl ⟨a5 rfl, by rw [kd_m, if_pos rfl]⟩
          · have Qa := P.2.2.1 _ y1 y2
            rw [if_neg (by have := Qa.1.1; omega), (T _ y1 y2 n hn).2.2.1]
            by_cases ya : aAt t 0 (wg t 0 u 1) n = -1
            · rw [ya, kd_m]
              exact .inl ⟨a5 ya, rfl⟩
            · refine .inr ⟨?_, a6 ya⟩
              obtain ⟨⟨c0, c1⟩, -⟩ := (aAt_b (n := (n : Int)) P.1 (.inr ⟨y1, y2⟩)).resolve_left ya
              have := kd_8 P c0 c1
              omega
end OPN
