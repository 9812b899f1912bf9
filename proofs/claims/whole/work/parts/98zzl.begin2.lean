/-! call 21: begin (2) -/
section BGO
variable {h h' h0 h1 h6 t t' t0 t1 t2 : hS} {K : Nat → Int → Prop} {p m q κ l x c k nn : Nat} {r : Int → Nat} {n v a : Int} {S : Nat → Prop}
/-- what the class lays beside the frame -/
def s9 (l : Nat) (h6 : hS) : hS := sI (sI (sI (sI (sI (sI h6 (375 + 2 * l) 1 1) (375 + 2 * l) 2 1) (375 + 2 * l) 3 0) (375 + 2 * l) 4 0) (375 + 2 * l) 5 0) (375 + 2 * l) 6 0
theorem s9_i {y j : Nat} (hy : y ≠ 375 + 2 * l) : hI (s9 l h6) y j = hI h6 y j := by
  unfold s9
  rw [hI_sI, if_neg (by omega), hI_sI, if_neg (by omega), hI_sI, if_neg (by omega), hI_sI, if_neg (by omega), hI_sI, if_neg (by omega), hI_sI, if_neg (by omega)]
theorem s9_r {y j : Nat} : hR (s9 l h6) y j = hR h6 y j := by
  unfold s9
  rw [hR_sI, hR_sI, hR_sI, hR_sI, hR_sI, hR_sI]
theorem s9_v : hI (s9 l h6) (375 + 2 * l) 1 = 1 ∧ hI (s9 l h6) (375 + 2 * l) 2 = 1 ∧ hI (s9 l h6) (375 + 2 * l) 3 = 0 ∧ hI (s9 l h6) (375 + 2 * l) 4 = 0 ∧ hI (s9 l h6) (375 + 2 * l) 5 = 0 ∧ hI (s9 l h6) (375 + 2 * l) 6 = 0 := by
  unfold s9
  refine ⟨?_, ?_, ?_, ?_, ?_, ?_⟩
  · rw [hI_sI, if_neg (by omega), hI_sI, if_neg (by omega), hI_sI, if_neg (by omega), hI_sI, if_neg (by omega), hI_sI, if_neg (by omega), hI_sI, if_pos ⟨rfl, rfl⟩]
  · rw [hI_sI, if_neg (by omega), hI_sI, if_neg (by omega), hI_sI, if_neg (by omega), hI_sI, if_neg (by omega), hI_sI, if_pos ⟨rfl, rfl⟩]
  · rw [hI_sI, if_neg (by omega), hI_sI, if_neg (by omega), hI_sI, if_neg (by omega), hI_sI, if_pos ⟨rfl, rfl⟩]
  · rw [hI_sI, if_neg (by omega), hI_sI, if_neg (by omega), hI_sI, if_pos ⟨rfl, rfl⟩]
  · rw [hI_sI, if_neg (by omega), hI_sI, if_pos ⟨rfl, rfl⟩]
  · rw [hI_sI, if_pos ⟨rfl, rfl⟩]
theorem s9_c : chg (fun y => y = 375 + 2 * l) h6 (s9 l h6) := chg_tr (chg_tr (chg_tr (chg_tr (chg_tr (chg_sI rfl) (chg_sI rfl)) (chg_sI rfl)) (chg_sI rfl)) (chg_sI rfl)) (chg_sI rfl)
theorem c169_e {f6 : Nat} (s2 : hT h (375 + 2 * l) = 20) (s3 : hR h (375 + 2 * l) 0 = 376 + 2 * l) (s4 : hT h (376 + 2 * l) = 12) (T6 : hT h6 = hT h) (w1 : c116 (376 + 2 * l) x f6 n v h = some h6) : c169 (375 + 2 * l) x f6 n v h = some (s9 l h6) := by
  have T20 : hT h6 (375 + 2 * l) = 20 := by rw [T6]; exact s2
  unfold c169
  rw [gR_s s2, s3]
  refine bnd rfl ?_
  refine bnd (kT_s s4) ?_
  refine bnd w1 ?_
  refine bnd (pI_s T20) ?_
  refine bnd (pI_s (h := sI h6 (375 + 2 * l) 1 1) (x := 375 + 2 * l) (t := 20) T20) ?_
  refine bnd (pI_s (h := sI (sI h6 (375 + 2 * l) 1 1) (375 + 2 * l) 2 1) (x := 375 + 2 * l) (t := 20) T20) ?_
  refine bnd (pI_s (h := sI (sI (sI h6 (375 + 2 * l) 1 1) (375 + 2 * l) 2 1) (375 + 2 * l) 3 0) (x := 375 + 2 * l) (t := 20) T20) ?_
  refine bnd (pI_s (h := sI (sI (sI (sI h6 (375 + 2 * l) 1 1) (375 + 2 * l) 2 1) (375 + 2 * l) 3 0) (375 + 2 * l) 4 0) (x := 375 + 2 * l) (t := 20) T20) ?_
  refine bnd (pI_s (h := sI (sI (sI (sI (sI h6 (375 + 2 * l) 1 1) (375 + 2 * l) 2 1) (375 + 2 * l) 3 0) (375 + 2 * l) 4 0) (375 + 2 * l) 5 0) (x := 375 + 2 * l) (t := 20) T20) ?_
  rfl
theorem c168_f {s0 : Nat} (Ss : SL h) (L : LA h t) (l10 : l < 10) (fr : ∀ i : Nat, i < l → hI t 423 i ≠ 0) (l0 : hI t 423 l = 0) (hs0 : 8 ≤ s0) (ecr : aRs h 19 40 (c : Int) = some (215 + 4 * c)) (e : c169 (375 + 2 * l) (215 + 4 * c) s0 n v h = some h') : c168_j25 s0 (c : Int) n v h = some ((l : Int), h') := by
  obtain ⟨s1, s2, s3, s4⟩ := Ss l l10
  have ea : aRs h 21 10 (l : Int) = some (375 + 2 * l) := by rw [aRs_s (by omega) (by omega), Int.toNat_natCast, s1]
  unfold c168_j25
  refine bnd (hnul_8 hs0) ?_
  rw [if_neg (by decide)]
  refine bnd (c168_0 (l := l) (z := .inr ((l : Int), h')) Ss L (by omega) fr ?_) rfl
  unfold c168_b37
  rw [if_neg (by omega)]
  refine bnd ea ?_
  rw [gI_s s2]
  refine bnd rfl ?_
  rw [if_pos (by rw [(L l l10).2.2.1]; exact l0)]
  refine bnd ea ?_
  refine bnd ecr ?_
  refine bnd (kT_s s2) ?_
  exact bnd e rfl
/-- what the other side lays -/
def u9 (l : Nat) (c x k n : Int) (t2 : hS) : hS := sI (sI (sI (sI (sI (sI (sI (sI (sI (sI (sI (sI t2 423 l 1) 424 l 1) 425 l 0) 426 l c) 427 l x) 428 l 0) 429 l (hI t2 414 0)) 430 l 0) 431 l 0) 432 l 0) 433 l k) 434 l n
theorem u9_f {c x k n : Int} : fp (fun y j => 423 ≤ y ∧ y ≤ 434 ∧ j = l) t2 (u9 l c x k n t2) := fp_tr (fp_tr (fp_tr (fp_tr (fp_tr (fp_tr (fp_tr (fp_tr (fp_tr (fp_tr (fp_tr (fp_sI ⟨by omega, by omega, rfl⟩) (fp_sI ⟨by omega, by omega, rfl⟩)) (fp_sI ⟨by omega, by omega, rfl⟩)) (fp_sI ⟨by omega, by omega, rfl⟩)) (fp_sI ⟨by omega, by omega, rfl⟩)) (fp_sI ⟨by omega, by omega, rfl⟩)) (fp_sI ⟨by omega, by omega, rfl⟩)) (fp_sI ⟨by omega, by omega, rfl⟩)) (fp_sI ⟨by omega, by omega, rfl⟩)) (fp_sI ⟨by omega, by omega, rfl⟩)) (fp_sI ⟨by omega, by omega, rfl⟩)) (fp_sI ⟨by omega, by omega, rfl⟩)
theorem u9_v {c x k n : Int} : (hI (u9 l c x k n t2) 423 l = 1 ∧ hI (u9 l c x k n t2) 424 l = 1 ∧ hI (u9 l c x k n t2) 425 l = 0 ∧ hI (u9 l c x k n t2) 426 l = c ∧ hI (u9 l c x k n t2) 427 l = x ∧ hI (u9 l c x k n t2) 428 l = 0) ∧ (hI (u9 l c x k n t2) 429 l = hI t2 414 0 ∧ hI (u9 l c x k n t2) 430 l = 0 ∧ hI (u9 l c x k n t2) 431 l = 0 ∧ hI (u9 l c x k n t2) 432 l = 0 ∧ hI (u9 l c x k n t2) 433 l = k ∧ hI (u9 l c x k n t2) 434 l = n) := by
  unfold u9
  refine ⟨⟨?_, ?_, ?_, ?_, ?_, ?_⟩, ?_, ?_, ?_, ?_, ?_, ?_⟩
  · rw [hI_sI, if_neg (by omega), hI_sI, if_neg (by omega), hI_sI, if_neg (by omega), hI_sI, if_neg (by omega), hI_sI, if_neg (by omega), hI_sI, if_neg (by omega), hI_sI, if_neg (by omega), hI_sI, if_neg (by omega), hI_sI, if_neg (by omega), hI_sI, if_neg (by omega), hI_sI, if_neg (by omega), hI_sI, if_pos ⟨rfl, rfl⟩]
  · rw [hI_sI, if_neg (by omega), hI_sI, if_neg (by omega), hI_sI, if_neg (by omega), hI_sI, if_neg (by omega), hI_sI, if_neg (by omega), hI_sI, if_neg (by omega), hI_sI, if_neg (by omega), hI_sI, if_neg (by omega), hI_sI, if_neg (by omega), hI_sI, if_neg (by omega), hI_sI, if_pos ⟨rfl, rfl⟩]
  · rw [hI_sI, if_neg (by omega), hI_sI, if_neg (by omega), hI_sI, if_neg (by omega), hI_sI, if_neg (by omega), hI_sI, if_neg (by omega), hI_sI, if_neg (by omega), hI_sI, if_neg (by omega), hI_sI, if_neg (by omega), hI_sI, if_neg (by omega), hI_sI, if_pos ⟨rfl, rfl⟩]
  · rw [hI_sI, if_neg (by omega), hI_sI, if_neg (by omega), hI_sI, if_neg (by omega), hI_sI, if_neg (by omega), hI_sI, if_neg (by omega), hI_sI, if_neg (by omega), hI_sI, if_neg (by omega), hI_sI, if_neg (by omega), hI_sI, if_pos ⟨rfl, rfl⟩]
  · rw [hI_sI, if_neg (by omega), hI_sI, if_neg (by omega), hI_sI, if_neg (by omega), hI_sI, if_neg (by omega), hI_sI, if_neg (by omega), hI_sI, if_neg (by omega), hI_sI, if_neg (by omega), hI_sI, if_pos ⟨rfl, rfl⟩]
  · rw [hI_sI, if_neg (by omega), hI_sI, if_neg (by omega), hI_sI, if_neg (by omega), hI_sI, if_neg (by omega), hI_sI, if_neg (by omega), hI_sI, if_neg (by omega), hI_sI, if_pos ⟨rfl, rfl⟩]
  · rw [hI_sI, if_neg (by omega), hI_sI, if_neg (by omega), hI_sI, if_neg (by omega), hI_sI, if_neg (by omega), hI_sI, if_neg (by omega), hI_sI, if_pos ⟨rfl, rfl⟩]
  · rw [hI_sI, if_neg (by omega), hI_sI, if_neg (by omega), hI_sI, if_neg (by omega), hI_sI, if_neg (by omega), hI_sI, if_pos ⟨rfl, rfl⟩]
  · rw [hI_sI, if_neg (by omega), hI_sI, if_neg (by omega), hI_sI, if_neg (by omega), hI_sI, if_pos ⟨rfl, rfl⟩]
  · rw [hI_sI, if_neg (by omega), hI_sI, if_neg (by omega), hI_sI, if_pos ⟨rfl, rfl⟩]
  · rw [hI_sI, if_neg (by omega), hI_sI, if_pos ⟨rfl, rfl⟩]
  · rw [hI_sI, if_pos ⟨rfl, rfl⟩]
theorem c293_e {n x k : Int} (l10 : l < 10) (fr : ∀ i : Nat, i < l → hI t 423 i ≠ 0) (l0 : hI t 423 l = 0) (lv : c241 n t = some 1) (o1 : c252 0 n a x t = some (1, t2)) (o4 : hI t2 411 0 = k) {T' : hS} (b1 : lp (fun s => c293_b163 (l : Int) s.1 s.2) hF0 ((0 : Int), u9 l n x k a t2) = some T') : c293 n a x t = some ((l : Int), T') := by
  have ws : ∀ (y : Nat) (v : Int) (T2 : hS), wIs T2 y 10 (l : Int) v = some (sI T2 y l v) := fun y v T2 => by rw [wIs_s (by omega) (by omega), Int.toNat_natCast]
  obtain ⟨A, eA⟩ : ∃ A, A = sI (sI (sI (sI (sI (sI t2 423 l 1) 424 l 1) 425 l 0) 426 l n) 427 l x) 428 l 0 := ⟨_, rfl⟩
  obtain ⟨B, eB⟩ : ∃ B, B = sI (sI (sI (sI A 429 l (hI t2 414 0)) 430 l 0) 431 l 0) 432 l 0 := ⟨_, rfl⟩
  have eu : u9 l n x k a t2 = sI (sI B 433 l k) 434 l a := by rw [eB, eA]; rfl
  have a14 : aIs A 414 252 0 = some (hI t2 414 0) := by rw [aIs_s (by omega) (by omega), eA, hI_sI, if_neg (by omega), hI_sI, if_neg (by omega), hI_sI, if_neg (by omega), hI_sI, if_neg (by omega), hI_sI, if_neg (by omega), hI_sI, if_neg (by omega)]; rfl
  have b11 : aIs B 411 21 0 = some k := by rw [aIs_s (by omega) (by omega), eB, eA, ← o4, hI_sI, if_neg (by omega), hI_sI, if_neg (by omega), hI_sI, if_neg (by omega), hI_sI, if_neg (by omega), hI_sI, if_neg (by omega), hI_sI, if_neg (by omega), hI_sI, if_neg (by omega), hI_sI, if_neg (by omega), hI_sI, if_neg (by omega), hI_sI, if_neg (by omega)]; rfl
  rw [eu] at b1
  unfold c293
  refine bnd (c293_0 (l := l) (by omega) fr (.inr l0)) ?_
  rw [if_neg (by omega)]
  refine bnd lv ?_
  rw [if_neg (by omega)]
  refine bnd o1 ?_
  rw [if_neg (show ¬ (1 : Int) = 0 by omega), wbol_1, wbol_0]
  refine bnd (ws 423 _ _) ?_
  refine bnd (ws 424 _ _) ?_
  refine bnd (ws 425 _ _) ?_
  refine bnd (ws 426 _ _) ?_
  refine bnd (ws 427 _ _) ?_
  refine bnd (ws 428 _ _) ?_
  rw [← eA]
  refine bnd a14 ?_
  refine bnd (ws 429 _ _) ?_
  refine bnd (ws 430 _ _) ?_
  refine bnd (ws 431 _ _) ?_
  refine bnd (ws 432 _ _) ?_
  rw [← eB]
  refine bnd b11 ?_
  refine bnd (ws 433 _ _) ?_
  refine bnd (ws 434 _ _) ?_
  exact bnd b1 rfl
end BGO
