/-! the class's steps through an expression -/
def stepE (F : Nat) (h : hS) : Option hS := (c119 F h).bind (fun v => (c120 F v.1 v.2).bind (fun w => if w.1 = 0 then none else some w.2))
def stepA (F : Nat) (h : hS) : Option hS := (c119 F h).bind (fun v => (c120 F v.1 v.2).bind (fun w => if w.1 = 0 then c127 F v.1 w.2 else some w.2))
/-- the frame's place, the numbers that wait, how it ends: these alone are other -/
def ceF (F : Nat) (h h' : hS) : Prop := fp (fun y j => (y = 22 ∧ (j = 5 ∨ j = 7 ∨ j = 9)) ∨ y = 25 ∨ (y = F ∧ j = 4)) h h'
/-- the frame F of code x -/
def FCT (h : hS) (F x : Nat) : Prop := hT h F = 12 ∧ hR h F 3 = x ∧ 448 ≤ x ∧ hT h x = 1 ∧ hL h x ≤ 2001 ∧ (F = 24 ∨ (27 ≤ F ∧ F ≤ 47) ∨ (375 ≤ F ∧ F < 395))
def runE (F : Nat) : Nat → hS → hS → Prop
  | 0, h, h' => h' = h
  | k + 1, h, h' => ∃ h1, hI h 22 7 = -1 ∧ stepE F h = some h1 ∧ (h1.2 = h.2 ∧ hI h1 22 3 = hI h 22 3) ∧ runE F k h1 h'
/-- behind L codes from place q on, one more number waits: v -/
def okE (F q L n : Nat) (h h' : hS) (v : Int) : Prop := ceF F h h' ∧ hI h' F 4 = ((q + L : Nat) : Int) ∧ hI h' 22 5 = ((n + 1 : Nat) : Int) ∧ hI h' 25 n = v ∧ (∀ j, j < n → hI h' 25 j = hI h 25 j) ∧ hI h' 22 7 = -1 ∧ hI h' 22 9 = hI h 22 9
/-- it has failed with e -/
def noE (F : Nat) (h h' : hS) (e : Int) : Prop := ceF F h h' ∧ hI h' 22 7 = 1 ∧ hI h' 22 9 = e ∧ (0 ≤ hI h' 22 5 ∧ hI h' 22 5 ≤ 64)
section STE
variable {F x q n L k : Nat} {h h' h1 : hS} {v a b : Int}
theorem ceF_rf : ceF F h h := fp_rf
theorem ceF_tr (a : ceF F h h1) (b : ceF F h1 h') : ceF F h h' := fp_tr a b
theorem ceF_22 (a : ceF F h h') (hF : F ≠ 22) (j : Nat) (hj : j ≠ 5 ∧ j ≠ 7 ∧ j ≠ 9) : hI h' 22 j = hI h 22 j := a.2 22 j (by omega)
theorem FCT_ce (C : FCT h F x) (a : ceF F h h') : FCT h' F x := by
  have e := a.1
  have eR : ∀ x j, hR h' x j = hR h x j := fun x j => by show h'.2.1 x j = h.2.1 x j; rw [e]
  have eT : ∀ x, hT h' x = hT h x := fun x => by show h'.2.2.2.1 x = h.2.2.2.1 x; rw [e]
  have eL : ∀ x, hL h' x = hL h x := fun x => by show h'.2.2.2.2.1 x = h.2.2.2.2.1 x; rw [e]
  obtain ⟨c1, c2, c3, c4, c5, c6⟩ := C
  exact ⟨by rw [eT]; exact c1, by rw [eR]; exact c2, c3, by rw [eT]; exact c4, by rw [eL]; exact c5, c6⟩
theorem FCT_x (C : FCT h F x) (a : ceF F h h') (j : Nat) : hI h' x j = hI h x j := a.2 x j (by have := C.2.2.1; have := C.2.2.2.2.2; omega)
theorem FCT_L (a : ceF F h h') (y : Nat) : hL h' y = hL h y := by show h'.2.2.2.2.1 y = h.2.2.2.2.1 y; rw [a.1]
theorem stepE_A (e : stepE F h = some h') : stepA F h = some h' := by
  unfold stepE at e
  unfold stepA
  cases h1 : c119 F h with
  | none => rw [h1] at e; cases e
  | some v =>
    rw [h1] at e
    simp only [bsome] at e ⊢
    cases h2 : c120 F v.1 v.2 with
    | none => rw [h2] at e; cases e
    | some w =>
      rw [h2] at e
      simp only [bsome] at e ⊢
      by_cases z : w.1 = 0
      · rw [if_pos z] at e; cases e
      · rw [if_neg z] at e ⊢
        exact e
theorem runE_one (e : stepE F h = some h') (h7 : hI h 22 7 = -1) (a : ceF F h h') (hF : F ≠ 22) : runE F 1 h h' := ⟨h', h7, e, ⟨a.1, ceF_22 a hF 3 (by omega)⟩, rfl⟩
theorem runE_tr : ∀ {k k' : Nat} {h h1 h2 : hS}, runE F k h h1 → runE F k' h1 h2 → runE F (k + k') h h2
  | 0, k', h, h1, h2, a, b => by
    have a : h1 = h := a
    subst a
    rw [Nat.zero_add]
    exact b
  | k + 1, k', h, h1, h2, ⟨g, a1, a2, a3, a4⟩, b => by
    rw [show k + 1 + k' = (k + k') + 1 by omega]
    exact ⟨g, a1, a2, a3, runE_tr a4 b⟩
/-- the next part of the code -/
theorem c119_e (C : FCT h F x) (hq : hI h F 4 = (q : Int)) (hl : q < hL h x) : c119 F h = some (hI h x q, sI h F 4 ((q + 1 : Nat) : Int)) := by
  obtain ⟨c1, c2, c3, c4, c5, c6⟩ := C
  unfold c119
  rw [gR_s c1, c2]
  simp only [bsome]
  rw [hnul_8 (by omega)]
  simp only [bsome]
  rw [if_neg (by decide), gI_s c1, hq]
  simp only [bsome]
  rw [if_neg (by omega), lA_s c4]
  simp only [bsome]
  rw [if_pos (by omega), pI_s c1, wadd_n (by omega)]
  simp only [bsome]
  rw [gR_s (h := sI h F 4 ((q + 1 : Nat) : Int)) (x := F) (t := 12) c1]
  simp only [bsome]
  rw [gI_s (h := sI h F 4 ((q + 1 : Nat) : Int)) (x := F) (t := 12) c1, hI_sI, if_pos ⟨rfl, rfl⟩, hR_sI, c2]
  simp only [bsome]
  rw [wsub_e (by omega) (by omega), aI_s (h := sI h F 4 ((q + 1 : Nat) : Int)) (x := x) (t := 1) c4 (by omega) (by show ((q + 1 : Nat) : Int) - 1 < (hL h x : Int); omega), hI_sI, if_neg (by omega)]
  rw [show (((q + 1 : Nat) : Int) - 1).toNat = q by omega]
  rfl
theorem c121_e (hn : hI h 22 5 = (n : Int)) (h64 : n < 64) : c121 v h = some (sI (sI h 25 n v) 22 5 ((n + 1 : Nat) : Int)) := by
  unfold c121
  rw [hn, if_neg (by omega), wIs_s (by omega) (by omega), Int.toNat_natCast]
  simp only [bsome]
  rw [hI_sI, if_neg (by omega), hn, wadd_n (by omega)]
theorem c124_e (hn : hI h 22 5 = ((n + 1 : Nat) : Int)) (h64 : n < 64) : c124 h = some (hI h 25 n, sI h 22 5 (n : Int)) := by
  unfold c124
  rw [hn, if_pos (by omega), wsub_e (by omega) (by omega)]
  simp only [bsome]
  rw [hI_sI, if_pos ⟨rfl, rfl⟩, aIs_s (by omega) (by omega), hI_sI, if_neg (by omega)]
  rw [show ((n + 1 : Nat) : Int) - 1 = (n : Int) by omega, Int.toNat_natCast]
  rfl
theorem c123_e : c123 v h = some (sI (sI h 22 9 v) 22 7 1) := rfl
/-- a leaf's number is put behind the others -/
theorem push_ok (C : FCT h F x) {h2 : hS} {q2 : Nat} (e2 : h2 = sI h F 4 (q2 : Int) ∨ ∃ z : Int, h2 = sI (sI h F 4 z) F 4 (q2 : Int)) (hq2 : q2 = q + L) (hn : hI h 22 5 = (n : Int)) (h64 : n < 64) (h7 : hI h 22 7 = -1) : c121 v h2 = some (sI (sI h2 25 n v) 22 5 ((n + 1 : Nat) : Int)) ∧ okE F q L n h (sI (sI h2 25 n v) 22 5 ((n + 1 : Nat) : Int)) v := by
  have hF := C.2.2.2.2.2
  have i2 : ∀ y j, ¬ (y = F ∧ j = 4) → hI h2 y j = hI h y j := fun y j hy => by
    rcases e2 with e2 | ⟨z, e2⟩ <;> rw [e2]
    · rw [hI_sI, if_neg hy]
    · rw [hI_sI, if_neg hy, hI_sI, if_neg hy]
  have i3 : hI h2 F 4 = (q2 : Int) := by rcases e2 with e2 | ⟨z, e2⟩ <;> rw [e2, hI_sI, if_pos ⟨rfl, rfl⟩]
  have i4 : h2.2 = h.2 := by rcases e2 with e2 | ⟨z, e2⟩ <;> rw [e2] <;> rfl
  refine ⟨c121_e (by rw [i2 22 5 (by omega)]; exact hn) h64, ⟨i4, fun y j hy => ?_⟩, ?_, ?_, ?_, fun j hj => ?_, ?_, ?_⟩
  · rw [hI_sI, if_neg (by omega), hI_sI, if_neg (by omega), i2 y j (by omega)]
  · rw [hI_sI, if_neg (by omega), hI_sI, if_neg (by omega), i3, hq2]
  · rw [hI_sI, if_pos ⟨rfl, rfl⟩]
  · rw [hI_sI, if_neg (by omega), hI_sI, if_pos ⟨rfl, rfl⟩]
  · rw [hI_sI, if_neg (by omega), hI_sI, if_neg (by omega), i2 25 j (by omega)]
  · rw [hI_sI, if_neg (by omega), hI_sI, if_neg (by omega), i2 22 7 (by omega)]; exact h7
  · rw [hI_sI, if_neg (by omega), hI_sI, if_neg (by omega), i2 22 9 (by omega)]
theorem FCT_4 (C : FCT h F x) {z : Int} : FCT (sI h F 4 z) F x := C
/-- a number -/
theorem num_s (C : FCT h F x) (hq : hI h F 4 = (q : Int)) (hl : q + 1 < hL h x) (c0 : hI h x q = 2) (c1 : hI h x (q + 1) = v) (hn : hI h 22 5 = (n : Int)) (h64 : n < 64) (h7 : hI h 22 7 = -1) : ∃ h', stepE F h = some h' ∧ okE F q 2 n h h' v := by
  obtain ⟨p1, p2⟩ := push_ok (v := v) C (h2 := sI (sI h F 4 ((q + 1 : Nat) : Int)) F 4 ((q + 1 + 1 : Nat) : Int)) (q := q) (q2 := q + 2) (L := 2) (.inr ⟨_, rfl⟩) rfl hn h64 h7
  refine ⟨_, ?_, p2⟩
  have hF := C.2.2.2.2.2
  have hx := C.2.2.1
  unfold stepE
  refine bnd (c119_e C hq (by omega)) ?_
  rw [c0]
  have e1 : c119 F (sI h F 4 ((q + 1 : Nat) : Int)) = some (v, sI (sI h F 4 ((q + 1 : Nat) : Int)) F 4 ((q + 1 + 1 : Nat) : Int)) := by
    rw [c119_e (h := sI h F 4 ((q + 1 : Nat) : Int)) (FCT_4 C) (by rw [hI_sI, if_pos ⟨rfl, rfl⟩]) (by exact hl), hI_sI, if_neg (by omega), c1]
  have e2 : c120 F 2 (sI h F 4 ((q + 1 : Nat) : Int)) = some (1, sI (sI (sI (sI h F 4 ((q + 1 : Nat) : Int)) F 4 ((q + 1 + 1 : Nat) : Int)) 25 n v) 22 5 ((n + 1 : Nat) : Int)) := by
    unfold c120
    rw [if_neg (by decide), if_pos rfl, kT_s (h := sI h F 4 ((q + 1 : Nat) : Int)) (x := F) (t := 12) C.1]
    refine bnd rfl ?_
    refine bnd e1 ?_
    exact bnd p1 rfl
  refine bnd e2 ?_
  exact if_neg (show ¬ (1 : Int) = 0 by omega)
/-- the number of the call, or the latest one -/
theorem vl_s {o : Int} {f : Nat} (hof : (o = 214 ∧ f = 6) ∨ (o = 215 ∧ f = 5)) (C : FCT h F x) (hq : hI h F 4 = (q : Int)) (hl : q < hL h x) (c0 : hI h x q = o) (hn : hI h 22 5 = (n : Int)) (h64 : n < 64) (h7 : hI h 22 7 = -1) : ∃ h', stepE F h = some h' ∧ okE F q 1 n h h' (hI h F f) := by
  obtain ⟨p1, p2⟩ := push_ok (v := hI h F f) C (h2 := sI h F 4 ((q + 1 : Nat) : Int)) (q := q) (q2 := q + 1) (L := 1) (.inl rfl) rfl hn h64 h7
  refine ⟨_, ?_, p2⟩
  unfold stepE
  refine bnd (c119_e C hq (by omega)) ?_
  rw [c0]
  have e2 : c120 F o (sI h F 4 ((q + 1 : Nat) : Int)) = some (1, sI (sI (sI h F 4 ((q + 1 : Nat) : Int)) 25 n (hI h F f)) 22 5 ((n + 1 : Nat) : Int)) := by
    rcases hof with ⟨rfl, rfl⟩ | ⟨rfl, rfl⟩
    · unfold c120
      rw [if_neg (by decide), if_neg (by decide), if_neg (by decide), if_neg (by decide), if_neg (by decide), if_neg (by decide), if_neg (by decide), if_neg (by decide), if_pos rfl, gI_s (h := sI h F 4 ((q + 1 : Nat) : Int)) (x := F) (t := 12) C.1, hI_sI, if_neg (by omega)]
      refine bnd rfl ?_
      exact bnd p1 rfl
    · unfold c120
      rw [if_neg (by decide), if_neg (by decide), if_neg (by decide), if_neg (by decide), if_neg (by decide), if_neg (by decide), if_neg (by decide), if_neg (by decide), if_neg (by decide), if_pos rfl, gI_s (h := sI h F 4 ((q + 1 : Nat) : Int)) (x := F) (t := 12) C.1, hI_sI, if_neg (by omega)]
      refine bnd rfl ?_
      exact bnd p1 rfl
  refine bnd e2 ?_
  exact if_neg (show ¬ (1 : Int) = 0 by omega)
/-- the latest number that waits is another one -/
theorem pop1_ok (C : FCT h F x) (hn : hI h 22 5 = ((n + 1 : Nat) : Int)) (h64 : n < 64) (h7 : hI h 22 7 = -1) (e : hI h 25 n = a) : ∃ h1, c124 (sI h F 4 ((q + 1 : Nat) : Int)) = some (a, h1) ∧ ∀ v, ∃ h', c121 v h1 = some h' ∧ okE F q 1 n h h' v := by
  have hF := C.2.2.2.2.2
  have e1 : c124 (sI h F 4 ((q + 1 : Nat) : Int)) = some (a, sI (sI h F 4 ((q + 1 : Nat) : Int)) 22 5 (n : Int)) := by
    rw [c124_e (n := n) (by rw [hI_sI, if_neg (by omega)]; exact hn) h64, hI_sI, if_neg (by omega), e]
  refine ⟨_, e1, fun v => ⟨_, c121_e (n := n) (by rw [hI_sI, if_pos ⟨rfl, rfl⟩]) h64, ⟨rfl, fun y j hy => ?_⟩, ?_, ?_, ?_, fun j hj => ?_, ?_, ?_⟩⟩
  · rw [hI_sI, if_neg (by omega), hI_sI, if_neg (by omega), hI_sI, if_neg (by omega), hI_sI, if_neg (by omega)]
  · rw [hI_sI, if_neg (by omega), hI_sI, if_neg (by omega), hI_sI, if_neg (by omega), hI_sI, if_pos ⟨rfl, rfl⟩]
  · rw [hI_sI, if_pos ⟨rfl, rfl⟩]
  · rw [hI_sI, if_neg (by omega), hI_sI, if_pos ⟨rfl, rfl⟩]
  · rw [hI_sI, if_neg (by omega), hI_sI, if_neg (by omega), hI_sI, if_neg (by omega), hI_sI, if_neg (by omega)]
  · rw [hI_sI, if_neg (by omega), hI_sI, if_neg (by omega), hI_sI, if_neg (by omega), hI_sI, if_neg (by omega)]; exact h7
  · rw [hI_sI, if_neg (by omega), hI_sI, if_neg (by omega), hI_sI, if_neg (by omega), hI_sI, if_neg (by omega)]
/-- minus -/
theorem neg_s (C : FCT h F x) (hq : hI h F 4 = (q : Int)) (hl : q < hL h x) (c0 : hI h x q = 252) (hn : hI h 22 5 = ((n + 1 : Nat) : Int)) (h64 : n < 64) (h7 : hI h 22 7 = -1) (e : hI h 25 n = a) : ∃ h', stepE F h = some h' ∧ okE F q 1 n h h' (wneg a) := by
  obtain ⟨h1, p1, p2⟩ := pop1_ok (q := q) C hn h64 h7 e
  obtain ⟨h', p3, p4⟩ := p2 (wneg a)
  refine ⟨h', ?_, p4⟩
  unfold stepE
  refine bnd (c119_e C hq (by omega)) ?_
  rw [c0]
  have e2 : c120 F 252 (sI h F 4 ((q + 1 : Nat) : Int)) = some (1, h') := by
    unfold c120
    rw [if_neg (by decide), if_neg (by decide), if_neg (by decide), if_neg (by decide), if_neg (by decide), if_neg (by decide), if_neg (by decide), if_neg (by decide), if_neg (by decide), if_neg (by decide), if_neg (by decide), if_pos rfl]
    refine bnd p1 ?_
    exact bnd p3 rfl
  refine bnd e2 ?_
  exact if_neg (show ¬ (1 : Int) = 0 by omega)
/-- two numbers are joined -/
theorem op_st {s op : Int} {hr : hS} (ho : opR s op) (C : FCT h F x) (hq : hI h F 4 = (q : Int)) (hl : q < hL h x) (c0 : hI h x q = op) (hn : hI h 22 5 = ((n + 2 : Nat) : Int)) (h64 : n + 1 < 64) (h7 : hI h 22 7 = -1) (e1 : hI h 25 n = a) (e2 : hI h 25 (n + 1) = b) : ((s = 13 ∧ b = 0) ∧ ∃ h', stepE F h = some h' ∧ noE F h h' 1002) ∨ (¬ (s = 13 ∧ b = 0) ∧ ∃ v h', c262 s a b hr = some v ∧ stepE F h = some h' ∧ okE F q 1 n h h' v) := by
  have hF := C.2.2.2.2.2
  obtain ⟨h1, d1⟩ : ∃ h1, h1 = sI (sI (sI h F 4 ((q + 1 : Nat) : Int)) 22 5 ((n + 1 : Nat) : Int)) 22 5 (n : Int) := ⟨_, rfl⟩
  have k1 : c124 (sI h F 4 ((q + 1 : Nat) : Int)) = some (b, sI (sI h F 4 ((q + 1 : Nat) : Int)) 22 5 ((n + 1 : Nat) : Int)) := by
    rw [c124_e (n := n + 1) (by rw [hI_sI, if_neg (by omega)]; exact hn) h64, hI_sI, if_neg (by omega), e2]
  have k2 : c124 (sI (sI h F 4 ((q + 1 : Nat) : Int)) 22 5 ((n + 1 : Nat) : Int)) = some (a, h1) := by
    rw [c124_e (n := n) (by rw [hI_sI, if_pos ⟨rfl, rfl⟩]) (by omega), hI_sI, if_neg (by omega), hI_sI, if_neg (by omega), e1, d1]
  have i1 : ∀ y j, ¬ (y = F ∧ j = 4) → ¬ (y = 22 ∧ j = 5) → hI h1 y j = hI h y j := fun y j h1 h2 => by
    rw [d1, hI_sI, if_neg h2, hI_sI, if_neg h2, hI_sI, if_neg h1]
  have i2 : hI h1 F 4 = ((q + 1 : Nat) : Int) := by rw [d1, hI_sI, if_neg (by omega), hI_sI, if_neg (by omega), hI_sI, if_pos ⟨rfl, rfl⟩]
  have i3 : hI h1 22 5 = (n : Int) := by rw [d1, hI_sI, if_pos ⟨rfl, rfl⟩]
  have i4 : h1.2 = h.2 := by rw [d1]; rfl
  have push : ∀ v, ∃ h', c121 v h1 = some h' ∧ okE F q 1 n h h' v := fun v => by
    refine ⟨_, c121_e (n := n) i3 (by omega), ⟨i4, fun y j hy => ?_⟩, ?_, ?_, ?_, fun j hj => ?_, ?_, ?_⟩
    · rw [hI_sI, if_neg (by omega), hI_sI, if_neg (by omega), i1 y j (by omega) (by omega)]
    · rw [hI_sI, if_neg (by omega), hI_sI, if_neg (by omega), i2]
    · rw [hI_sI, if_pos ⟨rfl, rfl⟩]
    · rw [hI_sI, if_neg (by omega), hI_sI, if_pos ⟨rfl, rfl⟩]
    · rw [hI_sI, if_neg (by omega), hI_sI, if_neg (by omega), i1 25 j (by omega) (by omega)]
    · rw [hI_sI, if_neg (by omega), hI_sI, if_neg (by omega), i1 22 7 (by omega) (by omega)]; exact h7
    · rw [hI_sI, if_neg (by omega), hI_sI, if_neg (by omega), i1 22 9 (by omega) (by omega)]
  have st : ∀ h', c126 op (sI h F 4 ((q + 1 : Nat) : Int)) = some h' → stepE F h = some h' := fun h' e => by
    unfold stepE
    refine bnd (c119_e C hq (by omega)) ?_
    rw [c0]
    have e3 : c120 F op (sI h F 4 ((q + 1 : Nat) : Int)) = some (1, h') := by
      have e4 : c120_j181 op (sI h F 4 ((q + 1 : Nat) : Int)) = some (1, h') := by
        unfold c120_j181
        exact bnd e rfl
      rw [← e4]
      rcases ho with ⟨-, rfl⟩ | ⟨-, rfl⟩ | ⟨-, rfl⟩ | ⟨-, rfl⟩ | ⟨-, rfl⟩ | ⟨-, rfl⟩ <;> rfl
    refine bnd e3 ?_
    exact if_neg (show ¬ (1 : Int) = 0 by omega)
  have c126e : c126 op (sI h F 4 ((q + 1 : Nat) : Int)) = (if (42 : Int) = op then (c121 (wmul a b) h1).bind (fun h4 => some h4) else if (43 : Int) = op then (c121 (wadd a b) h1).bind (fun h6 => some h6) else if (45 : Int) = op then (c121 (wsub a b) h1).bind (fun h8 => some h8) else if (47 : Int) = op then (if b = 0 then (c123 1002 h1).bind (fun h13 => some h13) else (dI a b).bind (fun v11 => (c121 v11 h1).bind (fun h12 => some h12))) else if (60 : Int) = op then (if b ≤ a then c126_j125 0 h1 else c126_j125 1 h1) else if a = b then c126_j142 1 h1 else c126_j142 0 h1) := by
    unfold c126
    refine bnd k1 ?_
    refine bnd k2 ?_
    rfl
  have bs : ∀ o : Option hS, o.bind (fun h => some h) = o := fun o => by cases o <;> rfl
  by_cases z : s = 13 ∧ b = 0
  · refine .inl ⟨z, sI (sI h1 22 9 1002) 22 7 1, st _ ?_, ⟨i4, fun y j hy => ?_⟩, ?_, ?_, ?_⟩
    · have : op = 47 := by unfold opR at ho; omega
      rw [c126e, this, if_neg (by decide), if_neg (by decide), if_neg (by decide), if_pos rfl, if_pos z.2]
      rfl
    · rw [hI_sI, if_neg (by omega), hI_sI, if_neg (by omega), i1 y j (by omega) (by omega)]
    · rw [hI_sI, if_pos ⟨rfl, rfl⟩]
    · rw [hI_sI, if_neg (by omega), hI_sI, if_pos ⟨rfl, rfl⟩]
    · rw [hI_sI, if_neg (by omega), hI_sI, if_neg (by omega), i3]; omega
  · refine .inr ⟨z, ?_⟩
    have fin : ∀ v, c262 s a b hr = some v → c126 op (sI h F 4 ((q + 1 : Nat) : Int)) = c121 v h1 → ∃ v h', c262 s a b hr = some v ∧ stepE F h = some h' ∧ okE F q 1 n h h' v := fun v w1 w2 => by
      obtain ⟨h', w3, w4⟩ := push v
      exact ⟨v, h', w1, st h' (w2.trans w3), w4⟩
    rcases ho with ⟨rfl, rfl⟩ | ⟨rfl, rfl⟩ | ⟨rfl, rfl⟩ | ⟨rfl, rfl⟩ | ⟨rfl, rfl⟩ | ⟨rfl, rfl⟩
    · exact fin (wadd a b) rfl (by rw [c126e, if_neg (by decide), if_pos rfl, bs])
    · exact fin (wsub a b) rfl (by rw [c126e, if_neg (by decide), if_neg (by decide), if_pos rfl, bs])
    · exact fin (wmul a b) rfl (by rw [c126e, if_pos rfl, bs])
    · have hb : ¬ b = 0 := fun e => z ⟨rfl, e⟩
      have ed : dI a b = some (wdiv a b) := if_neg hb
      refine fin (wdiv a b) ?_ ?_
      · unfold c262
        rw [if_neg (by decide), if_neg (by decide), if_neg (by decide), if_neg (by decide), if_pos rfl, ed]
        rfl
      · rw [c126e, if_neg (by decide), if_neg (by decide), if_neg (by decide), if_pos rfl, if_neg hb, ed]
        refine bnd rfl ?_
        exact bs _
    · have e262 : c262 14 a b hr = if b ≤ a then some 0 else some 1 := rfl
      by_cases cc : b ≤ a
      · exact fin 0 (by rw [e262, if_pos cc]) (by rw [c126e, if_neg (by decide), if_neg (by decide), if_neg (by decide), if_neg (by decide), if_pos rfl, if_pos cc]; exact bs _)
      · exact fin 1 (by rw [e262, if_neg cc]) (by rw [c126e, if_neg (by decide), if_neg (by decide), if_neg (by decide), if_neg (by decide), if_pos rfl, if_neg cc]; exact bs _)
    · have e262 : c262 15 a b hr = if a = b then some 1 else some 0 := rfl
      by_cases cc : a = b
      · exact fin 1 (by rw [e262, if_pos cc]) (by rw [c126e, if_neg (by decide), if_neg (by decide), if_neg (by decide), if_neg (by decide), if_neg (by decide), if_pos cc]; exact bs _)
      · exact fin 0 (by rw [e262, if_neg cc]) (by rw [c126e, if_neg (by decide), if_neg (by decide), if_neg (by decide), if_neg (by decide), if_neg (by decide), if_neg cc]; exact bs _)
end STE
