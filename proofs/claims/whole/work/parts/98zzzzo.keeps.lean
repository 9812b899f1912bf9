/-! what the patcher keeps stays while others work -/
/-- the class: the live kinds' shared values and the patches' states apart, what lies from 448 on stays -/
def kpH (p m : Nat) (h h' : hS) : Prop := hN h ≤ hN h' ∧ (∀ x, 448 ≤ x → x < hN h → hT h' x = hT h x ∧ (∀ j, hR h' x j = hR h x j) ∧ (hT h x ≠ 26 → (∀ j : Int, 0 ≤ j → j < m → x ≠ kd h p j + 5) → sm h h' x)) ∧ (sm h h' 213 ∧ sm h h' 214 ∧ sm h h' 6) ∧ (∀ j, hR h' 50 j = hR h 50 j) ∧ (hI h' 48 9 = hI h 48 9 ∧ hR h' 48 7 = hR h 48 7 ∧ hR h' 48 8 = hR h 48 8)
/-- the other side -/
def kpT (t t' : hS) : Prop := (∀ j, hI t' 399 j = hI t 399 j) ∧ (∀ j, hI t' 401 j = hI t 401 j) ∧ (hI t' 395 27 = hI t 395 27 ∧ hI t' 395 29 = hI t 395 29) ∧ (∀ v g : Int, 0 ≤ v → v < 12 → 0 ≤ g → g < 64 → ¬ (35 ≤ g ∧ g < 39) → wg t' 0 v g = wg t 0 v g) ∧ (∀ v g : Int, 0 ≤ v → v < 12 → 0 ≤ g → g < 64 → wg t' 2 v g = wg t 2 v g) ∧ wm t' 2 = wm t 2
def GNq (h t : hS) (m : Nat) (G : Int) : Prop := CF t 0 m ∧ 0 ≤ G ∧ hI h 48 9 = G ∧ hI t 395 27 = G ∧ ∀ j : Int, 0 ≤ j → j < m → 0 ≤ wg t 0 j 2 ∧ wg t 0 j 2 ≤ G
/-- the patch that was made last, and the former pond -/
def LTq (h t : hS) (K : Nat → Int → Prop) (P m κ : Nat) (G : Int) (R0 R1 : Nat → Nat) : Prop := (hI t 395 29 = -1 ∧ hR h 48 7 = 0) ∨ ∃ (l p m0 : Nat) (r0 : Int → Nat), l < κ ∧ hI t 395 29 = (l : Int) ∧ hR h 48 7 = hR h 50 l ∧ hR h 48 8 = p ∧ BKq h t K P m p m0 r0 G ∧ ∀ k, k < κ → ∀ j : Int, 0 ≤ j → j < m0 → kd h p j + 13 ≤ R0 k ∨ R1 k ≤ kd h p j
/-- the patches as they are kept -/
def PKs (h t : hS) (K : Nat → Int → Prop) (P m κ : Nat) (R0 R1 : Nat → Nat) : Prop := ∀ k, k < κ → PKq h t K k (R0 k) (R1 k) ∧ (448 ≤ hR h 50 k ∧ hR h 50 k < hN h) ∧ ∀ j : Int, 0 ≤ j → j < m → kd h P j + 13 ≤ R0 k ∨ R1 k ≤ kd h P j
section KPS
variable {h h' t t' : hS} {K : Nat → Int → Prop} {P p m m0 k κ N0 N1 : Nat} {r r0 : Int → Nat} {G : Int} {R0 R1 : Nat → Nat}
theorem kp_kd (a : kpH P m h h') (hp : (p = 213 ∨ 448 ≤ p) ∧ p + 1 < hN h) (T : hT h (p + 1) = 17) (nk : ∀ j : Int, 0 ≤ j → j < m → KD h (kd h P j)) : ∀ u : Int, kd h' p u = kd h p u := fun u => by
  unfold kd
  split
  · rfl
  · rcases hp.1 with e | e
    · rw [e]
      exact a.2.2.1.2.1.2.1 _
    · exact (a.2.1 (p + 1) (by omega) hp.2).2.1 _
theorem GN_k (W : WF t 0 m r) (Q : GNq h t m G) (a : kpH P m h h') (b : kpT t t') : GNq h' t' m G := by
  obtain ⟨q1, q2, q3, q4, q5⟩ := Q
  have hm := W.2.1
  have e : ∀ v g : Int, 0 ≤ v → v < m → 0 ≤ g → g < 64 → ¬ (35 ≤ g ∧ g < 39) → wg t' 0 v g = wg t 0 v g := fun v g v0 v1 g0 g1 n => b.2.2.2.1 v g v0 (by omega) g0 g1 n
  refine ⟨CF_x (fun k f k0 k1 f0 f1 n => e k f k0 k1 f0 f1 (by omega)) W q1, q2, by rw [a.2.2.2.2.1]; exact q3, by rw [b.2.2.1.1]; exact q4, fun j j0 j1 => ?_⟩
  rw [e j 2 j0 j1 (by omega) (by omega) (by omega)]
  exact q5 j j0 j1
theorem PK_k (Q : PKq h t K k N0 N1) (dj : ∀ j : Int, 0 ≤ j → j < m → kd h P j + 13 ≤ N0 ∨ N1 ≤ kd h P j) (a : kpH P m h h') (b : kpT t t') (hpt : 448 ≤ hR h 50 k ∧ hR h 50 k < hN h) : PKq h' t' K k N0 N1 := by
  have n := Q.1
  refine PK_b Q (fun y y0 y1 => ?_) a.2.2.1.2.2 ?_ (b.2.1 k) b.1 (by have := a.1; omega) (fun _ _ z => z)
  · obtain ⟨e1, e2, e3⟩ := a.2.1 y (by omega) (by omega)
    exact ⟨e1, fun z => e3 z (fun j j0 j1 w => by have := dj j j0 j1; omega)⟩
  · rw [a.2.2.2.1 k]
    exact (a.2.1 _ hpt.1 hpt.2).2.1 0
theorem BK_k (Pw : PW h t K P 0 m r) (P448 : P = 213 ∨ 448 ≤ P) (Q : BKq h t K P m p m0 r0 G) (a : kpH P m h h') (b : kpT t t') : BKq h' t' K P m p m0 r0 G := by
  obtain ⟨Pw2, T2, C2, hp, FF, KO0, ⟨pP, k1, k2⟩, kk⟩ := Q
  obtain ⟨a1, a2, ⟨a3, a4, -⟩, -, -⟩ := id a
  obtain ⟨-, -, -, b4, b5, b6⟩ := id b
  have W := Pw.1
  have W2 := Pw2.1
  have hm := W.2.1
  have hm0 := W2.2.1
  obtain ⟨P1, P2, P3, P4, P5, P6, P7⟩ := Pw.2.1
  obtain ⟨p1, p2, p3, p4, p5, p6, p7⟩ := Pw2.2.1
  have kP : ∀ u : Int, kd h' P u = kd h P u := kp_kd a ⟨P448, P2⟩ P5 (fun j j0 j1 => (Pw.2.2.1 j j0 j1).1)
  have kp : ∀ u : Int, kd h' p u = kd h p u := kp_kd a ⟨hp, p2⟩ p5 (fun j j0 j1 => (Pw.2.2.1 j j0 j1).1)
  have nst : ∀ x, x < P → ∀ j : Int, 0 ≤ j → j < m → x ≠ kd h P j + 5 := fun x hx j j0 j1 z => by have := k2 j j0 j1; omega
  have sp : sm h h' p := by
    rcases hp with e | e
    · rw [e]; exact a3
    · exact (a2 p e (by omega)).2.2 (by omega) (nst p (by omega))
  have sp1 : sm h h' (p + 1) := by
    rcases hp with e | e
    · rw [e]; exact a4
    · exact (a2 (p + 1) (by omega) p2).2.2 (by omega) (nst _ (by omega))
  have ek : ∀ j : Int, 0 ≤ j → j < m0 → ∀ o, o ≤ 12 → sm h h' (kd h p j + o) := fun j j0 j1 o ho => by
    have Q := (Pw2.2.2.1 j j0 j1).1
    have := (k1 j j0 j1).1
    exact (a2 _ (by have := Q.1; omega) (by have := Q.2.1; omega)).2.2 (KD_26 Q ho) (nst _ (by omega))
  have e2 : ∀ v g : Int, 0 ≤ v → v < m0 → 0 ≤ g → g < 64 → wg t' 2 v g = wg t 2 v g := fun v g v0 v1 g0 g1 => b5 v g v0 (by omega) g0 g1
  have e0 : ∀ v g : Int, 0 ≤ v → v < m → 0 ≤ g → g < 64 → ¬ (35 ≤ g ∧ g < 39) → wg t' 0 v g = wg t 0 v g := fun v g v0 v1 g0 g1 n => b4 v g v0 (by omega) g0 g1 n
  have ax2 : agx 2 2 m0 t t' := fun k f k0 k1 f0 f1 _ => e2 k f k0 k1 f0 f1
  have ax0 : agx 0 0 m t t' := fun k f k0 k1 f0 f1 n => e0 k f k0 k1 f0 f1 (by omega)
  refine ⟨PW_l2 Pw2 sp sp1 ek a1 e2 b6, TB_l2 W2 T2 kp (fun j j0 j1 o _ ho => ⟨(ek j j0 j1 o ho).1, (ek j j0 j1 o ho).2.1⟩) e2, CF_x ax2 W2 C2, hp, fun j j0 j1 i hi => ?_, fun j j0 j1 => ?_, ⟨pP, fun j j0 j1 => by rw [kp, e2 j 2 j0 j1 (by omega) (by omega)]; exact k1 j j0 j1, fun j j0 j1 => by rw [kP]; exact k2 j j0 j1⟩, fun x v hx j j0 j1 => by rw [kp]; exact kk x v hx j j0 j1⟩
  · have w5 := (W.2.2 j j0 j1).2.2.1
    have Qj := (Pw.2.2.1 j j0 j1).1
    rw [e0 j 5 j0 j1 (by omega) (by omega) (by omega)] at hi
    rw [e0 j _ j0 j1 (by omega) (by omega) (by omega), kP, ((a2 (kd h P j + 3) (by have := Qj.1; omega) (by have := Qj.2.1; omega)).2.2 (KD_26 Qj (by omega)) (fun u u0 u1 z => ?_)).1]
    · exact FF j j0 j1 i hi
    · have Qu := (Pw.2.2.1 u u0 u1).1
      by_cases y : kd h P j = kd h P u
      · omega
      · have := KD_d Qj Qu y
        omega
  · obtain ⟨x1, x2, x3⟩ := KO0 j j0 j1
    have w5 := (W.2.2 j j0 j1).2.2.1
    refine ⟨KOg_l2 W2 x1 j0 w5.2 hm0 (fun g g0 g1 => e0 j g j0 j1 g0 (by omega) (by omega)) e2, by rw [e0 j 3 j0 j1 (by omega) (by omega) (by omega), e0 j 2 j0 j1 (by omega) (by omega) (by omega)]; exact x2, fun z n => ?_⟩
    rw [e0 j 3 j0 j1 (by omega) (by omega) (by omega)] at z
    have b4' : wg t 0 j 4 = -1 ∨ (0 ≤ wg t 0 j 4 ∧ wg t 0 j 4 < m0) := by
      rw [x1.1]
      rcases ix_b (fun k : Nat => wg t 2 (k : Int) 0) (wg t 0 j 0) m0 with y | ⟨y, y1, y2, -⟩
      · exact .inl y
      · rw [y1]
        exact .inr ⟨by omega, by omega⟩
    rw [e0 j 4 j0 j1 (by omega) (by omega) (by omega), fAt_x ax2 W2 b4', fAt_x ax0 W (.inr ⟨j0, j1⟩)]
    exact x3 z n
theorem LT_k (Pw : PW h t K P 0 m r) (P448 : P = 213 ∨ 448 ≤ P) (Q : LTq h t K P m κ G R0 R1) (a : kpH P m h h') (b : kpT t t') : LTq h' t' K P m κ G R0 R1 := by
  rcases Q with ⟨q1, q2⟩ | ⟨l, p, m0, r0, q1, q2, q3, q4, q5, q6⟩
  · exact .inl ⟨by rw [b.2.2.1.2]; exact q1, by rw [a.2.2.2.2.2.1]; exact q2⟩
  · have kp : ∀ u : Int, kd h' p u = kd h p u := kp_kd a ⟨q5.2.2.2.1, q5.1.2.1.2.1⟩ q5.1.2.1.2.2.2.2.1 (fun j j0 j1 => (Pw.2.2.1 j j0 j1).1)
    exact .inr ⟨l, p, m0, r0, q1, by rw [b.2.2.1.2]; exact q2, by rw [a.2.2.2.2.2.1, a.2.2.2.1]; exact q3, by rw [a.2.2.2.2.2.2]; exact q4, BK_k Pw P448 q5 a b, fun k hk j j0 j1 => by rw [kp]; exact q6 k hk j j0 j1⟩
theorem PKs_k (Pw : PW h t K P 0 m r) (P448 : P = 213 ∨ 448 ≤ P) (Q : PKs h t K P m κ R0 R1) (a : kpH P m h h') (b : kpT t t') : PKs h' t' K P m κ R0 R1 := fun k hk => by
  obtain ⟨q1, q2, q3⟩ := Q k hk
  have kP : ∀ u : Int, kd h' P u = kd h P u := kp_kd a ⟨P448, Pw.2.1.2.1⟩ Pw.2.1.2.2.2.2.1 (fun j j0 j1 => (Pw.2.2.1 j j0 j1).1)
  exact ⟨PK_k q1 q3 a b q2, by rw [a.2.2.2.1]; exact ⟨q2.1, by have := a.1; omega⟩, fun j j0 j1 => by rw [kP]; exact q3 j j0 j1⟩
end KPS
