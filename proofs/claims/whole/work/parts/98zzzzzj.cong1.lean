/-! the rest of both may change: what holds stays -/
/-- the class: the tape, the reader's cells, what was told, apart -/
def igH (κ : Nat) (h h' : hS) : Prop := hN h ≤ hN h' ∧ ∀ x, x < hN h → ¬ (395 ≤ x ∧ x < 448) → (hT h' x = hT h x ∧ hL h' x = hL h x) ∧ (∀ j, ¬ (x = 15 ∨ (x = 50 ∧ κ ≤ j)) → hR h' x j = hR h x j) ∧ ∀ j, ¬ ((9 ≤ x ∧ x ≤ 17) ∨ x = 20 ∨ (x = 8 ∧ 9 ≤ j) ∨ (x = 48 ∧ j = 4)) → hI h' x j = hI h x j
/-- the other side, likewise -/
def igT (κ : Nat) (t t' : hS) : Prop := ∀ x j, 395 ≤ x → x < 448 → ¬ ((396 ≤ x ∧ x ≤ 398) ∨ (x = 399 ∧ 6000 * (κ + 1) ≤ j) ∨ (x = 400 ∧ 769 ≤ j ∧ j < 1538) ∨ ((x = 401 ∨ x = 402) ∧ κ ≤ j) ∨ x = 418 ∨ (x = 395 ∧ ¬ ((26 ≤ j ∧ j ≤ 29) ∨ j = 33 ∨ j = 54 ∨ j = 60 ∨ j = 66 ∨ (82 ≤ j ∧ j ≤ 84)))) → hI t' x j = hI t x j
def kpV (κ p m : Nat) (h h' : hS) : Prop := hN h ≤ hN h' ∧ (∀ x, 448 ≤ x → x < hN h → hT h' x = hT h x ∧ (∀ j, hR h' x j = hR h x j) ∧ (hT h x ≠ 26 → (∀ j : Int, 0 ≤ j → j < m → x ≠ kd h p j + 5) → sm h h' x)) ∧ (sm h h' 213 ∧ sm h h' 214 ∧ sm h h' 6) ∧ (∀ j, j < κ → hR h' 50 j = hR h 50 j) ∧ (hI h' 48 9 = hI h 48 9 ∧ hR h' 48 7 = hR h 48 7 ∧ hR h' 48 8 = hR h 48 8)
def kpU (t t' : hS) : Prop := (hI t' 395 27 = hI t 395 27 ∧ hI t' 395 29 = hI t 395 29) ∧ (∀ v g : Int, 0 ≤ v → v < 12 → 0 ≤ g → g < 64 → ¬ (35 ≤ g ∧ g < 39) → wg t' 0 v g = wg t 0 v g) ∧ (∀ v g : Int, 0 ≤ v → v < 12 → 0 ≤ g → g < 64 → wg t' 2 v g = wg t 2 v g) ∧ wm t' 2 = wm t 2
section CGA
variable {h h' t t' : hS} {K K' : Nat → Int → Prop} {P p m m0 q k κ N0 N1 : Nat} {r r0 : Int → Nat} {G : Int} {R0 R1 : Nat → Nat}
theorem kv_kd (a : kpV κ P m h h') (hp : (p = 213 ∨ 448 ≤ p) ∧ p + 1 < hN h) (T : hT h (p + 1) = 17) (nk : ∀ j : Int, 0 ≤ j → j < m → KD h (kd h P j)) : ∀ u : Int, kd h' p u = kd h p u := fun u => by
  unfold kd
  split
  · rfl
  · rcases hp.1 with e | e
    · rw [e]
      exact a.2.2.1.2.1.2.1 _
    · exact (a.2.1 (p + 1) (by omega) hp.2).2.1 _
theorem BK_v (Pw : PW h t K P 0 m r) (P448 : P = 213 ∨ 448 ≤ P) (Q : BKq h t K P m p m0 r0 G) (a : kpV κ P m h h') (b : kpU t t') : BKq h' t' K P m p m0 r0 G := by
  obtain ⟨Pw2, T2, C2, hp, FF, KO0, ⟨pP, k1, k2⟩, kk⟩ := Q
  obtain ⟨a1, a2, ⟨a3, a4, -⟩, -, -⟩ := id a
  obtain ⟨-, b4, b5, b6⟩ := id b
  have W := Pw.1
  have W2 := Pw2.1
  have hm := W.2.1
  have hm0 := W2.2.1
  obtain ⟨P1, P2, P3, P4, P5, P6, P7⟩ := Pw.2.1
  obtain ⟨p1, p2, p3, p4, p5, p6, p7⟩ := Pw2.2.1
  have kP : ∀ u : Int, kd h' P u = kd h P u := kv_kd a ⟨P448, P2⟩ P5 (fun j j0 j1 => (Pw.2.2.1 j j0 j1).1)
  have kp : ∀ u : Int, kd h' p u = kd h p u := kv_kd a ⟨hp, p2⟩ p5 (fun j j0 j1 => (Pw.2.2.1 j j0 j1).1)
  have nst : ∀ x, x < P → ∀ j : Int, 0 ≤ j → j < m → x ≠ kd h P j + 5 := fun x hx j j0 j1 z => by have := k2 j j0 j1; omega
  have sp : sm h h' p := by
    rcases hp with e | e
    · rw [e]; exact a3
    · exact (a2 p e (by omega)).2.2 (by omega) (nst p (by omega))
  have sp1 : sm h h' (p + 1) := by
    rcases hp with e | e
    · rw [e]; exact a4
    · exact (a2 (p + 1) (by omega) p2).2.2 (by omega) (nst _ (by omega))
  have ek : ∀ j : Int, 0 ≤ j → j < m0 → ∀ o, o ≤ 12 → sm h h' (kd h p j + o) := fun j j0 j1 o ho => by
    have Q := (Pw2.2.2.1 j j0 j1).1
    have := (k1 j j0 j1).1
    exact (a2 _ (by have := Q.1; omega) (by have := Q.2.1; omega)).2.2 (KD_26 Q ho) (nst _ (by omega))
  have e2 : ∀ v g : Int, 0 ≤ v → v < m0 → 0 ≤ g → g < 64 → wg t' 2 v g = wg t 2 v g := fun v g v0 v1 g0 g1 => b5 v g v0 (by omega) g0 g1
  have e0 : ∀ v g : Int, 0 ≤ v → v < m → 0 ≤ g → g < 64 → ¬ (35 ≤ g ∧ g < 39) → wg t' 0 v g = wg t 0 v g := fun v g v0 v1 g0 g1 n => b4 v g v0 (by omega) g0 g1 n
  have ax2 : agx 2 2 m0 t t' := fun k f k0 k1 f0 f1 _ => e2 k f k0 k1 f0 f1
  have ax0 : agx 0 0 m t t' := fun k f k0 k1 f0 f1 n => e0 k f k0 k1 f0 f1 (by omega)
  refine ⟨PW_l2 Pw2 sp sp1 ek a1 e2 b6, TB_l2 W2 T2 kp (fun j j0 j1 o _ ho => ⟨(ek j j0 j1 o ho).1, (ek j j0 j1 o ho).2.1⟩) e2, CF_x ax2 W2 C2, hp, fun j j0 j1 i hi => ?_, fun j j0 j1 => ?_, ⟨pP, fun j j0 j1 => by rw [kp, e2 j 2 j0 j1 (by omega) (by omega)]; exact k1 j j0 j1, fun j j0 j1 => by rw [kP]; exact k2 j j0 j1⟩, fun x v hx j j0 j1 => by rw [kp]; exact kk x v hx j j0 j1⟩
  · have w5 := (W.2.2 j j0 j1).2.2.1
    have Qj := (Pw.2.2.1 j j0 j1).1
    rw [e0 j 5 j0 j1 (by omega) (by omega) (by omega)] at hi
    rw [e0 j _ j0 j1 (by omega) (by omega) (by omega), kP, ((a2 (kd h P j + 3) (by have := Qj.1; omega) (by have := Qj.2.1; omega)).2.2 (KD_26 Qj (by omega)) (fun u u0 u1 z => ?_)).1]
    · exact FF j j0 j1 i hi
    · have Qu := (Pw.2.2.1 u u0 u1).1
      by_cases y : kd h P j = kd h P u
      · omega
      · have := KD_d Qj Qu y
        omega
  · obtain ⟨x1, x2, x3⟩ := KO0 j j0 j1
    have w5 := (W.2.2 j j0 j1).2.2.1
    refine ⟨KOg_l2 W2 x1 j0 w5.2 hm0 (fun g g0 g1 => e0 j g j0 j1 g0 (by omega) (by omega)) e2, by rw [e0 j 3 j0 j1 (by omega) (by omega) (by omega), e0 j 2 j0 j1 (by omega) (by omega) (by omega)]; exact x2, fun z n => ?_⟩
    rw [e0 j 3 j0 j1 (by omega) (by omega) (by omega)] at z
    have b4' : wg t 0 j 4 = -1 ∨ (0 ≤ wg t 0 j 4 ∧ wg t 0 j 4 < m0) := by
      rw [x1.1]
      rcases ix_b (fun k : Nat => wg t 2 (k : Int) 0) (wg t 0 j 0) m0 with y | ⟨y, y1, y2, -⟩
      · exact .inl y
      · rw [y1]
        exact .inr ⟨by omega, by omega⟩
    rw [e0 j 4 j0 j1 (by omega) (by omega) (by omega), fAt_x ax2 W2 b4', fAt_x ax0 W (.inr ⟨j0, j1⟩)]
    exact x3 z n
theorem LT_v (Pw : PW h t K P 0 m r) (P448 : P = 213 ∨ 448 ≤ P) (Q : LTq h t K P m κ G R0 R1) (a : kpV κ P m h h') (b : kpU t t') : LTq h' t' K P m κ G R0 R1 := by
  rcases Q with ⟨q1, q2⟩ | ⟨l, p, m0, r0, q1, q2, q3, q4, q5, q6⟩
  · exact .inl ⟨by rw [b.1.2]; exact q1, by rw [a.2.2.2.2.2.1]; exact q2⟩
  · have kp : ∀ u : Int, kd h' p u = kd h p u := kv_kd a ⟨q5.2.2.2.1, q5.1.2.1.2.1⟩ q5.1.2.1.2.2.2.2.1 (fun j j0 j1 => (Pw.2.2.1 j j0 j1).1)
    exact .inr ⟨l, p, m0, r0, q1, by rw [b.1.2]; exact q2, by rw [a.2.2.2.2.2.1, a.2.2.2.1 l q1]; exact q3, by rw [a.2.2.2.2.2.2]; exact q4, BK_v Pw P448 q5 a b, fun k hk j j0 j1 => by rw [kp]; exact q6 k hk j j0 j1⟩
theorem ig_s (a : igH κ h h') {x : Nat} (hx : x < hN h) (z : x ≤ 7 ∨ (18 ≤ x ∧ x < 395 ∧ x ≠ 20 ∧ x ≠ 48 ∧ x ≠ 50) ∨ 448 ≤ x) : sm h h' x := by
  obtain ⟨⟨a1, a2⟩, a3, a4⟩ := a.2 x hx (by omega)
  exact ⟨fun j => a4 j (by omega), fun j => a3 j (by omega), a1, a2⟩
theorem ig_n (b : igT κ t t') {tx : Nat} (ht : tx ≤ κ) {i j : Nat} (hi : i < 1200) (hj : j < 5) : ntx t' tx i j = ntx t tx i j := by
  unfold ntx
  exact b 399 _ (by omega) (by omega) (by omega)
theorem ig_w (b : igT κ t t') {w v g : Int} (hw : w = 0 ∨ w = 2) (v0 : 0 ≤ v) (v1 : v < 12) (g0 : 0 ≤ g) (g1 : g < 64) : wg t' w v g = wg t w v g := b 400 _ (by omega) (by omega) (by omega)
theorem ig_m (b : igT κ t t') {w : Int} (hw : w = 0 ∨ w = 2) : wm t' w = wm t w := b 400 _ (by omega) (by omega) (by omega)
theorem PW_mK {w : Int} (Pw : PW h t K p w m r) (hK : ∀ x v, K x v → K' x v) : PW h t K' p w m r := ⟨Pw.1, Pw.2.1, fun j j0 j1 => by
  obtain ⟨a, b, c, d, e, f, g1, g2⟩ := Pw.2.2.1 j j0 j1
  exact ⟨a, b, c, d, e, f, g1, fun i hi => ⟨(g2 i hi).1, hK _ _ (g2 i hi).2.1, (g2 i hi).2.2⟩⟩, Pw.2.2.2⟩
theorem SHc_i {a c : Nat} (S : SHc h a c) (s : ∀ o, o ≤ 3 → sm h h' (a + o)) : SHc h' a c := by
  obtain ⟨a1, a2, a3, a4, a5, a6, a7⟩ := S
  have s0 := s 0 (by omega)
  rw [Nat.add_zero] at s0
  have s1 := s 1 (by omega)
  have s2 := s 2 (by omega)
  have s3 := s 3 (by omega)
  exact ⟨by rw [s0.2.2.1]; exact a1, by rw [s0.2.1]; exact a2, by rw [s0.2.1]; exact a3, by rw [s0.2.1]; exact a4, by rw [s1.2.2.1, s2.2.2.1, s3.2.2.1]; exact a5, by rw [s1.2.2.2, s2.2.2.2, s3.2.2.2]; exact a6, by rw [s0.1]; exact a7⟩
theorem kd_i (a : igH κ h h') (hp : p = 213 ∨ 448 ≤ p) (pN : p + 1 < hN h) (v : Int) : kd h' p v = kd h p v := by
  unfold kd
  split
  · rfl
  · exact (ig_s a pN (by omega)).2.1 _
theorem RT_i (R : RT h t K p m q r) (h448 : 448 ≤ hN h) (a : igH κ h h') (b : igT κ t t') (hK : ∀ x v, K x v → K' x v) (hK' : ∀ x v, K' x v → K x v ∨ (hN h ≤ x ∧ x < hN h' ∧ hT h' x = 1)) : RT h' t' K' p m q r := by
  obtain ⟨S, Pw, T, C, hp, D⟩ := R
  have W := Pw.1
  have hm := W.2.1
  have pN := Pw.2.1.2.1
  have hk := kd_i a hp pN
  have ek : ∀ j : Int, 0 ≤ j → j < m → ∀ o, o ≤ 12 → sm h h' (kd h p j + o) := fun j j0 j1 o ho => by
    have Q := (Pw.2.2.1 j j0 j1).1
    exact ig_s a (by have := Q.2.1; omega) (by have := Q.1; omega)
  have w0 : ∀ v g : Int, 0 ≤ v → v < m → 0 ≤ g → g < 64 → wg t' 0 v g = wg t 0 v g := fun v g v0 v1 g0 g1 => ig_w b (.inl rfl) v0 (by omega) g0 g1
  have ax : agx 0 0 m t t' := fun k f k0 k1 f0 f1 _ => w0 k f k0 k1 f0 f1
  have sc : ∀ x, 19 ≤ x → x < 395 → x ≠ 20 → x ≠ 48 → x ≠ 50 → sm h h' x := fun x x1 x2 x3 x4 x5 => ig_s a (by omega) (by omega)
  have PW' : PW h' t' K p 0 m r := PW_l2 Pw (ig_s a (by omega) (by omega)) (ig_s a pN (by omega)) ek a.1 w0 (ig_m b (.inl rfl))
  refine ⟨⟨fun c c40 => ⟨by rw [(sc 19 (by omega) (by omega) (by omega) (by omega) (by omega)).2.1]; exact (S.1 c c40).1, SHc_i (S.1 c c40).2 (fun o ho => sc _ (by omega) (by omega) (by omega) (by omega) (by omega))⟩, fun c c40 => ⟨by rw [(sc 49 (by omega) (by omega) (by omega) (by omega) (by omega)).2.1]; exact (S.2 c c40).1, SHc_i (S.2 c c40).2 (fun o ho => sc _ (by omega) (by omega) (by omega) (by omega) (by omega))⟩⟩, PW_mK PW' hK, TB_l2 W T hk (fun j j0 j1 o _ ho => ⟨(ek j j0 j1 o ho).1, (ek j j0 j1 o ho).2.1⟩) w0, ⟨by rw [(a.2 8 (by omega) (by omega)).2.2 8 (by omega)]; exact C.1, by rw [b 395 33 (by omega) (by omega) (by omega)]; exact C.2.1, C.2.2.1, fun c c40 => ?_⟩, hp, fun x v hx => ?_⟩
  · obtain ⟨r1, r2, r3, r4⟩ := C.2.2.2 c c40
    have e := fun o (ho : o ≤ 3) => sc (215 + 4 * c + o) (by omega) (by omega) (by omega) (by omega) (by omega)
    have e0 := e 0 (by omega)
    rw [Nat.add_zero] at e0
    rw [e0.1, b 403 c (by omega) (by omega) (by omega)]
    refine ⟨r1, r2, r3, fun z => ?_⟩
    obtain ⟨⟨k0, k1, k2⟩, kv⟩ := r4 z
    have e4 : hI t' 404 c = hI t 404 c := b 404 c (by omega) (by omega) (by omega)
    refine ⟨⟨by rw [e4]; exact k0, by rw [e4]; exact k1, by rw [e0.2.1, e4, hk]; exact k2⟩, fun n hn => ?_⟩
    rw [e4, fAt_x ax W (.inr ⟨k0, k1⟩), (e 1 (by omega)).1, (e 2 (by omega)).1, (e 3 (by omega)).1, b 405 _ (by omega) (by omega) (by omega), b 406 _ (by omega) (by omega) (by omega), b 407 _ (by omega) (by omega) (by omega)]
    exact kv n hn
  · rcases hK' x v hx with z | ⟨z1, z2, z3⟩
    · obtain ⟨⟨d1, d2, d3⟩, d4⟩ := D x v z
      exact ⟨⟨d1, by have := a.1; omega, by rw [(ig_s a d2 (by omega)).2.2.1]; exact d3⟩, fun j j0 j1 => by rw [hk]; exact d4 j j0 j1⟩
    · refine ⟨⟨by omega, z2, z3⟩, fun j j0 j1 => ?_⟩
      rw [hk]
      have := (Pw.2.2.1 j j0 j1).1.2.1
      omega
theorem CT_i (C : CT h t K κ) (a : igH κ h h') (b : igT κ t t') : CT h' t' K κ := fun x v hx => by
  obtain ⟨c1, c2, c3, tx, fn, D, c4, c5, c6, c7, c8⟩ := C x v hx
  obtain ⟨s1, s2, s3, s4⟩ := ig_s a c2 (.inr (.inr c1))
  exact ⟨c1, by have := a.1; omega, by rw [s3]; exact c3, tx, fn, D, c4, BK_c1 c5 (fun i hi j hj => ig_n b c4 hi hj), c6, by rw [s4]; exact c7, fun i z hz => by rw [s1]; exact c8 i z hz⟩
theorem KD_i (a : igH κ h h') {y : Nat} (Q : KD h y) : KD h' y ∧ ∀ o, o ≤ 12 → sm h h' (y + o) := by
  have s : ∀ o, o ≤ 12 → sm h h' (y + o) := fun o ho => ig_s a (by have := Q.2.1; omega) (by have := Q.1; omega)
  have s0 := s 0 (by omega)
  rw [Nat.add_zero] at s0
  refine ⟨⟨Q.1, by have := Q.2.1; have := a.1; omega, by rw [s0.2.2.1]; exact Q.2.2.1, fun e he => ?_⟩, s⟩
  obtain ⟨y1, y2, y3⟩ := Q.2.2.2 e he
  have h12 : e.2.1 ≤ 12 := by
    have : ∀ e ∈ karL, e.2.1 ≤ 12 := by decide
    exact this e he
  have se := s _ h12
  exact ⟨by rw [s0.2.1]; exact y1, by rw [se.2.2.1]; exact y2, by rw [se.2.2.2]; exact y3⟩
theorem ACH_m {n : Nat} {B N G : Nat → Int} (hK : ∀ x v, K x v → K' x v) : ∀ {k a j : Nat}, ACH h K n B N G k a j → ACH h K' n B N G k a j
  | 0, _, _, q => q
  | k + 1, a, j, ⟨x1, x2, x3, x4, x5⟩ => ⟨x1, hK _ _ x2, x3, x4, x5.elim .inl (fun y => .inr ⟨y.1, ACH_m hK y.2⟩)⟩
theorem SFX_i {l x κ' : Nat} (Q : SFX h t κ l x) (e : κ ≤ κ') (b : igT κ t t') (hx : ∀ j, hI h' x j = hI h x j) (hl : hL h' x = hL h x) (e4 : hI h' (376 + 2 * l) 4 = hI h (376 + 2 * l) 4) : SFX h' t' κ' l x := by
  obtain ⟨tx, L, f, qq, C, h1, h2, h3, h4, h5, h6, h7, h8, h9⟩ := Q
  have n : ∀ i, i < 1200 → ∀ j, j < 5 → ntx t' tx i j = ntx t tx i j := fun i hi j hj => ig_n b h1 hi hj
  refine ⟨tx, L, f, qq, C, by omega, LK_cg h2 (fun i hi => n i (h3 i hi) 4 (by omega)), h3, BL_im h4 (fun q i S hi hS => SS_cg hS (fun t ht j hj => n t (by have := h3 i hi; omega) j (by omega)) (fun j hj => n i (h3 i hi) j (by omega)) (fun q f C hB => BK_c1 hB (fun t ht j hj => n t (by have := h3 i hi; omega) j hj))), fun j v hj => by rw [hx]; exact h5 j v hj, by rw [hl]; exact h6, by rw [e4]; exact h7, by rw [b 429 l (by omega) (by omega) (by omega)]; exact h8, by rw [b 432 l (by omega) (by omega) (by omega)]; exact h9⟩
theorem LL_i {κ' : Nat} (Ss : SL h) (La : LA h t) (LR : LRs h t K κ) (h448 : 448 ≤ hN h) (D : ∀ x v, K x v → 448 ≤ x ∧ x < hN h) (e : κ ≤ κ') (a : igH κ h h') (b : igT κ t t') (hK : ∀ x v, K x v → K' x v) : SL h' ∧ LA h' t' ∧ LRs h' t' K' κ' := by
  have s : ∀ x, 18 ≤ x → x < 395 → x ≠ 20 → x ≠ 48 → x ≠ 50 → sm h h' x := fun x x1 x2 x3 x4 x5 => ig_s a (by omega) (by omega)
  have ee : ∀ y j, 419 ≤ y → y ≤ 437 → hI t' y j = hI t y j := fun y j h1 h2 => b y j (by omega) (by omega) (by omega)
  refine ⟨fun l hl => ?_, fun l hl => ?_, fun l hl z => ?_⟩
  · obtain ⟨a1, a2, a3, a4⟩ := Ss l hl
    have s1 := s (375 + 2 * l) (by omega) (by omega) (by omega) (by omega) (by omega)
    have s2 := s (376 + 2 * l) (by omega) (by omega) (by omega) (by omega) (by omega)
    exact ⟨by rw [(s 21 (by omega) (by omega) (by omega) (by omega) (by omega)).2.1]; exact a1, by rw [s1.2.2.1]; exact a2, by rw [s1.2.1]; exact a3, by rw [s2.2.2.1]; exact a4⟩
  · obtain ⟨x1, x2, x3, x4, x5, x6⟩ := La l hl
    have s1 := s (375 + 2 * l) (by omega) (by omega) (by omega) (by omega) (by omega)
    have s2 := s (376 + 2 * l) (by omega) (by omega) (by omega) (by omega) (by omega)
    unfold LA1
    rw [s1.1, s1.1, s1.1, s1.1, s1.1, s1.1, s2.2.1, ee 423 _ (by omega) (by omega), ee 424 _ (by omega) (by omega), ee 425 _ (by omega) (by omega), ee 430 _ (by omega) (by omega), ee 431 _ (by omega) (by omega), ee 432 _ (by omega) (by omega), ee 437 _ (by omega) (by omega)]
    refine ⟨x1, x2, x3, x4, x5, fun z => ?_⟩
    obtain ⟨y1, y2, y3, y4, y5, y6⟩ := x6 z
    obtain ⟨k1, k2⟩ := KD_i a y5
    have s0 := k2 0 (by omega)
    rw [Nat.add_zero] at s0
    exact ⟨y1, y2, y3, y4, k1, by rw [s0.1]; exact y6⟩
  · rw [ee 423 _ (by omega) (by omega)] at z
    obtain ⟨x, c, Q, X⟩ := LR l hl z
    obtain ⟨⟨q1, q2, q3, q4, q5, q6⟩, ⟨d1, d2, d3⟩, g1', g2', g3', n, k, ⟨n1, n2, n3⟩, n4, n5, n6, n7⟩ := Q
    have sx := ig_s a (D x _ n7).2 (.inr (.inr q3))
    have F9 := s (376 + 2 * l) (by omega) (by omega) (by omega) (by omega) (by omega)
    have sc := s (215 + 4 * c) (by omega) (by omega) (by omega) (by omega) (by omega)
    refine ⟨x, c, ⟨⟨by rw [F9.2.2.1]; exact q1, by rw [F9.2.1]; exact q2, q3, by rw [sx.2.2.1]; exact q4, by rw [sx.2.2.2]; exact q5, q6⟩, ⟨d1, by rw [F9.2.1]; exact d2, by rw [sc.1]; exact d3⟩, by rw [ee 426 _ (by omega) (by omega)]; exact g1', by rw [F9.1, ee 427 _ (by omega) (by omega)]; exact g2', by rw [F9.1, ee 428 _ (by omega) (by omega)]; exact g3', n, k, ⟨n1, by rw [F9.1]; exact n2, by rw [ee 434 _ (by omega) (by omega)]; exact n3⟩, by rw [ee 433 _ (by omega) (by omega)]; exact n4, n5, ?_, by rw [ee 435 _ (by omega) (by omega)]; exact hK _ _ n7⟩, SFX_i X e b sx.1 sx.2.2.2 (F9.1 4)⟩
    rw [F9.2.1]
    exact ACH_m hK (ACH_c n6 (fun a' Q' => by
      obtain ⟨z1, z2⟩ := KD_i a Q'
      exact ⟨z1, fun o ho _ => z2 o ho⟩) (fun u u1 u2 => ⟨ee 435 _ (by omega) (by omega), ee 436 _ (by omega) (by omega), ee 437 _ (by omega) (by omega)⟩))
/-- other texts don't matter to a kept patch -/
theorem PK_n (Q : PKq h t K k N0 N1) (e401 : hI t' 401 k = hI t 401 k) (nt : ∀ i, i < 1200 → ∀ j, j < 5 → ntx t' (k + 1) i j = ntx t (k + 1) i j) : PKq h t' K k N0 N1 := by
  obtain ⟨⟨n1, n2, n3⟩, S, A, qq, us, Lc, f, q1, q2, q3, q4, q5, q6, q7, q8, q9⟩ := Q
  have hus : ∀ x ∈ us, N0 ≤ x ∧ x < N1 := fun x hx => by
    obtain ⟨i, hi⟩ := List.getElem?_of_mem hx
    obtain ⟨-, x2, x3, -⟩ := q2.2.2.2 i x hi
    exact ⟨x2, x3⟩
  refine ⟨⟨n1, n2, n3⟩, S, A, qq, us, Lc, f, q1, q2, q3, q4, by rw [e401]; exact q5, LK_cg q6 (fun i hi => nt i (q7 i hi) 4 (by omega)), q7, CHS_im (fun c i ys hi hy Q => CH_c Q (fun t ht j hj => nt t (by have := q7 i hi; omega) j (by omega)) (fun t _ ht j hj => nt t (by have := q7 i hi; omega) j hj) (fun j hj => nt i (q7 i hi) j (by omega)) KP_rf n1 (fun x hx => hus x (hy x hx))) q8, fun y hy => ⟨(q9 y hy).1, (q9 y hy).2.1, fun lo i f hi B => (q9 y hy).2.2 lo i f hi (BDc_n B (fun t ht j hj => (nt t (by omega) j (by omega)).symm) (fun t _ ht j hj => (nt t (by omega) j hj).symm))⟩⟩
theorem PKs_i (Q : PKs h t K p m κ R0 R1) (h448 : 448 ≤ hN h) (hp : p = 213 ∨ 448 ≤ p) (pN : p + 1 < hN h) (a : igH κ h h') (b : igT κ t t') (hK : ∀ x v, K x v → K' x v) : PKs h' t' K' p m κ R0 R1 := fun k hk => by
  obtain ⟨q1, q2, q3⟩ := Q k hk
  have n := q1.1
  have e50 : hR h' 50 k = hR h 50 k := (a.2 50 (by omega) (by omega)).2.1 k (by omega)
  have Q1 := PK_n (t' := t') q1 (b 401 k (by omega) (by omega) (by omega)) (fun i hi j hj => ig_n b (by omega) hi hj)
  refine ⟨PK_b Q1 (fun y y0 y1 => ?_) (ig_s a (by omega) (by omega)) ?_ rfl (fun _ => rfl) (by have := a.1; omega) hK, by rw [e50]; exact ⟨q2.1, by have := a.1; omega⟩, fun j j0 j1 => by rw [kd_i a hp pN]; exact q3 j j0 j1⟩
  · have s := ig_s a (show y < hN h by omega) (.inr (.inr (by omega)))
    exact ⟨s.2.2.1, fun _ => s⟩
  · rw [e50]
    exact (ig_s a q2.2 (.inr (.inr q2.1))).2.1 0
theorem BK_mK (Q : BKq h t K P m p m0 r0 G) (hK : ∀ x v, K x v → K' x v) (n : ∀ x v, K' x v → K x v ∨ ∀ j : Int, 0 ≤ j → j < m0 → kd h p j + 13 ≤ x) : BKq h t K' P m p m0 r0 G := by
  obtain ⟨x1, x2, x3, x4, x5, x6, x7, x8⟩ := Q
  refine ⟨PW_mK x1 hK, x2, x3, x4, x5, x6, x7, fun x v hx j j0 j1 => ?_⟩
  rcases n x v hx with z | z
  · exact x8 x v z j j0 j1
  · exact .inr (z j j0 j1)
theorem LT_i (Pw : PW h t K P 0 m r) (P448 : P = 213 ∨ 448 ≤ P) (Q : LTq h t K P m κ G R0 R1) (h448 : 448 ≤ hN h) (a : igH κ h h') (b : igT κ t t') (hK : ∀ x v, K x v → K' x v) (hK' : ∀ x v, K' x v → K x v ∨ hN h ≤ x) : LTq h' t' K' P m κ G R0 R1 := by
  have av : kpV κ P m h h' := ⟨a.1, fun x x1 x2 => by
    have s := ig_s a x2 (.inr (.inr x1))
    exact ⟨s.2.2.1, s.2.1, fun _ _ => s⟩, ⟨ig_s a (by omega) (by omega), ig_s a (by omega) (by omega), ig_s a (by omega) (by omega)⟩, fun j hj => (a.2 50 (by omega) (by omega)).2.1 j (by omega), ⟨(a.2 48 (by omega) (by omega)).2.2 9 (by omega), (a.2 48 (by omega) (by omega)).2.1 7 (by omega), (a.2 48 (by omega) (by omega)).2.1 8 (by omega)⟩⟩
  have bu : kpU t t' := ⟨⟨b 395 27 (by omega) (by omega) (by omega), b 395 29 (by omega) (by omega) (by omega)⟩, fun v g v0 v1 g0 g1 _ => ig_w b (.inl rfl) v0 v1 g0 g1, fun v g v0 v1 g0 g1 => ig_w b (.inr rfl) v0 v1 g0 g1, ig_m b (.inr rfl)⟩
  have hPN := Pw.2.1.2.1
  rcases LT_v Pw P448 Q av bu with z | ⟨l, p, m0, r0, q1, q2, q3, q4, q5, q6⟩
  · exact .inl z
  · refine .inr ⟨l, p, m0, r0, q1, q2, q3, q4, BK_mK q5 hK (fun x v hx => ?_), q6⟩
    rcases hK' x v hx with z | z
    · exact .inl z
    · refine .inr (fun j j0 j1 => ?_)
      have := (q5.2.2.2.2.2.2.1.2.1 j j0 j1).1
      omega
end CGA
