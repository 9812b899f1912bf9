/-! a patch is made: the chain of a kind, in both -/
def upn (t : hS) (w k : Int) : Nat → Int
  | 0 => k
  | i + 1 => wg t w (upn t w k i) 1
/-- k has so many above it, with itself -/
def chq (t : hS) (w k : Int) (m len : Nat) : Prop := (1 ≤ len ∧ len ≤ 12) ∧ (∀ i, i < len → 0 ≤ upn t w k i ∧ upn t w k i < m) ∧ upn t w k len = -1
/-- what the creatures' carrying changes -/
def cyL (h h' : hS) : Prop := (hJ h' = hJ h ∧ hT h' = hT h ∧ hL h' = hL h ∧ hN h' = hN h ∧ hM h' = hM h) ∧ (∀ x j, ¬ ((x = 24 ∧ (j = 0 ∨ j = 3)) ∨ x = 51 ∨ (53 ≤ x ∧ x < 213 ∧ j = 2 ∧ (x - 53) % 4 = 0)) → hR h' x j = hR h x j) ∧ ∀ x j, ¬ ((x = 22 ∧ (j = 5 ∨ j = 7 ∨ j = 8 ∨ j = 9)) ∨ x = 25 ∨ (x = 24 ∧ (j = 4 ∨ j = 5 ∨ j = 6)) ∨ x = 52 ∨ (53 ≤ x ∧ x < 213 ∧ ¬ ((x - 53) % 4 = 0 ∧ j ≠ 1)) ∨ (x = 48 ∧ 10 ≤ j ∧ j ≤ 12)) → hI h' x j = hI h x j
def cyM (t t' : hS) : Prop := fp (fun x j => (x = 395 ∧ (j = 39 ∨ j = 52 ∨ j = 54 ∨ j = 82 ∨ j = 83 ∨ j = 84)) ∨ x = 417 ∨ x = 440 ∨ x = 442 ∨ x = 444 ∨ x = 445 ∨ x = 446 ∨ (408 ≤ x ∧ x ≤ 410 ∧ j = 0)) t t'
/-- while creatures are carried -/
def cyH (h h' : hS) : Prop := (hJ h' = hJ h ∧ hT h' = hT h ∧ hL h' = hL h ∧ hN h' = hN h ∧ hM h' = hM h) ∧ (∀ x j, ¬ ((x = 24 ∧ (j = 0 ∨ j = 3)) ∨ x = 51 ∨ (53 ≤ x ∧ x < 213 ∧ j = 2 ∧ (x - 53) % 4 = 0)) → hR h' x j = hR h x j) ∧ ∀ x j, ¬ ((x = 22 ∧ (j = 5 ∨ j = 7 ∨ j = 8 ∨ j = 9)) ∨ x = 25 ∨ (x = 24 ∧ (j = 4 ∨ j = 5 ∨ j = 6)) ∨ x = 52 ∨ (53 ≤ x ∧ x < 213 ∧ ¬ ((x - 53) % 4 = 0 ∧ j ≠ 1))) → hI h' x j = hI h x j
def cyT (t t' : hS) : Prop := fp (fun x j => (x = 395 ∧ (j = 39 ∨ j = 52 ∨ j = 54)) ∨ x = 417 ∨ x = 440 ∨ x = 442 ∨ x = 444 ∨ x = 445 ∨ x = 446 ∨ (408 ≤ x ∧ x ≤ 410 ∧ j = 0)) t t'
section CHN
variable {h h' h0 h1 h2 t t' t1 : hS} {m m0 P p a c0 c len i : Nat} {r : Int → Nat} {w k n : Int} {K : Nat → Int → Prop}
theorem upn_s (t : hS) (w k : Int) : ∀ i, upn t w k (i + 1) = upn t w (wg t w k 1) i
  | 0 => rfl
  | i + 1 => by
    show wg t w (upn t w k (i + 1)) 1 = wg t w (upn t w (wg t w k 1) i) 1
    rw [upn_s t w k i]
theorem chq_e (W : WF t w m r) : ∀ (d : Nat) (k : Int), d ≤ 12 → 0 ≤ k → k < m → r k < d → ∃ len, (1 ≤ len ∧ len ≤ d) ∧ (∀ i, i < len → 0 ≤ upn t w k i ∧ upn t w k i < m) ∧ upn t w k len = -1 := by
  intro d
  induction d with
  | zero => intro k _ _ _ z; omega
  | succ d ih =>
    intro k hd k0 k1 hr
    rcases WF_ok W k ⟨k0, k1⟩ with z | ⟨⟨z0, z1⟩, z2⟩
    · refine ⟨1, ⟨by omega, by omega⟩, fun i hi => ?_, z⟩
      obtain rfl : i = 0 := by omega
      exact ⟨k0, k1⟩
    · obtain ⟨len, a1, a2, a3⟩ := ih (wg t w k 1) (by omega) z0 z1 (by omega)
      refine ⟨len + 1, ⟨by omega, by omega⟩, fun i hi => ?_, by rw [upn_s]; exact a3⟩
      cases i with
      | zero => exact ⟨k0, k1⟩
      | succ i =>
        rw [upn_s]
        exact a2 i (by omega)
theorem chq_i (W : WF t w m r) (hk : 0 ≤ k ∧ k < m) : ∃ len, chq t w k m len := by
  obtain ⟨len, a1, a2, a3⟩ := chq_e W 12 k (by omega) hk.1 hk.2 (W.2.2 k hk.1 hk.2).1
  exact ⟨len, a1, a2, a3⟩
/-- what is found climbing stands in the chain -/
theorem upn_f (W : WF t w m r) (Q : Int → Bool) : ∀ (len : Nat) (k : Int), (∀ i, i < len → 0 ≤ upn t w k i ∧ upn t w k i < m) → upn t w k len = -1 → clb Q (fun x => wg t w x 1) 13 k = -1 ∨ ∃ i, i < len ∧ clb Q (fun x => wg t w x 1) 13 k = upn t w k i ∧ Q (upn t w k i) = true
  | 0, k, _, e => by
    have e : k = -1 := e
    rw [e]
    exact .inl (clb_n _ _ 13)
  | len + 1, k, H, e => by
    obtain ⟨k0, k1⟩ := H 0 (by omega)
    have k0 : 0 ≤ k := k0
    have k1 : k < m := k1
    have st := clb_st W Q k0 k1
    by_cases c : Q k = true
    · rw [if_pos c] at st
      exact .inr ⟨0, by omega, st, c⟩
    · rw [if_neg c] at st
      rw [st]
      rcases upn_f W Q len (wg t w k 1) (fun i hi => by have := H (i + 1) (by omega); rw [upn_s] at this; exact this) (by rw [upn_s] at e; exact e) with z | ⟨i, z1, z2, z3⟩
      · exact .inl z
      · exact .inr ⟨i + 1, by omega, by rw [upn_s]; exact z2, by rw [upn_s]; exact z3⟩
/-- every kind of the chain is on the way -/
theorem upn_o (W : WF t w m r) {v : Int} : ∀ (i : Nat) (k : Int), (∀ j, j ≤ i → 0 ≤ upn t w k j ∧ upn t w k j < m) → upn t w k i = v → iU t w v k ≠ -1
  | 0, k, H, e => by
    obtain ⟨k0, k1⟩ := H 0 (by omega)
    have k0 : 0 ≤ k := k0
    have k1 : k < m := k1
    have e : k = v := e
    rw [iU_st W k0 k1, if_pos e]
    omega
  | i + 1, k, H, e => by
    obtain ⟨k0, k1⟩ := H 0 (by omega)
    have k0 : 0 ≤ k := k0
    have k1 : k < m := k1
    rw [iU_st W k0 k1]
    split
    · omega
    · exact upn_o W i (wg t w k 1) (fun j hj => by have := H (j + 1) (by omega); rw [upn_s] at this; exact this) (by rw [upn_s] at e; exact e)
/-- the field of a kind of the chain is found there -/
theorem fAt_c (W : WF t w m r) (C : CF t w m) (hc : chq t w k m len) (hi : i < len) {f : Nat} (hf : (f : Int) < wg t w (upn t w k i) 5) : fIx t w (upn t w k i) (wg t w (upn t w k i) (6 + f)) = (f : Int) ∧ fAt t w k (wg t w (upn t w k i) (6 + f)) = upn t w k i := by
  obtain ⟨u0, u1⟩ := hc.2.1 i hi
  have k01 := hc.2.1 0 (by omega)
  have k0 : 0 ≤ k := k01.1
  have k1 : k < m := k01.2
  obtain ⟨-, -, w3, -, -⟩ := W.2.2 _ u0 u1
  have e : fIx t w (upn t w k i) (wg t w (upn t w k i) (6 + f)) = (f : Int) := by
    unfold fIx
    exact ix_at (g := fun a : Nat => wg t w (upn t w k i) (6 + a)) (u := f) (by omega) (fun x y x1 y1 e => (C _ u0 u1).1 x y (by omega) (by omega) e)
  refine ⟨e, ?_⟩
  rw [fAt_iU W C u0 u1 (by rw [e]; omega) (.inr ⟨k0, k1⟩)]
  exact upn_o W i k (fun j hj => hc.2.1 j (by omega)) rfl
/-- a field found is one of the chain's -/
theorem fAt_d (W : WF t w m r) (hc : chq t w k m len) (h : fAt t w k n ≠ -1) : ∃ i f : Nat, i < len ∧ (f : Int) < wg t w (upn t w k i) 5 ∧ wg t w (upn t w k i) (6 + f) = n ∧ fAt t w k n = upn t w k i := by
  rcases upn_f W (fun u => decide (fIx t w u n ≠ -1)) len k hc.2.1 hc.2.2 with z | ⟨i, z1, z2, z3⟩
  · exact absurd z h
  · obtain ⟨u0, u1⟩ := hc.2.1 i z1
    have z3 := of_decide_eq_true z3
    obtain ⟨a1, a2, a3⟩ := fIx_lt W u0 u1 z3
    exact ⟨i, (fIx t w (upn t w k i) n).toNat, z1, by omega, by rw [show ((fIx t w (upn t w k i) n).toNat : Int) = fIx t w (upn t w k i) n by omega]; exact a3, z2⟩
theorem cyL_o (a : cyH h h') : cyL h h' := ⟨a.1, fun x j z => a.2.1 x j z, fun x j z => a.2.2 x j (by omega)⟩
theorem cyM_o (a : cyT t t') : cyM t t' := ⟨a.1, fun x j z => a.2 x j (by omega)⟩
theorem cyL_tr (p : cyL h h1) (q : cyL h1 h2) : cyL h h2 := ⟨⟨q.1.1.trans p.1.1, q.1.2.1.trans p.1.2.1, q.1.2.2.1.trans p.1.2.2.1, q.1.2.2.2.1.trans p.1.2.2.2.1, q.1.2.2.2.2.trans p.1.2.2.2.2⟩, fun x j z => (q.2.1 x j z).trans (p.2.1 x j z), fun x j z => (q.2.2 x j z).trans (p.2.2 x j z)⟩
theorem cyL_rf {a b c : Int} : cyL h (sI (sI (sI h 48 10 a) 48 11 b) 48 12 c) := ⟨⟨rfl, rfl, rfl, rfl, rfl⟩, fun x j _ => by rw [hR_sI, hR_sI, hR_sI], fun x j z => by rw [hI_sI, if_neg (by omega), hI_sI, if_neg (by omega), hI_sI, if_neg (by omega)]⟩
theorem cyM_rf {a b c : Int} : cyM t (sI (sI (sI t 395 82 a) 395 83 b) 395 84 c) := ⟨rfl, fun x j hx => by rw [hI_sI, if_neg (by omega), hI_sI, if_neg (by omega), hI_sI, if_neg (by omega)]⟩
theorem cyH_rf : cyH h h := ⟨⟨rfl, rfl, rfl, rfl, rfl⟩, fun _ _ _ => rfl, fun _ _ _ => rfl⟩
theorem cyH_tr (p : cyH h h1) (q : cyH h1 h2) : cyH h h2 := ⟨⟨q.1.1.trans p.1.1, q.1.2.1.trans p.1.2.1, q.1.2.2.1.trans p.1.2.2.1, q.1.2.2.2.1.trans p.1.2.2.2.1, q.1.2.2.2.2.trans p.1.2.2.2.2⟩, fun x j z => (q.2.1 x j z).trans (p.2.1 x j z), fun x j z => (q.2.2 x j z).trans (p.2.2 x j z)⟩
theorem cyH_w (q : wkq h h') : cyH h h' := ⟨q.1, fun x j z => q.2.1 x j (fun y => z (.inl y)), fun x j z => q.2.2 x j (by omega)⟩
theorem cyH_sI {y j : Nat} {v : Int} (hy : (y = 52 ∨ (53 ≤ y ∧ y < 213 ∧ ¬ ((y - 53) % 4 = 0 ∧ j ≠ 1)) ∨ False)) : cyH h (sI h y j v) := ⟨⟨rfl, rfl, rfl, rfl, rfl⟩, fun x i _ => hR_sI, fun x i z => by
  rw [hI_sI, if_neg]
  rintro ⟨rfl, rfl⟩
  rcases hy with hy | hy | hy
  · exact z (by omega)
  · exact z (by omega)
  · exact hy⟩
theorem cyH_sR {y j u : Nat} (hy : y = 51 ∨ (53 ≤ y ∧ y < 213 ∧ j = 2 ∧ (y - 53) % 4 = 0)) : cyH h (sR h y j u) := ⟨⟨rfl, rfl, rfl, rfl, rfl⟩, fun x i z => by
  rw [hR_sR, if_neg]
  rintro ⟨rfl, rfl⟩
  exact z (.inr hy), fun x i _ => hI_sR⟩
theorem cyT_e (f : fe 0 t t') : cyT t t' := ⟨f.1, fun x j z => f.2 x j (by omega)⟩
theorem cyT_r (f : frR t t') : cyT t t' := ⟨f.1, fun x j z => f.2 x j (by omega)⟩
theorem cyT_sI {y j : Nat} {v : Int} (hy : (y = 395 ∧ (j = 39 ∨ j = 52 ∨ j = 54)) ∨ y = 417 ∨ y = 440 ∨ y = 442 ∨ y = 444 ∨ y = 445 ∨ y = 446 ∨ (408 ≤ y ∧ y ≤ 410 ∧ j = 0)) : cyT t (sI t y j v) := fp_sI hy
theorem cyT_w (f : cyT t t') (w a b : Int) : wg t' w a b = wg t w a b := f.2 400 _ (by omega)
theorem cyT_n (f : cyT t t') (a b : Nat) : ntx t' c0 a b = ntx t c0 a b := f.2 399 _ (by omega)
theorem WF_cy (W : WF t w m r) (f : cyT t t') : WF t' w m r := by
  obtain ⟨w1, w2, w3⟩ := W
  refine ⟨by show hI t' 400 _ = _; rw [f.2 400 _ (by omega)]; exact w1, w2, fun k k0 k1 => ?_⟩
  rw [cyT_w f, cyT_w f, cyT_w f, cyT_w f]
  exact w3 k k0 k1
theorem cyH_s (q : cyH h h') (hp : p = 213 ∨ 448 ≤ p) : same (pnd h p) h h' := fun y hy => ⟨fun j => ⟨q.2.2 y j (by obtain ⟨hy, -⟩ := hy; omega), q.2.1 y j (by obtain ⟨hy, -⟩ := hy; omega)⟩, by rw [q.1.2.1], by rw [q.1.2.2.1]⟩
theorem PW_cy (Pw : PW h t K p w m r) (q : cyH h h') (f : cyT t t') (hp : p = 213 ∨ 448 ≤ p) : PW h' t' K p w m r := PW_cg Pw (cyH_s q hp) (by rw [q.1.2.2.2.1]; exact Nat.le_refl _) (fun k f' => cyT_w f w k f') (f.2 400 _ (by omega)) (fun _ _ z => z)
theorem kd_cy (Pw : PW h t K p w m r) (q : cyH h h') (hp : p = 213 ∨ 448 ≤ p) (u : Int) : kd h' p u = kd h p u := kd_cg Pw (cyH_s q hp) u
theorem TB_cy (Pw : PW h t K p 0 m r) (T : TB h t p 0 m) (q : cyH h h') (f : cyT t t') (hp : p = 213 ∨ 448 ≤ p) : TB h' t' p 0 m := TB_cg Pw T (cyH_s q hp) (fun k f' => cyT_w f 0 k f')
/-- what looking a name up rests on, for the creature that stands at a -/
theorem HN_g (S : SHc h a c0) (Pw : PW h t K p 0 m r) (T : TB h t p 0 m) (c40 : c < 40) (Q : C1a h t p m a c) (ha : 53 ≤ a ∧ a + 3 < 375) (hp : p = 213 ∨ 448 ≤ p) : ∀ h' t', chg (fun x => (20 ≤ x ∧ x ≤ 47) ∨ (375 ≤ x ∧ x < 395)) h h' → (∀ y j, y ≠ 395 → y ≠ 417 → hI t' y j = hI t y j) → NVq h' t' a c := fun h' t' q1 q2 => by
  have W : ∀ k f, wg t' 0 k f = wg t 0 k f := fun k f => q2 400 _ (by omega) (by omega)
  have en : hN h ≤ hN h' := by rw [q1.2.2.2.1]; exact Nat.le_refl _
  have sp : same (pnd h p) h h' := fun y hy => ⟨fun j => q1.2.2.2.2.2 y (by obtain ⟨hy, -⟩ := hy; omega) j, by rw [q1.2.1], by rw [q1.2.2.1]⟩
  have P' : PW h' t' K p 0 m r := PW_cg Pw sp en W (q2 400 _ (by omega) (by omega)) (fun _ _ z => z)
  have T' : TB h' t' p 0 m := TB_cg Pw T sp W
  obtain ⟨s1, s2, s3, s4, s5, s6, s7⟩ := S
  have S' : SHc h' a c0 := ⟨by rw [q1.2.1]; exact s1, by rw [(q1.2.2.2.2.2 _ (by omega) 3).2]; exact s2, by rw [(q1.2.2.2.2.2 _ (by omega) 4).2]; exact s3, by rw [(q1.2.2.2.2.2 _ (by omega) 5).2]; exact s4, by rw [q1.2.1]; exact s5, by rw [q1.2.2.1]; exact s6, by rw [(q1.2.2.2.2.2 _ (by omega) 0).1]; exact s7⟩
  refine NVg S' P' T' c40 ?_
  obtain ⟨⟨k0, k1, k2⟩, hv⟩ := Q
  have e4 : hI t' 404 c = hI t 404 c := q2 404 c (by omega) (by omega)
  refine ⟨⟨by rw [e4]; exact k0, by rw [e4]; exact k1, by rw [(q1.2.2.2.2.2 _ (by omega) 2).2, e4, kd_cg Pw sp]; exact k2⟩, fun n hn => ?_⟩
  obtain ⟨y1, y2, y3, y4⟩ := hv n hn
  rw [e4, fAt_cg W, (q1.2.2.2.2.2 _ (by omega) n).1, (q1.2.2.2.2.2 _ (by omega) n).1, (q1.2.2.2.2.2 _ (by omega) n).1, q2 405 _ (by omega) (by omega), q2 406 _ (by omega) (by omega), q2 407 _ (by omega) (by omega)]
  exact ⟨y1, y2, y3, y4⟩
/-- the class writes the chain down -/
theorem c157_l (Pw : PW h0 t K P w m r) (hp : P = 213 ∨ 448 ≤ P) (hc : chq t w k m len) : ∀ (D i N : Nat) (h : hS), i + D = len → D < N → cyH h0 h → (∀ j, j < i → hR h 51 j = kd h0 P (upn t w k j)) → ∃ h', lp (fun s => c157_b4 s.1 s.2.1 s.2.2) N ((i : Int), kd h0 P (upn t w k i), h) = some ((len : Int), h') ∧ cyH h0 h' ∧ (∀ x j, hI h' x j = hI h x j) ∧ (∀ x j, x ≠ 51 → hR h' x j = hR h x j) ∧ ∀ j, j < len → hR h' 51 j = kd h0 P (upn t w k j)
  | 0, i, N, h, hi, hN, q, H => by
    obtain ⟨N, rfl⟩ : ∃ n, N = n + 1 := ⟨N - 1, by omega⟩
    obtain rfl : i = len := by omega
    refine ⟨h, lp_d ?_, q, fun _ _ => rfl, fun _ _ _ => rfl, H⟩
    show c157_b4 (i : Int) (kd h0 P (upn t w k i)) h = _
    unfold c157_b4
    rw [hc.2.2, kd_m]
    refine bnd hnul_0 ?_
    rw [if_pos rfl]
  | D + 1, i, N, h, hi, hN, q, H => by
    obtain ⟨N, rfl⟩ : ∃ n, N = n + 1 := ⟨N - 1, by omega⟩
    obtain ⟨u0, u1⟩ := hc.2.1 i (by omega)
    have Qu := Pw.2.2.1 _ u0 u1
    have k8 := Qu.1.1
    obtain ⟨h1, e1⟩ : ∃ h1, h1 = sR h 51 i (kd h0 P (upn t w k i)) := ⟨_, rfl⟩
    have q1 : cyH h0 h1 := cyH_tr q (by rw [e1]; exact cyH_sR (.inl rfl))
    have T1 : hT h (kd h0 P (upn t w k i)) = 24 := by rw [q.1.2.1]; exact Qu.1.2.2.1
    obtain ⟨h', a1, a2, a3, a4, a5⟩ := c157_l Pw hp hc D (i + 1) N h1 (by omega) (by omega) q1 (fun j hj => by
      rw [e1, hR_sR]
      by_cases c : j = i
      · rw [if_pos ⟨rfl, c⟩, c]
      · rw [if_neg (fun z => c z.2)]
        exact H j (by omega))
    refine ⟨h', (lp_n (s' := (((i + 1 : Nat) : Int), kd h0 P (upn t w k (i + 1)), h1)) ?_).trans a1, a2, fun x j => by rw [a3, e1, hI_sR], fun x j hx => by rw [a4 x j hx, e1, hR_sR, if_neg (fun z => hx z.1)], a5⟩
    show c157_b4 (i : Int) (kd h0 P (upn t w k i)) h = _
    unfold c157_b4
    refine bnd (hnul_8 (by omega)) ?_
    rw [if_neg (by decide), if_neg (by have := hc.1.2; omega)]
    refine bnd (show wRs h 51 12 24 (i : Int) (kd h0 P (upn t w k i)) = some h1 from ?_) ?_
    · unfold wRs
      rw [if_pos ⟨⟨by omega, by have := hc.1.2; omega⟩, .inr T1⟩, Int.toNat_natCast, ← e1]
    · refine bnd (gR_s (by rw [q1.1.2.1]; exact Qu.1.2.2.1)) ?_
      rw [q1.2.1 _ _ (by omega), Qu.2.2.1, wadd_n (by have := hc.1.2; omega)]
      rfl
/-- the other side counts it and climbs it -/
theorem c285_33 (W : WF t 1 m r) (hc : chq t 1 k m len) : ∀ (D i N : Nat), i + D = len → D < N → lp (fun s => c285_b33 t s.1 s.2) N ((i : Int), upn t 1 k i) = some (len : Int)
  | 0, i, N, hi, hN => by
    obtain ⟨N, rfl⟩ : ∃ n, N = n + 1 := ⟨N - 1, by omega⟩
    obtain rfl : i = len := by omega
    refine lp_d ?_
    show c285_b33 t (i : Int) (upn t 1 k i) = _
    unfold c285_b33
    rw [if_pos hc.2.2]
  | D + 1, i, N, hi, hN => by
    obtain ⟨N, rfl⟩ : ∃ n, N = n + 1 := ⟨N - 1, by omega⟩
    obtain ⟨u0, u1⟩ := hc.2.1 i (by omega)
    have := W.2.1
    have := hc.1.2
    refine (lp_n (s' := (((i + 1 : Nat) : Int), upn t 1 k (i + 1))) ?_).trans (c285_33 W hc D (i + 1) N (by omega) (by omega))
    show c285_b33 t (i : Int) (upn t 1 k i) = _
    unfold c285_b33
    rw [if_neg (by omega)]
    refine bnd (c199_e (by omega) (by omega) u0 (by omega) (by omega) (by omega)) ?_
    rw [wadd_n (by omega)]
    rfl
theorem c285_66 (W : WF t 1 m r) (hc : chq t 1 k m len) {deep : Nat} (hd : 1 ≤ deep ∧ deep ≤ len) : ∀ (D i N : Nat), i + D = deep - 1 → D < N → lp (fun s => c285_b66 (deep : Int) t s.1 s.2) N (upn t 1 k i, ((i + 1 : Nat) : Int)) = some (upn t 1 k (deep - 1))
  | 0, i, N, hi, hN => by
    obtain ⟨N, rfl⟩ : ∃ n, N = n + 1 := ⟨N - 1, by omega⟩
    obtain rfl : i = deep - 1 := by omega
    refine lp_d ?_
    show c285_b66 (deep : Int) t (upn t 1 k (deep - 1)) (((deep - 1) + 1 : Nat) : Int) = _
    unfold c285_b66
    rw [if_pos (by omega)]
  | D + 1, i, N, hi, hN => by
    obtain ⟨N, rfl⟩ : ∃ n, N = n + 1 := ⟨N - 1, by omega⟩
    obtain ⟨u0, u1⟩ := hc.2.1 i (by omega)
    have := W.2.1
    have := hc.1.2
    refine (lp_n (s' := (upn t 1 k (i + 1), ((i + 1 + 1 : Nat) : Int))) ?_).trans (c285_66 W hc hd D (i + 1) N (by omega) (by omega))
    show c285_b66 (deep : Int) t (upn t 1 k i) ((i + 1 : Nat) : Int) = _
    unfold c285_b66
    rw [if_neg (by omega)]
    refine bnd (c199_e (by omega) (by omega) u0 (by omega) (by omega) (by omega)) ?_
    rw [wadd_n (by omega)]
    rfl
end CHN
