/-! put, create -/
theorem clb_more {P : Int → Bool} {up : Int → Int} {r : Int → Nat} {ok : Int → Prop} (h3 : ∀ u, ok u → up u = -1 ∨ (ok (up u) ∧ r (up u) < r u)) : ∀ (m : Nat) (u : Int), (u = -1 ∨ (ok u ∧ r u < m)) → clb P up (m + 1) u = clb P up (m + 2) u
  | 0, u, hu => by
    rcases hu with rfl | ⟨-, h⟩
    · rfl
    · omega
  | m + 1, u, hu => by
    show (if u = -1 then -1 else if P u = true then u else clb P up (m + 1) (up u)) = (if u = -1 then -1 else if P u = true then u else clb P up (m + 2) (up u))
    by_cases q : u = -1
    · rw [if_pos q, if_pos q]
    · rw [if_neg q, if_neg q]
      obtain ⟨hok, hr⟩ := hu.resolve_left q
      rw [clb_more h3 m (up u)]
      rcases h3 u hok with e | ⟨e1, e2⟩
      · exact .inl e
      · exact .inr ⟨e1, by omega⟩
section CRT
variable {hc hr : hS} {C : Nat → Int → Prop} {p m q : Nat} {w : Int} {r : Int → Nat}
theorem WF_ok (W : WF hr w m r) : ∀ u : Int, (0 ≤ u ∧ u < m) → wg hr w u 1 = -1 ∨ ((0 ≤ wg hr w u 1 ∧ wg hr w u 1 < m) ∧ r (wg hr w u 1) < r u) := by
  rintro u ⟨u0, u1⟩
  rcases (W.2.2 u u0 u1).2.1 with e | ⟨e1, e2, e3⟩
  · exact .inl e
  · exact .inr ⟨⟨e1, e2⟩, e3⟩
theorem clb_st (W : WF hr w m r) (P : Int → Bool) {u : Int} (u0 : 0 ≤ u) (u1 : u < m) : clb P (fun u => wg hr w u 1) 13 u = if P u = true then u else clb P (fun u => wg hr w u 1) 13 (wg hr w u 1) := by
  have e : clb P (fun u => wg hr w u 1) 12 (wg hr w u 1) = clb P (fun u => wg hr w u 1) 13 (wg hr w u 1) := by
    refine clb_more (r := r) (ok := fun u => 0 ≤ u ∧ u < (m : Int)) (WF_ok W) 11 _ ?_
    have hr12 := (W.2.2 u u0 u1).1
    rcases WF_ok W u ⟨u0, u1⟩ with e | ⟨e1, e2⟩
    · exact .inl e
    · exact .inr ⟨e1, by omega⟩
  show (if u = -1 then -1 else if P u = true then u else clb P _ 12 (wg hr w u 1)) = _
  rw [if_neg (by omega), e]
theorem fAt_m (h : hS) (w n : Int) : fAt h w (-1) n = -1 := rfl
theorem fAt_st (W : WF hr w m r) {u n : Int} (u0 : 0 ≤ u) (u1 : u < m) : fAt hr w u n = if fIx hr w u n ≠ -1 then u else fAt hr w (wg hr w u 1) n := by
  unfold fAt
  rw [clb_st W _ u0 u1]
  by_cases e : fIx hr w u n = -1
  · rw [if_neg (by simp [e]), if_neg (by simp [e])]
  · rw [if_pos (by simp [e]), if_pos (by simp [e])]
/-- each field once in a kind and in the kinds above it -/
def CL (hr : hS) (w : Int) (m : Nat) : Prop := ∀ j : Int, 0 ≤ j → j < m → (∀ a b : Nat, (a : Int) < wg hr w j 5 → (b : Int) < wg hr w j 5 → wg hr w j (6 + a) = wg hr w j (6 + b) → a = b) ∧ ∀ n, fIx hr w j n ≠ -1 → fAt hr w (wg hr w j 1) n = -1
/-- the fields' first values, of one kind -/
theorem c101_in {a k F c : Nat} {h : hS} (K : KD h k) (ha : a + 3 < 448) (S : SHc h a c) (hF : hI h k 4 = F) (hF8 : F ≤ 8) (hn : ∀ i : Nat, i < F → 0 ≤ hI h (k + 1) i ∧ hI h (k + 1) i < 40) : ∀ (m i N : Nat) (h1 : hS), i + m = F → m < N → fp (fun x _ => x = a + 1) h h1 → ∃ h2, lp (fun s => c101_b39 a k s.1 s.2) N ((i : Int), h1) = some h2 ∧ fp (fun x _ => x = a + 1) h h2 ∧ ∀ n : Nat, n < 40 → (∃ i' : Nat, i ≤ i' ∧ i' < F ∧ hI h (k + 1) i' = n ∧ hI h2 (a + 1) n = hI h (k + 2) i') ∨ ((∀ i' : Nat, i ≤ i' → i' < F → hI h (k + 1) i' ≠ n) ∧ hI h2 (a + 1) n = hI h1 (a + 1) n)
  | 0, i, N, h1, e1, e2, f1 => by
    obtain ⟨N, rfl⟩ : ∃ N1, N = N1 + 1 := ⟨N - 1, by omega⟩
    obtain ⟨k8, kn, kt, -⟩ := K
    have hT1 : hT h1 = hT h := by show h1.2.2.2.1 = h.2.2.2.1; rw [f1.1]
    have e4 : hI h1 k 4 = F := by rw [f1.2 k 4 (by omega)]; exact hF
    refine ⟨h1, lp_d ?_, f1, fun n hn => .inr ⟨fun i' a1 a2 => by omega, rfl⟩⟩
    show c101_b39 a k (i : Int) h1 = _
    unfold c101_b39
    rw [gI_s (by rw [hT1]; exact kt)]
    simp only [bsome]
    rw [e4, if_pos (by omega)]
  | m + 1, i, N, h1, e1, e2, f1 => by
    obtain ⟨N, rfl⟩ : ∃ N1, N = N1 + 1 := ⟨N - 1, by omega⟩
    have K' := K
    obtain ⟨k8, kn, kt, -⟩ := K
    have hT1 : hT h1 = hT h := by show h1.2.2.2.1 = h.2.2.2.1; rw [f1.1]
    have hR1 : hR h1 = hR h := by show h1.2.1 = h.2.1; rw [f1.1]
    have hL1 : hL h1 = hL h := by show h1.2.2.2.2.1 = h.2.2.2.2.1; rw [f1.1]
    obtain ⟨s2, s3, s4, s5, ⟨t1, t2, t3⟩, ⟨l1, l2, l3⟩, s6⟩ := S
    obtain ⟨x1, x2, x3⟩ := KD5 K'
    obtain ⟨y1, y2, y3⟩ := KD6 K'
    have e4 : hI h1 k 4 = F := by rw [f1.2 k 4 (by omega)]; exact hF
    have e5 : hI h1 (k + 1) i = hI h (k + 1) i := f1.2 (k + 1) i (by omega)
    have e6 : hI h1 (k + 2) i = hI h (k + 2) i := f1.2 (k + 2) i (by omega)
    obtain ⟨n0, n1⟩ := hn i (by omega)
    have step : c101_b39 a k (i : Int) h1 = some (.inl (((i + 1 : Nat) : Int), sI h1 (a + 1) (hI h (k + 1) i).toNat (hI h (k + 2) i))) := by
      unfold c101_b39
      rw [gI_s (by rw [hT1]; exact kt)]
      simp only [bsome]
      rw [e4, if_neg (by omega), gR_s (by rw [hT1]; exact s2)]
      simp only [bsome]
      rw [hR1, s3, gR_s (by rw [hT1]; exact kt)]
      simp only [bsome]
      rw [hR1, x1, aI_s (by rw [hT1]; exact x2) (by omega) (by rw [hL1, x3]; omega)]
      simp only [bsome, Int.toNat_natCast]
      rw [e5, gR_s (by rw [hT1]; exact kt)]
      simp only [bsome]
      rw [hR1, y1, aI_s (by rw [hT1]; exact y2) (by omega) (by rw [hL1, y3]; omega)]
      simp only [bsome, Int.toNat_natCast]
      rw [e6, wI_s (by rw [hT1]; exact t1) n0 (by rw [hL1, l1]; omega)]
      simp only [bsome]
      rw [wadd_e (by omega) (by omega)]
      rfl
    obtain ⟨h2, g1, g2, g3⟩ := c101_in (c := c) K' ha ⟨s2, s3, s4, s5, ⟨t1, t2, t3⟩, ⟨l1, l2, l3⟩, s6⟩ hF hF8 hn m (i + 1) N (sI h1 (a + 1) (hI h (k + 1) i).toNat (hI h (k + 2) i)) (by omega) (by omega) (fp_tr f1 (fp_sI rfl))
    refine ⟨h2, by rw [lp_n (s' := (((i + 1 : Nat) : Int), sI h1 (a + 1) (hI h (k + 1) i).toNat (hI h (k + 2) i))) step]; exact g1, g2, fun n hn40 => ?_⟩
    rcases g3 n hn40 with ⟨i', a1, a2, a3, a4⟩ | ⟨a1, a2⟩
    · exact .inl ⟨i', by omega, a2, a3, a4⟩
    · rw [hI_sI] at a2
      by_cases c : hI h (k + 1) i = n
      · refine .inl ⟨i, by omega, by omega, c, ?_⟩
        rw [a2, if_pos ⟨rfl, by omega⟩]
      · refine .inr ⟨fun i' b1 b2 => ?_, ?_⟩
        · by_cases d : i' = i
          · rw [d]; exact c
          · exact a1 i' (by omega) b2
        · rw [a2, if_neg (fun d => c (by omega))]
/-- the first value of the field n of a creature of the kind u -/
def fV (hr : hS) (w u n : Int) : Int := wg hr w (fAt hr w u n) (14 + fIx hr w (fAt hr w u n) n)
/-- the fields' first values, of a kind and those above it -/
theorem c101_ch {a c : Nat} (P : PW hc hr C p w m r) (L : CL hr w m) (ha : a + 3 < 448) (hap : a + 1 ≠ p ∧ a + 1 ≠ p + 1) (S : SHc hc a c) : ∀ (d N : Nat) (u : Int) (h1 : hS), (u = -1 ∨ ((0 ≤ u ∧ u < m) ∧ r u < d)) → d < N → fp (fun x _ => x = a + 1) hc h1 → ∃ h2, lp (fun s => c101_b33 a s.1 s.2) N (kd hc p u, h1) = some h2 ∧ fp (fun x _ => x = a + 1) hc h2 ∧ ∀ n : Nat, n < 40 → hI h2 (a + 1) n = if fAt hr w u n = -1 then hI h1 (a + 1) n else fV hr w u n
  | 0, N, u, h1, hu, e2, f1 => by
    obtain ⟨N, rfl⟩ : ∃ N1, N = N1 + 1 := ⟨N - 1, by omega⟩
    obtain rfl : u = -1 := by
      rcases hu with q | ⟨-, q⟩
      · exact q
      · omega
    exact ⟨h1, lp_d rfl, f1, fun n hn => by rw [fAt_m, if_pos rfl]⟩
  | d + 1, N, u, h1, hu, e2, f1 => by
    obtain ⟨N, rfl⟩ : ∃ N1, N = N1 + 1 := ⟨N - 1, by omega⟩
    by_cases q : u = -1
    · subst q
      exact ⟨h1, lp_d rfl, f1, fun n hn => by rw [fAt_m, if_pos rfl]⟩
    · obtain ⟨⟨u0, u1⟩, ur⟩ := hu.resolve_left q
      have K := P.2.2.1 u u0 u1
      have K8 := kd_8 P u0 u1
      obtain ⟨W1, W2, W3, W4, W5⟩ := P.1.2.2 u u0 u1
      obtain ⟨k1, k2, k3, k4, k5, k6, k7⟩ := K
      have hF : hI hc (kd hc p u) 4 = ((wg hr w u 5).toNat : Nat) := by rw [k5.1]; omega
      have hnm : ∀ i : Nat, i < (wg hr w u 5).toNat → 0 ≤ hI hc (kd hc p u + 1) i ∧ hI hc (kd hc p u + 1) i < 40 := by
        intro i hi
        obtain ⟨b1, b2, b3, b4⟩ := k5.2 i (by omega)
        rw [b1]
        exact ⟨b3, b4⟩
      obtain ⟨h2, g1, g2, g3⟩ := c101_in k1 ha S hF (by omega) hnm (wg hr w u 5).toNat 0 hF0 h1 (by omega) (hF0_lt (by omega)) f1
      have hT2 : hT h2 = hT hc := by show h2.2.2.2.1 = hc.2.2.2.1; rw [g2.1]
      have hR2 : hR h2 = hR hc := by show h2.2.1 = hc.2.1; rw [g2.1]
      have step : c101_b33 a (kd hc p u) h1 = some (.inl (kd hc p (wg hr w u 1), h2)) := by
        unfold c101_b33
        rw [hnul_8 (by omega)]
        simp only [bsome]
        have g1 : lp (fun s => c101_b39 a (kd hc p u) s.1 s.2) hF0 (0, h1) = some h2 := g1
        rw [if_neg (by simp), g1]
        simp only [bsome]
        rw [gR_s (by rw [hT2]; exact k1.2.2.1)]
        simp only [bsome]
        rw [hR2, k3]
      have hup : wg hr w u 1 = -1 ∨ ((0 ≤ wg hr w u 1 ∧ wg hr w u 1 < m) ∧ r (wg hr w u 1) < d) := by
        rcases WF_ok P.1 u ⟨u0, u1⟩ with e | ⟨e1, e2⟩
        · exact .inl e
        · exact .inr ⟨e1, by omega⟩
      obtain ⟨h3, q1, q2, q3⟩ := c101_ch P L ha hap S d N (wg hr w u 1) h2 hup (by omega) g2
      refine ⟨h3, by rw [lp_n (s' := (kd hc p (wg hr w u 1), h2)) step]; exact q1, q2, fun n hn => ?_⟩
      rw [q3 n hn]
      have hst := fAt_st (n := (n : Int)) P.1 u0 u1
      obtain ⟨L1, L2⟩ := L u u0 u1
      by_cases c1 : fIx hr w u n = -1
      · rw [if_neg (by simp [c1])] at hst
        rw [hst]
        unfold fV
        rw [hst]
        by_cases c2 : fAt hr w (wg hr w u 1) n = -1
        · rw [if_pos c2, if_pos c2]
          rcases g3 n hn with ⟨i', a1, a2, a3, a4⟩ | ⟨a1, a2⟩
          · exfalso
            have := ix_none (f := fun i : Nat => wg hr w u (6 + (i : Int))) c1 i' a2
            obtain ⟨b1, -⟩ := k5.2 i' (by omega)
            rw [b1] at a3
            exact this a3
          · exact a2
        · rw [if_neg c2, if_neg c2]
      · rw [if_pos (by simp [c1])] at hst
        have hup2 := L2 n c1
        rw [if_pos hup2]
        unfold fV
        rw [hst, if_neg (by omega)]
        obtain ⟨f1', f2', f3'⟩ := fIx_lt P.1 u0 u1 c1
        rcases g3 n hn with ⟨i', a1, a2, a3, a4⟩ | ⟨a1, a2⟩
        · obtain ⟨b1, b2, -⟩ := k5.2 i' (by omega)
          rw [a4, b2]
          have e7 : wg hr w u (6 + ((fIx hr w u n).toNat : Nat)) = n := by rw [show (((fIx hr w u n).toNat : Nat) : Int) = fIx hr w u n by omega]; exact f3'
          have := L1 i' (fIx hr w u n).toNat (by omega) (by omega) (by rw [e7, ← b1]; exact a3)
          rw [this, show (((fIx hr w u n).toNat : Nat) : Int) = fIx hr w u n by omega]
        · exfalso
          have := a1 (fIx hr w u n).toNat (by omega) (by omega)
          obtain ⟨b1, -⟩ := k5.2 (fIx hr w u n).toNat (by omega)
          rw [b1, show (((fIx hr w u n).toNat : Nat) : Int) = fIx hr w u n by omega] at this
          exact this f3'
/-- cells of S alone may be other; nothing new, nothing of another shape -/
def chg (S : Nat → Prop) (h h' : hS) : Prop := hJ h' = hJ h ∧ hT h' = hT h ∧ hL h' = hL h ∧ hN h' = hN h ∧ hM h' = hM h ∧ ∀ x, ¬ S x → ∀ j, hI h' x j = hI h x j ∧ hR h' x j = hR h x j
theorem chg_rf {S : Nat → Prop} {h : hS} : chg S h h := ⟨rfl, rfl, rfl, rfl, rfl, fun _ _ _ => ⟨rfl, rfl⟩⟩
theorem chg_tr {S : Nat → Prop} {h h1 h2 : hS} (a : chg S h h1) (b : chg S h1 h2) : chg S h h2 := by
  obtain ⟨a1, a2, a3, a4, a5, a6⟩ := a
  obtain ⟨b1, b2, b3, b4, b5, b6⟩ := b
  exact ⟨b1.trans a1, b2.trans a2, b3.trans a3, b4.trans a4, b5.trans a5, fun x q j => ⟨(b6 x q j).1.trans (a6 x q j).1, (b6 x q j).2.trans (a6 x q j).2⟩⟩
theorem chg_mono {S S' : Nat → Prop} {h h' : hS} (a : chg S h h') (e : ∀ x, S x → S' x) : chg S' h h' := ⟨a.1, a.2.1, a.2.2.1, a.2.2.2.1, a.2.2.2.2.1, fun x q => a.2.2.2.2.2 x (fun c => q (e x c))⟩
theorem chg_fp {S : Nat → Nat → Prop} {S' : Nat → Prop} {h h' : hS} (a : fp S h h') (e : ∀ x j, S x j → S' x) : chg S' h h' := by
  obtain ⟨a1, a2⟩ := a
  refine ⟨?_, ?_, ?_, ?_, ?_, fun x q j => ⟨a2 x j (fun c => q (e x j c)), ?_⟩⟩
  · show h'.2.2.1 = _; rw [a1]; rfl
  · show h'.2.2.2.1 = _; rw [a1]; rfl
  · show h'.2.2.2.2.1 = _; rw [a1]; rfl
  · show h'.2.2.2.2.2.1 = _; rw [a1]; rfl
  · show h'.2.2.2.2.2.2 = _; rw [a1]; rfl
  · show h'.2.1 x j = _; rw [a1]; rfl
theorem chg_sI {S : Nat → Prop} {h : hS} {x i : Nat} {v : Int} (q : S x) : chg S h (sI h x i v) := ⟨rfl, rfl, rfl, rfl, rfl, fun y n j => ⟨by
  rw [hI_sI, if_neg]
  rintro ⟨rfl, -⟩
  exact n q, rfl⟩⟩
theorem chg_sR {S : Nat → Prop} {h : hS} {x i : Nat} {v : Nat} (q : S x) : chg S h (sR h x i v) := ⟨rfl, rfl, rfl, rfl, rfl, fun y n j => ⟨rfl, by
  rw [hR_sR, if_neg]
  rintro ⟨rfl, -⟩
  exact n q⟩⟩
theorem chg_same {S S' : Nat → Prop} {h h' : hS} (a : chg S h h') (e : ∀ x, S' x → ¬ S x) : same S' h h' := fun x q => ⟨fun j => a.2.2.2.2.2 x (e x q) j, by rw [a.2.1], by rw [a.2.2.1]⟩
theorem SH_cg {h h' : hS} (S : SH h) (e : ∀ x j, 19 = x ∨ 49 = x → hR h' x j = hR h x j) (eT : hT h' = hT h) (eL : hL h' = hL h) (e3 : ∀ x j, 53 ≤ x → x < 375 → 3 ≤ j → hR h' x j = hR h x j) (e4 : ∀ c : Nat, c < 40 → hI h' (215 + 4 * c) 0 = hI h (215 + 4 * c) 0 ∧ hI h' (53 + 4 * c) 0 = hI h (53 + 4 * c) 0) : SH h' := by
  have key : ∀ a c, 53 ≤ a → a < 375 → hI h' a 0 = hI h a 0 → SHc h a c → SHc h' a c := by
    intro a c a0 a1 ha ⟨s1, s2, s3, s4, s5, s6, s7⟩
    unfold SHc
    rw [eT, eL, e3 a 3 a0 a1 (by omega), e3 a 4 a0 a1 (by omega), e3 a 5 a0 a1 (by omega), ha]
    exact ⟨s1, s2, s3, s4, s5, s6, s7⟩
  refine ⟨fun c hc => ?_, fun c hc => ?_⟩
  · obtain ⟨q1, q2⟩ := S.1 c hc
    exact ⟨by rw [e 19 c (.inl rfl)]; exact q1, key _ _ (by omega) (by omega) (e4 c hc).1 q2⟩
  · obtain ⟨q1, q2⟩ := S.2 c hc
    exact ⟨by rw [e 49 c (.inr rfl)]; exact q1, key _ _ (by omega) (by omega) (e4 c hc).2 q2⟩
/-- put -/
theorem api13 (S : SH hc) (P : PW hc hr C p 0 m r) (T : TB hc hr p 0 m) (R : CR hc hr p m q) (n f x : Int) : ∃ v hc' hr', c109 n f x hc = some (v, hc') ∧ c246 n f x hr = some (v, hr') ∧ CR hc' hr' p m q ∧ fp (fun y _ => ∃ c, c < 40 ∧ y = 215 + 4 * c + 1) hc hc' ∧ fp (fun y _ => y = 405) hr hr' := by
  unfold c109 c246
  rw [c103_e S R, c243_e P R]
  simp only [bsome]
  by_cases a : lvs hc n = true
  · obtain ⟨⟨⟨k0, k1, k2⟩, hv⟩, hq⟩ := lvs_1 R a
    obtain ⟨⟨n0, n1⟩, -⟩ := lvs_b a
    obtain ⟨s1, s2, s3, s4, s5, ⟨t1, t2, t3⟩, ⟨l1, l2, l3⟩, -⟩ := S.1 n.toNat (by omega)
    have K := P.2.2.1 _ k0 k1
    rw [if_pos a, if_neg (show ¬ (1 : Int) = 0 by omega), aRs_s (by omega) (by omega)]
    simp only [bsome]
    rw [s1, gR_s s2]
    simp only [bsome]
    rw [k2, kT_s K.1.2.2.1]
    simp only [bsome]
    by_cases g : (0 ≤ f ∧ f < 40) ∧ fAt hr 0 (hI hr 404 n.toNat) f ≠ -1
    · have e1 : hsf hc hr n f = true := by unfold hsf; simp [a, g.1, g.2]
      have e40 : wadd (wmul 40 n) f = 40 * n + f := by rw [wmul_e (by omega) (by omega), wadd_e (by omega) (by omega)]
      have e41 : (40 * n + f).toNat = 40 * n.toNat + f.toNat := by omega
      rw [c106_1 P T k0 k1 g.1 g.2, if_pos e1]
      simp only [bsome]
      rw [if_neg (show ¬ (1 : Int) = 0 by omega), if_neg (show ¬ (1 : Int) = 0 by omega), gR_s s2, e40, wIs_s (by omega) (by omega)]
      simp only [bsome]
      rw [s3, wI_s t1 (by omega) (by rw [l1]; omega), e41]
      simp only [bsome]
      refine ⟨_, _, _, rfl, rfl, ?_, fp_sI ⟨n.toNat, by omega, rfl⟩, fp_sI rfl⟩
      obtain ⟨r1, r2, r3, r4⟩ := R
      refine ⟨by rw [hI_sI, if_neg (by omega)]; exact r1, by rw [hI_sI, if_neg (by omega)]; exact r2, r3, fun c hc40 => ?_⟩
      obtain ⟨u1, u2, u3, u4⟩ := r4 c hc40
      rw [hI_sI, if_neg (by omega), hI_sI, if_neg (by omega)]
      refine ⟨u1, u2, u3, fun h1 => ?_⟩
      obtain ⟨⟨x1, x2, x3⟩, x4⟩ := u4 h1
      unfold C1
      rw [hI_sI, if_neg (by omega)]
      refine ⟨⟨x1, x2, x3⟩, fun i hi => ?_⟩
      obtain ⟨y1, y2, y3, y4⟩ := x4 i hi
      have ew : ∀ k f', wg (sI hr 405 (40 * n.toNat + f.toNat) x) 0 k f' = wg hr 0 k f' := fun k f' => by
        unfold wg
        rw [hI_sI, if_neg (by omega)]
      rw [fAt_cg ew]
      refine ⟨fun h2 => ?_, ?_, ?_, ?_⟩
      · rw [hI_sI, hI_sI]
        by_cases e : c = n.toNat ∧ i = f.toNat
        · rw [if_pos (by omega), if_pos (by omega)]
        · rw [if_neg (by omega), if_neg (by omega)]
          exact y1 h2
      · rw [hI_sI, if_neg (by omega)]; exact y2
      · rw [hI_sI, if_neg (by omega), hI_sI, if_neg (by omega)]; exact y3
      · rw [hI_sI, if_neg (by omega), hI_sI, if_neg (by omega), hI_sI, if_neg (by omega)]; exact y4
    · have e1 : ¬ hsf hc hr n f = true := fun e => g (hsf_b e).2
      rw [c106_0 P T k0 k1 g, if_neg e1]
      simp only [bsome]
      exact ⟨_, _, _, rfl, rfl, R, fp_rf, fp_rf⟩
  · have e1 : ¬ hsf hc hr n f = true := fun e => a (hsf_b e).1
    rw [if_neg a, if_pos rfl, if_neg e1, if_pos rfl]
    exact ⟨_, _, _, rfl, rfl, R, fp_rf, fp_rf⟩
end CRT
