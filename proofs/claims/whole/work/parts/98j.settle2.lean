/-! the climb that works the names out -/
theorem clb_fm {P : Int → Bool} {up : Int → Int} : ∀ (f : Nat) (u : Int), clb P up (f + 1) u = -1 → clb P up f u = -1
  | 0, _, _ => rfl
  | f + 1, u, h => by
    have h : (if u = -1 then -1 else if P u = true then u else clb P up (f + 1) (up u)) = -1 := h
    show (if u = -1 then -1 else if P u = true then u else clb P up f (up u)) = -1
    by_cases c : u = -1
    · rw [if_pos c]
    · rw [if_neg c] at h ⊢
      by_cases c2 : P u = true
      · rw [if_pos c2] at h
        exact absurd h c
      · rw [if_neg c2] at h ⊢
        exact clb_fm f (up u) h
theorem clb_fl {P : Int → Bool} {up : Int → Int} {u : Int} : ∀ {g f : Nat}, f ≤ g → clb P up g u = -1 → clb P up f u = -1
  | 0, f, h, e => by
    obtain rfl : f = 0 := by omega
    exact e
  | g + 1, f, h, e => by
    by_cases c : f = g + 1
    · rw [c]; exact e
    · exact clb_fl (g := g) (by omega) (clb_fm g u e)
theorem clb_sb {P Q : Int → Bool} {up : Int → Int} (s : ∀ u, P u = true → Q u = true) : ∀ (f : Nat) (u : Int), clb Q up f u = -1 → clb P up f u = -1
  | 0, _, _ => rfl
  | f + 1, u, h => by
    have h : (if u = -1 then -1 else if Q u = true then u else clb Q up f (up u)) = -1 := h
    show (if u = -1 then -1 else if P u = true then u else clb P up f (up u)) = -1
    by_cases c : u = -1
    · rw [if_pos c]
    · rw [if_neg c] at h ⊢
      by_cases c2 : Q u = true
      · rw [if_pos c2] at h
        exact absurd h c
      · rw [if_neg c2] at h
        rw [if_neg (fun z => c2 (s u z))]
        exact clb_sb s f (up u) h
section ST2
variable {h0 hr : hS} {K : Nat → Int → Prop} {p m k : Nat} {r : Int → Nat} {j : Int}
/-- the tables of kind k hold what was found so far -/
def SN (h0 hr : hS) (p k : Nat) (ff fs fa : Nat → Int) (h : hS) : Prop := ∀ n : Nat, n < 40 → hI h (k + 8) n = (if ff n = -1 then 0 else 1) ∧ (hR h (k + 9) n = kd h0 p (fs n) ∧ (fs n ≠ -1 → hI h (k + 10) n = sIx hr 1 (fs n) n)) ∧ (hR h (k + 11) n = kd h0 p (fa n) ∧ (fa n ≠ -1 → hI h (k + 12) n = aIx hr 1 (fa n) n))
def rg1 (m : Nat) (f : Nat → Int) : Prop := ∀ n, f n = -1 ∨ (0 ≤ f n ∧ f n < m)
def mx (f : Nat → Int) (P : Nat → Int → Bool) (u : Int) : Nat → Int := fun n => if f n ≠ -1 then f n else if P n u = true then u else -1
def PF (hr : hS) (n : Nat) (u : Int) : Bool := decide (fIx hr 1 u n ≠ -1)
def PS (hr : hS) (n : Nat) (u : Int) : Bool := decide (sIx hr 1 u n ≠ -1)
def PA (hr : hS) (n : Nat) (u : Int) : Bool := decide (aIx hr 1 u n ≠ -1)
theorem mx_r {f : Nat → Int} {P : Nat → Int → Bool} {u : Int} (hf : rg1 m f) (u0 : 0 ≤ u) (u1 : u < m) : rg1 m (mx f P u) := fun n => by
  unfold mx
  by_cases c : f n ≠ -1
  · rw [if_pos c]; exact hf n
  · rw [if_neg c]
    by_cases c2 : P n u = true
    · rw [if_pos c2]; exact .inr ⟨u0, u1⟩
    · rw [if_neg c2]; exact .inl rfl
/-- one kind of the chain is worked in -/
theorem c89_1 (B : BW h0 hr K p m r) (C : CF hr 1 m) (j0 : 0 ≤ j) (j1 : j < m) (hk : kd h0 p j = k) {u : Int} (u0 : 0 ≤ u) (u1 : u < m) {ff fs fa : Nat → Int} (ra : rg1 m fa) {h : hS} (q : q5 k h0 h) (S : SN h0 hr p k ff fs fa h) (nc : ∀ n : Nat, fs n ≠ -1 → sIx hr 1 u n = -1) : ∃ h', c89_b2 k (kd h0 p u) h = some (.inl (kd h0 p (wg hr 1 u 1), h')) ∧ q5 k h0 h' ∧ SN h0 hr p k (mx ff (PF hr) u) (mx fs (PS hr) u) (mx fa (PA hr) u) h' := by
  have Qj := B.1.2.2.1 j j0 j1
  have Qu := B.1.2.2.1 u u0 u1
  obtain ⟨w1, w2, w3, w4, w5⟩ := B.1.1.2.2 u u0 u1
  obtain ⟨c1, c2, c3, c4⟩ := C u u0 u1
  obtain ⟨g, hg⟩ : ∃ g, kd h0 p u = g := ⟨_, rfl⟩
  have Kj : KD h0 k := by rw [← hk]; exact Qj.1
  unfold KR at Qu
  rw [hg] at Qu
  obtain ⟨k1, k2, k3, k4, k5, k6, k7⟩ := Qu
  have far : ∀ o, o ≤ 7 → ¬ (k + 8 ≤ g + o ∧ g + o ≤ k + 12) := fun o ho => by
    by_cases c : u = j
    · rw [c, hk] at hg
      omega
    · by_cases c2 : u < j
      · have := B.2.2.1 u j u0 c2 j1
        omega
      · have := B.2.2.1 j u j0 (by omega) u1
        omega
  have f0 := far 0 (by omega)
  rw [Nat.add_zero] at f0
  have k448 := Kj.1
  have z0 : ∀ n, n < 40 → hR h (k + 11) n = 0 ∨ 8 ≤ hR h (k + 11) n := fun n hn => by
    rw [(S n hn).2.2.1]
    rcases ra n with z | ⟨z, z1⟩
    · rw [z]; exact .inl rfl
    · have := kd_8 B.1 z z1
      exact .inr (by omega)
  obtain ⟨h1, a1, a2, a3, a4, a5⟩ := c89_f (F := (wg hr 1 u 5).toNat) Kj k1 far (by rw [k5.1]; omega) (by omega) (fun i hi => by
    obtain ⟨y1, -, y3⟩ := k5.2 i (by omega)
    rw [y1]; exact y3) (wg hr 1 u 5).toNat 0 hF0 h (by omega) (hF0_lt (by omega)) q
  obtain ⟨h2, b1, b2, b3, b4, b5⟩ := c89_s (F := (wg hr 1 u 30).toNat) Kj k1 far (by rw [k6.1]; omega) (by omega) (fun i hi => by
    obtain ⟨y1, -, y3⟩ := k6.2 i (by omega)
    rw [y1]; exact y3) (wg hr 1 u 30).toNat 0 hF0 h1 (by omega) (hF0_lt (by omega)) a2
  obtain ⟨h3, d1, d2, d3, d4, d5⟩ := c89_a (F := (wg hr 1 u 39).toNat) Kj k1 far (by rw [k7.1]; omega) (by omega) (fun i hi => by
    obtain ⟨y1, -, y3⟩ := k7.2 i (by omega)
    rw [y1]; exact y3) (wg hr 1 u 39).toNat 0 hF0 h2 (by omega) (hF0_lt (by omega)) b2 (fun n hn => by
    rw [b4 (k + 11) (by omega), a4]; exact z0 n hn)
  have a1 : lp (fun s => c89_b8 k g s.1 s.2) hF0 (0, h) = some h1 := a1
  have b1 : lp (fun s => c89_b36 k g s.1 s.2) hF0 (0, h1) = some h2 := b1
  have d1 : lp (fun s => c89_b76 k g s.1 s.2) hF0 (0, h2) = some h3 := d1
  rw [hg]
  refine ⟨h3, ?_, d2, fun n hn => ?_⟩
  · unfold c89_b2
    rw [hnul_8 (by have := k1.1; omega)]
    simp only [bsome]
    rw [if_neg (by decide), a1]
    simp only [bsome]
    rw [b1]
    simp only [bsome]
    rw [d1]
    simp only [bsome]
    rw [gR_s (by rw [d2.2.2.1]; exact k1.2.2.1), (d2.2.2.2.2 g f0).2, k3]
    rfl
  · obtain ⟨s1, ⟨s2, s3⟩, s4, s5⟩ := S n hn
    refine ⟨?_, ⟨?_, fun hx => ?_⟩, ?_, fun hx => ?_⟩
    · rw [d3 (k + 8) (by omega), b3 (k + 8) (by omega)]
      unfold mx PF
      rcases a5 n hn with ⟨x1, i', x2, x3, x4⟩ | ⟨x1, x2⟩
      · have hfx : fIx hr 1 u n ≠ -1 := fun z => ix_none (show ix (fun i : Nat => wg hr 1 u (6 + (i : Int))) n (wg hr 1 u 5).toNat = -1 from z) i' x3 (by rw [← (k5.2 i' (by omega)).1]; exact x4)
        rw [x1]
        by_cases c : ff n ≠ -1
        · rw [if_pos c, if_neg c]
        · rw [if_neg c, if_pos (decide_eq_true hfx), if_neg (by omega)]
      · have hfx : fIx hr 1 u n = -1 := by
          rcases ix_b (fun i : Nat => wg hr 1 u (6 + (i : Int))) n (wg hr 1 u 5).toNat with z | ⟨i', -, y2, y3, -⟩
          · exact z
          · exact absurd (by rw [(k5.2 i' (by omega)).1]; exact y3) (x2 i' (Nat.zero_le _) y2)
        rw [x1, s1]
        by_cases c : ff n ≠ -1
        · rw [if_pos c]
        · rw [if_neg c, if_neg (show ¬ decide (fIx hr 1 u n ≠ -1) = true by rw [decide_eq_true_eq]; exact fun z => z hfx)]
          have : ff n = -1 := by omega
          rw [this]
    · rw [d4 (k + 9) (by omega)]
      unfold mx PS
      rcases b5 n hn with ⟨x1, i', x2, x3, x4, x5⟩ | ⟨x1, x1', x2⟩
      · have hfx : sIx hr 1 u n ≠ -1 := fun z => ix_none (show ix (fun i : Nat => wg hr 1 u (31 + (i : Int))) n (wg hr 1 u 30).toNat = -1 from z) i' x3 (by rw [← (k6.2 i' (by omega)).1]; exact x4)
        have hfs : fs n = -1 := by
          by_cases c : fs n = -1
          · exact c
          · exact absurd (nc n c) hfx
        rw [x1, if_neg (fun z => z hfs), if_pos (decide_eq_true hfx), hg]
      · have hfx : sIx hr 1 u n = -1 := by
          rcases ix_b (fun i : Nat => wg hr 1 u (31 + (i : Int))) n (wg hr 1 u 30).toNat with z | ⟨i', -, y2, y3, -⟩
          · exact z
          · exact absurd (by rw [(k6.2 i' (by omega)).1]; exact y3) (x2 i' (Nat.zero_le _) y2)
        rw [x1, a4, s2]
        by_cases c : fs n ≠ -1
        · rw [if_pos c]
        · rw [if_neg c, if_neg (show ¬ decide (sIx hr 1 u n ≠ -1) = true by rw [decide_eq_true_eq]; exact fun z => z hfx)]
          have : fs n = -1 := by omega
          rw [this]
    · rw [d3 (k + 10) (by omega)]
      unfold mx PS at hx ⊢
      rcases b5 n hn with ⟨x1, i', x2, x3, x4, x5⟩ | ⟨x1, x1', x2⟩
      · have hfx : sIx hr 1 u n ≠ -1 := fun z => ix_none (show ix (fun i : Nat => wg hr 1 u (31 + (i : Int))) n (wg hr 1 u 30).toNat = -1 from z) i' x3 (by rw [← (k6.2 i' (by omega)).1]; exact x4)
        have hfs : fs n = -1 := by
          by_cases c : fs n = -1
          · exact c
          · exact absurd (nc n c) hfx
        rw [x5, if_neg (fun z => z hfs), if_pos (decide_eq_true hfx)]
        obtain ⟨y0, y1, y2⟩ := sIx_lt B.1.1 u0 u1 hfx
        have e31 : wg hr 1 u (31 + (i' : Int)) = wg hr 1 u (31 + ((sIx hr 1 u n).toNat : Int)) := by
          rw [← (k6.2 i' (by omega)).1, x4, show (((sIx hr 1 u n).toNat : Nat) : Int) = sIx hr 1 u n by omega, y2]
        have := c2 i' (sIx hr 1 u n).toNat (by omega) (by omega) e31
        omega
      · have hfx : sIx hr 1 u n = -1 := by
          rcases ix_b (fun i : Nat => wg hr 1 u (31 + (i : Int))) n (wg hr 1 u 30).toNat with z | ⟨i', -, y2, y3, -⟩
          · exact z
          · exact absurd (by rw [(k6.2 i' (by omega)).1]; exact y3) (x2 i' (Nat.zero_le _) y2)
        rw [x1', a3 (k + 10) (by omega)]
        by_cases c : fs n ≠ -1
        · rw [if_pos c]
          exact s3 c
        · rw [if_neg c, if_neg (show ¬ decide (sIx hr 1 u n ≠ -1) = true by rw [decide_eq_true_eq]; exact fun z => z hfx)] at hx
          exact absurd rfl hx
    · unfold mx PA
      have e11 : hR h2 (k + 11) n = hR h (k + 11) n := by rw [b4 (k + 11) (by omega), a4]
      have fa0 : hR h (k + 11) n = 0 ↔ fa n = -1 := by
        rw [s4]
        constructor
        · intro z
          rcases ra n with y | ⟨y, y1⟩
          · exact y
          · have := kd_8 B.1 y y1
            omega
        · intro z; rw [z]; rfl
      rcases d5 n hn with ⟨x1, x2, x3⟩ | ⟨x1, x2, i', x3, x4, x5, x6, x7⟩ | ⟨x1, x2, x3⟩
      · rw [e11] at x1 x2
        rw [x2, s4, if_pos (fun z => x1 (fa0.mpr z))]
      · rw [e11] at x1
        have hfx : aIx hr 1 u n ≠ -1 := fun z => ix_none (show ix (fun i : Nat => wg hr 1 u (40 + (i : Int))) n (wg hr 1 u 39).toNat = -1 from z) i' x4 (by rw [← (k7.2 i' (by omega)).1]; exact x5)
        rw [x2, if_neg (fun z => z (fa0.mp x1)), if_pos (decide_eq_true hfx), hg]
      · rw [e11] at x1
        have hfx : aIx hr 1 u n = -1 := by
          rcases ix_b (fun i : Nat => wg hr 1 u (40 + (i : Int))) n (wg hr 1 u 39).toNat with z | ⟨i', -, y2, y3, -⟩
          · exact z
          · exact absurd (by rw [(k7.2 i' (by omega)).1]; exact y3) (x3 i' (Nat.zero_le _) y2)
        rw [x2, if_neg (fun z => z (fa0.mp x1)), if_neg (show ¬ decide (aIx hr 1 u n ≠ -1) = true by rw [decide_eq_true_eq]; exact fun z => z hfx)]
        rfl
    · unfold mx PA at hx ⊢
      have e11 : hR h2 (k + 11) n = hR h (k + 11) n := by rw [b4 (k + 11) (by omega), a4]
      have fa0 : hR h (k + 11) n = 0 ↔ fa n = -1 := by
        rw [s4]
        constructor
        · intro z
          rcases ra n with y | ⟨y, y1⟩
          · exact y
          · have := kd_8 B.1 y y1
            omega
        · intro z; rw [z]; rfl
      rcases d5 n hn with ⟨x1, x2, x3⟩ | ⟨x1, x2, i', x3, x4, x5, x6, x7⟩ | ⟨x1, x2, x3⟩
      · rw [e11] at x1
        have hfa : fa n ≠ -1 := fun z => x1 (fa0.mpr z)
        rw [x3, b3 (k + 12) (by omega), a3 (k + 12) (by omega), if_pos hfa]
        exact s5 hfa
      · rw [e11] at x1
        have hfx : aIx hr 1 u n ≠ -1 := fun z => ix_none (show ix (fun i : Nat => wg hr 1 u (40 + (i : Int))) n (wg hr 1 u 39).toNat = -1 from z) i' x4 (by rw [← (k7.2 i' (by omega)).1]; exact x5)
        rw [x6, if_neg (fun z => z (fa0.mp x1)), if_pos (decide_eq_true hfx)]
        rcases ix_b (fun i : Nat => wg hr 1 u (40 + (i : Int))) n (wg hr 1 u 39).toNat with z | ⟨i2, y1, y2, y3, y4⟩
        · exact absurd z hfx
        · have y1 : aIx hr 1 u n = (i2 : Int) := y1
          rw [y1]
          have : i' = i2 := by
            by_cases z : i' < i2
            · exact absurd (by rw [← (k7.2 i' (by omega)).1]; exact x5) (y4 i' z)
            · by_cases z2 : i2 < i'
              · exact absurd (by rw [(k7.2 i2 (by omega)).1]; exact y3) (x7 i2 (Nat.zero_le _) z2)
              · omega
          rw [this]
      · rw [e11] at x1
        have hfx : aIx hr 1 u n = -1 := by
          rcases ix_b (fun i : Nat => wg hr 1 u (40 + (i : Int))) n (wg hr 1 u 39).toNat with z | ⟨i', -, y2, y3, -⟩
          · exact z
          · exact absurd (by rw [(k7.2 i' (by omega)).1]; exact y3) (x3 i' (Nat.zero_le _) y2)
        rw [if_neg (fun z => z (fa0.mp x1)), if_neg (show ¬ decide (aIx hr 1 u n ≠ -1) = true by rw [decide_eq_true_eq]; exact fun z => z hfx)] at hx
        exact absurd rfl hx
/-- the whole climb -/
theorem c89_l (B : BW h0 hr K p m r) (C : CF hr 1 m) (j0 : 0 ≤ j) (j1 : j < m) (hk : kd h0 p j = k) : ∀ (d N : Nat) (u : Int) (ff fs fa : Nat → Int) (h : hS), (u = -1 ∨ ((0 ≤ u ∧ u < m) ∧ r u < d)) → d < N → d ≤ 12 → rg1 m ff → rg1 m fs → rg1 m fa → q5 k h0 h → SN h0 hr p k ff fs fa h → (∀ n : Nat, fs n ≠ -1 → clb (PS hr n) (fun u => wg hr 1 u 1) (d + 1) u = -1) → ∃ h', lp (fun s => c89_b2 k s.1 s.2) N (kd h0 p u, h) = some h' ∧ q5 k h0 h' ∧ SN h0 hr p k (fun n => if ff n ≠ -1 then ff n else clb (PF hr n) (fun u => wg hr 1 u 1) (d + 1) u) (fun n => if fs n ≠ -1 then fs n else clb (PS hr n) (fun u => wg hr 1 u 1) (d + 1) u) (fun n => if fa n ≠ -1 then fa n else clb (PA hr n) (fun u => wg hr 1 u 1) (d + 1) u) h'
  | 0, N, u, ff, fs, fa, h, hu, hN, _, rf, rs, ra, q, S, nc => by
    obtain ⟨N, rfl⟩ : ∃ N1, N = N1 + 1 := ⟨N - 1, by omega⟩
    rcases hu with rfl | ⟨-, z⟩
    · refine ⟨h, lp_d rfl, q, ?_⟩
      have e : ∀ (f : Nat → Int) (P : Nat → Int → Bool), (fun n => if f n ≠ -1 then f n else clb (P n) (fun u => wg hr 1 u 1) (0 + 1) (-1)) = f := fun f P => funext fun n => by
        by_cases c : f n ≠ -1
        · rw [if_pos c]
        · rw [if_neg c, clb_n]
          omega
      rw [e, e, e]
      exact S
    · omega
  | d + 1, N, u, ff, fs, fa, h, hu, hN, hd, rf, rs, ra, q, S, nc => by
    obtain ⟨N, rfl⟩ : ∃ N1, N = N1 + 1 := ⟨N - 1, by omega⟩
    rcases hu with rfl | ⟨⟨u0, u1⟩, hr'⟩
    · refine ⟨h, lp_d rfl, q, ?_⟩
      have e : ∀ (f : Nat → Int) (P : Nat → Int → Bool), (fun n => if f n ≠ -1 then f n else clb (P n) (fun u => wg hr 1 u 1) (d + 1 + 1) (-1)) = f := fun f P => funext fun n => by
        by_cases c : f n ≠ -1
        · rw [if_pos c]
        · rw [if_neg c, clb_n]
          omega
      rw [e, e, e]
      exact S
    · have cu : ∀ (P : Int → Bool) (f : Nat), clb P (fun u => wg hr 1 u 1) (f + 1) u = if P u = true then u else clb P (fun u => wg hr 1 u 1) f (wg hr 1 u 1) := fun P f => by
        show (if u = -1 then -1 else if P u = true then u else clb P (fun u => wg hr 1 u 1) f (wg hr 1 u 1)) = _
        rw [if_neg (by omega)]
      have ncu : ∀ n : Nat, fs n ≠ -1 → PS hr n u = false ∧ clb (PS hr n) (fun u => wg hr 1 u 1) (d + 1) (wg hr 1 u 1) = -1 := fun n hn => by
        have := nc n hn
        rw [cu] at this
        by_cases c : PS hr n u = true
        · rw [if_pos c] at this; omega
        · rw [if_neg c] at this
          exact ⟨by simpa using c, this⟩
      obtain ⟨h1, e1, q1, S1⟩ := c89_1 B C j0 j1 hk u0 u1 ra q S (fun n hn => by
        have := (ncu n hn).1
        unfold PS at this
        have := of_decide_eq_false this
        omega)
      obtain ⟨-, w2, -⟩ := B.1.1.2.2 u u0 u1
      obtain ⟨h', a1, a2, a3⟩ := c89_l B C j0 j1 hk d N (wg hr 1 u 1) (mx ff (PF hr) u) (mx fs (PS hr) u) (mx fa (PA hr) u) h1 (by rcases w2 with z | ⟨z1, z2, z3⟩; exact .inl z; exact .inr ⟨⟨z1, z2⟩, by omega⟩) (by omega) (by omega) (mx_r rf u0 u1) (mx_r rs u0 u1) (mx_r ra u0 u1) q1 S1 (fun n hn => by
        by_cases c : fs n ≠ -1
        · exact (ncu n c).2
        · unfold mx at hn
          rw [if_neg c] at hn
          by_cases c2 : PS hr n u = true
          · have ho : hOw hr 1 u n = true := hOw_o (.inr (by unfold PS at c2; exact of_decide_eq_true c2))
            have := (C u u0 u1).2.2.2 n ho
            exact clb_fl (by omega) (clb_sb (fun v hv => hOw_o (.inr (by unfold PS at hv; exact of_decide_eq_true hv))) 13 _ this)
          · rw [if_neg c2] at hn
            exact absurd rfl hn)
      refine ⟨h', ?_, a2, ?_⟩
      · rw [lp_n (s' := (kd h0 p (wg hr 1 u 1), h1)) e1]
        exact a1
      · have e : ∀ (f : Nat → Int) (P : Nat → Int → Bool), (fun n => if mx f P u n ≠ -1 then mx f P u n else clb (P n) (fun u => wg hr 1 u 1) (d + 1) (wg hr 1 u 1)) = (fun n => if f n ≠ -1 then f n else clb (P n) (fun u => wg hr 1 u 1) (d + 1 + 1) u) := fun f P => funext fun n => by
          rw [cu]
          unfold mx
          by_cases c : f n ≠ -1
          · rw [if_pos c, if_pos c, if_pos c]
          · rw [if_neg c, if_neg c]
            by_cases c2 : P n u = true
            · rw [if_pos c2, if_pos c2, if_pos (by omega)]
            · rw [if_neg c2, if_neg c2, if_neg (fun z => z rfl)]
        rw [e, e, e] at a3
        exact a3
/-- settleNames -/
theorem c89_e (B : BW h0 hr K p m r) (C : CF hr 1 m) (j0 : 0 ≤ j) (j1 : j < m) (hk : kd h0 p j = k) {h : hS} (q : q5 k h0 h) (z : ∀ n, n < 40 → hI h (k + 8) n = 0 ∧ hR h (k + 9) n = 0 ∧ hR h (k + 11) n = 0) : ∃ h', c89 k h = some h' ∧ q5 k h0 h' ∧ ∀ n : Nat, n < 40 → hI h' (k + 8) n = (if fAt hr 1 j n = -1 then 0 else 1) ∧ (hR h' (k + 9) n = kd h0 p (sAt hr 1 j n) ∧ (sAt hr 1 j n ≠ -1 → hI h' (k + 10) n = sIx hr 1 (sAt hr 1 j n) n)) ∧ (hR h' (k + 11) n = kd h0 p (aAt hr 1 j n) ∧ (aAt hr 1 j n ≠ -1 → hI h' (k + 12) n = aIx hr 1 (aAt hr 1 j n) n)) := by
  obtain ⟨w1, -⟩ := B.1.1.2.2 j j0 j1
  have S0 : SN h0 hr p k (fun _ => -1) (fun _ => -1) (fun _ => -1) h := fun n hn => ⟨(z n hn).1, ⟨(z n hn).2.1, fun y => absurd rfl y⟩, (z n hn).2.2, fun y => absurd rfl y⟩
  obtain ⟨h', a1, a2, a3⟩ := c89_l B C j0 j1 hk 12 hF0 j (fun _ => -1) (fun _ => -1) (fun _ => -1) h (.inr ⟨⟨j0, j1⟩, w1⟩) (hF0_lt (by omega)) (Nat.le_refl _) (fun _ => .inl rfl) (fun _ => .inl rfl) (fun _ => .inl rfl) q S0 (fun n y => absurd rfl y)
  rw [hk] at a1
  refine ⟨h', ?_, a2, fun n hn => ?_⟩
  · unfold c89
    rw [a1]
    rfl
  · exact a3 n hn
end ST2
