/-! the calls that read kinds and creatures -/
section RDS
variable {hc hr : hS} {C : Nat → Int → Prop} {p m q : Nat} {r : Int → Nat}
theorem c108_e {h : hS} (n : Int) : c108 n h = some (if 0 ≤ n ∧ n < 40 then 1 else 0) := by
  unfold c108
  by_cases a : n < 0
  · rw [if_pos a, if_neg (by omega)]
  · rw [if_neg a]
    by_cases b : 40 ≤ n
    · rw [if_pos b, if_neg (by omega)]
    · rw [if_neg b, if_pos (by omega)]
theorem c244_e {h : hS} (n : Int) : c244 n h = some (if 0 ≤ n ∧ n < 40 then 1 else 0) := by
  unfold c244
  rw [c191_e]
  simp only [bsome]
  by_cases a : 0 ≤ n ∧ n ≤ 39
  · rw [if_pos a, if_pos (by omega)]
    rfl
  · rw [if_neg a, if_neg (by omega)]
    rfl
/-- does the creature n have the field f -/
def hsf (hc hr : hS) (n f : Int) : Bool := lvs hc n && decide (0 ≤ f ∧ f < 40) && decide (fAt hr 0 (hI hr 404 n.toNat) f ≠ -1)
theorem tb_f (T : TB hc hr p 0 m) {j f : Int} (j0 : 0 ≤ j) (j1 : j < m) (f0 : 0 ≤ f) (f1 : f < 40) : hI hc (kd hc p j + 8) f.toNat = if fAt hr 0 j f = -1 then 0 else 1 := by
  have := (T j j0 j1 f.toNat (by omega)).1
  rw [show ((f.toNat : Nat) : Int) = f by omega] at this
  exact this
theorem c106_1 (P : PW hc hr C p 0 m r) (T : TB hc hr p 0 m) {j f : Int} (j0 : 0 ≤ j) (j1 : j < m) (b : 0 ≤ f ∧ f < 40) (c : fAt hr 0 j f ≠ -1) : c106 (kd hc p j) f hc = some 1 := by
  rw [c106_e (P.2.2.1 j j0 j1).1, tb_f T j0 j1 b.1 b.2, if_neg c, if_pos ⟨b, by omega⟩]
theorem c106_0 (P : PW hc hr C p 0 m r) (T : TB hc hr p 0 m) {j f : Int} (j0 : 0 ≤ j) (j1 : j < m) (c : ¬ ((0 ≤ f ∧ f < 40) ∧ fAt hr 0 j f ≠ -1)) : c106 (kd hc p j) f hc = some 0 := by
  rw [c106_e (P.2.2.1 j j0 j1).1, if_neg]
  rintro ⟨b, d⟩
  rw [tb_f T j0 j1 b.1 b.2] at d
  by_cases e : fAt hr 0 j f = -1
  · rw [if_pos e] at d
    exact d rfl
  · exact c ⟨b, e⟩
theorem c105_e (S : SH hc) (P : PW hc hr C p 0 m r) (T : TB hc hr p 0 m) (R : CR hc hr p m q) (n f : Int) : c105 n f hc = some (if hsf hc hr n f = true then 1 else 0) := by
  unfold c105 hsf
  rw [c103_e S R]
  simp only [bsome]
  by_cases a : lvs hc n = true
  · obtain ⟨⟨⟨k0, k1, k2⟩, -⟩, hq⟩ := lvs_1 R a
    obtain ⟨⟨n0, n1⟩, -⟩ := lvs_b a
    have hs := S.1 n.toNat (by omega)
    have K := P.2.2.1 _ k0 k1
    rw [if_pos a, if_neg (by omega), aRs_s (by omega) (by omega)]
    simp only [bsome]
    rw [hs.1, gR_s hs.2.1]
    simp only [bsome]
    rw [k2, kT_s K.1.2.2.1]
    simp only [bsome]
    by_cases g : (0 ≤ f ∧ f < 40) ∧ fAt hr 0 (hI hr 404 n.toNat) f ≠ -1
    · rw [c106_1 P T k0 k1 g.1 g.2]
      simp only [bsome]
      rw [if_neg (show ¬ (1 : Int) = 0 by omega), if_pos (by simp [a, g.1, g.2])]
    · rw [c106_0 P T k0 k1 g]
      simp only [bsome]
      rw [if_pos trivial, if_neg]
      intro c
      rw [Bool.and_eq_true, Bool.and_eq_true] at c
      exact g ⟨of_decide_eq_true c.1.2, of_decide_eq_true c.2⟩
  · rw [if_neg a, if_pos rfl, if_neg (by simp [a])]
theorem c243_e (P : PW hc hr C p 0 m r) (R : CR hc hr p m q) (n f : Int) : c243 n f hr = some (if hsf hc hr n f = true then 1 else 0) := by
  unfold c243 hsf
  rw [c241_e R]
  simp only [bsome]
  by_cases a : lvs hc n = true
  · obtain ⟨⟨⟨k0, k1, k2⟩, -⟩, hq⟩ := lvs_1 R a
    obtain ⟨⟨n0, n1⟩, -⟩ := lvs_b a
    rw [if_pos a, if_neg (by omega), c244_e]
    simp only [bsome]
    by_cases b : 0 ≤ f ∧ f < 40
    · rw [if_pos b, if_neg (by omega), aIs_s (by omega) (by omega)]
      simp only [bsome]
      rw [c237_w P.1 (by omega) (by omega) (.inr ⟨k0, k1⟩)]
      simp only [bsome]
      by_cases c : fAt hr 0 (hI hr 404 n.toNat) f = -1
      · rw [if_pos c, if_neg (by simp [c])]
      · rw [if_neg c, if_pos (by simp [a, b, c])]
    · rw [if_neg b, if_pos rfl, if_neg (by simp [b])]
  · rw [if_neg a, if_pos rfl, if_neg (by simp [a])]
theorem hsf_b {n f : Int} (e : hsf hc hr n f = true) : lvs hc n = true ∧ (0 ≤ f ∧ f < 40) ∧ fAt hr 0 (hI hr 404 n.toNat) f ≠ -1 := by
  unfold hsf at e
  rw [Bool.and_eq_true, Bool.and_eq_true] at e
  exact ⟨e.1.1, of_decide_eq_true e.1.2, of_decide_eq_true e.2⟩
theorem api11 (S : SH hc) (P : PW hc hr C p 0 m r) (T : TB hc hr p 0 m) (R : CR hc hr p m q) (n f : Int) : ∃ v, c105 n f hc = some v ∧ c243 n f hr = some v := ⟨_, c105_e S P T R n f, c243_e P R n f⟩
/-- value -/
theorem api12 (S : SH hc) (P : PW hc hr C p 0 m r) (T : TB hc hr p 0 m) (R : CR hc hr p m q) (n f : Int) : ∃ v, c107 n f hc = some v ∧ c245 n f hr = some v := by
  unfold c107 c245
  rw [c103_e S R, c243_e P R]
  simp only [bsome]
  by_cases a : lvs hc n = true
  · obtain ⟨⟨⟨k0, k1, k2⟩, hv⟩, hq⟩ := lvs_1 R a
    obtain ⟨⟨n0, n1⟩, -⟩ := lvs_b a
    have hs := S.1 n.toNat (by omega)
    obtain ⟨s1, s2, s3, s4, s5, ⟨t1, t2, t3⟩, ⟨l1, l2, l3⟩, -⟩ := hs
    have K := P.2.2.1 _ k0 k1
    rw [if_pos a, if_neg (by omega), c108_e]
    simp only [bsome]
    by_cases b : 0 ≤ f ∧ f < 40
    · have hf := hv f.toNat (by omega)
      rw [show ((f.toNat : Nat) : Int) = f by omega] at hf
      have e40 : wadd (wmul 40 n) f = 40 * n + f := by rw [wmul_e (by omega) (by omega), wadd_e (by omega) (by omega)]
      have e41 : (40 * n + f).toNat = 40 * n.toNat + f.toNat := by omega
      rw [if_pos b, if_neg (by omega), aRs_s (by omega) (by omega)]
      simp only [bsome]
      rw [s1, gR_s s2]
      simp only [bsome]
      rw [k2, kT_s K.1.2.2.1]
      simp only [bsome]
      by_cases c : fAt hr 0 (hI hr 404 n.toNat) f = -1
      · have e1 : ¬ hsf hc hr n f = true := fun e => (hsf_b e).2.2 c
        rw [c106_0 P T k0 k1 (fun d => d.2 c), if_neg e1, c241_e R, if_pos a, c244_e, if_pos b]
        simp only [bsome]
        rw [if_pos trivial, if_pos trivial, if_neg (show ¬ (1 : Int) = 0 by omega), if_neg (show ¬ (1 : Int) = 0 by omega), gR_s s2]
        simp only [bsome]
        rw [s4, aI_s t2 (by omega) (by rw [l2]; omega), e40, aIs_s (by omega) (by omega)]
        simp only [bsome]
        rw [e41, hf.2.2.1]
        rcases hf.2.1 with z | z
        · rw [z, if_pos rfl, if_pos rfl]
          exact ⟨_, rfl, rfl⟩
        · rw [z, if_neg (show ¬ (1 : Int) = 0 by omega), if_neg (show ¬ (1 : Int) = 0 by omega), gR_s s2]
          simp only [bsome]
          rw [s5, aI_s t3 (by omega) (by rw [l3]; omega), aIs_s (by omega) (by omega)]
          simp only [bsome]
          exact ⟨_, rfl, by rw [e41, hf.2.2.2 z]⟩
      · have e1 : hsf hc hr n f = true := by unfold hsf; simp [a, b, c]
        rw [c106_1 P T k0 k1 b c, if_pos e1]
        simp only [bsome]
        rw [if_neg (show ¬ (1 : Int) = 0 by omega), if_neg (show ¬ (1 : Int) = 0 by omega), gR_s s2, e40, aIs_s (by omega) (by omega)]
        simp only [bsome]
        rw [s3, aI_s t1 (by omega) (by rw [l1]; omega)]
        simp only [bsome]
        exact ⟨_, rfl, by rw [e41, hf.1 c]⟩
    · have e1 : ¬ hsf hc hr n f = true := fun e => b (hsf_b e).2.1
      rw [if_neg b, if_pos rfl, if_neg e1, if_pos rfl, c241_e R, if_pos a]
      simp only [bsome]
      rw [if_neg (by omega), c244_e, if_neg b]
      exact ⟨_, rfl, rfl⟩
  · have e1 : ¬ hsf hc hr n f = true := fun e => a (hsf_b e).1
    rw [if_neg a, if_pos rfl, if_neg e1, if_pos rfl, c241_e R, if_neg a]
    exact ⟨_, rfl, rfl⟩
/-- fixed -/
theorem api14 (P : PW hc hr C p 0 m r) (T : TB hc hr p 0 m) (hp : hR hc 8 7 = p) (k n : Int) : ∃ v, c110 k n hc = some v ∧ c247 k n hr = some v := by
  obtain ⟨p1, p2, p3, p4, p5, p6, p7⟩ := P.2.1
  have hm := P.1.2.1
  unfold c110 c247
  rw [hp, kT_s p3]
  simp only [bsome]
  rw [c47_e P, c197_e (m := m) (by omega) (by omega) P.1.1 P.1.2.1]
  simp only [bsome]
  rcases ix_kind P k with e | ⟨k0, k1⟩
  · rw [e]
    simp only [kd, if_true, hnul_0, bsome]
    exact ⟨_, rfl, rfl⟩
  · generalize ix (fun j : Nat => wg hr 0 (j : Int) 0) k m = j at k0 k1
    have K := P.2.2.1 j k0 k1
    have K8 := kd_8 P k0 k1
    rw [hnul_8 (by omega), if_neg (show ¬ j = -1 by omega)]
    simp only [bsome]
    rw [if_neg (by simp), kT_s K.1.2.2.1]
    simp only [bsome]
    rw [c111_e K.1, c244_e]
    simp only [bsome]
    by_cases b : 0 ≤ n ∧ n < 40
    · have t := (T j k0 k1 n.toNat (by omega)).2.1
      rw [show ((n.toNat : Nat) : Int) = n by omega] at t
      rw [if_pos b, if_pos b, if_neg (by omega), t.1, c248_w P.1 (by omega) (by omega) (.inr ⟨k0, k1⟩)]
      simp only [bsome]
      unfold c110_j22 c247_j30
      rcases sAt_b (n := n) P.1 (.inr ⟨k0, k1⟩) with s | ⟨⟨u0, u1⟩, s⟩
      · rw [s]
        simp only [kd, if_true, hnul_0, bsome]
        exact ⟨_, rfl, rfl⟩
      · have t2 := t.2 (by omega)
        generalize sAt hr 0 j n = u at u0 u1 s t t2
        have U := P.2.2.1 u u0 u1
        have U8 := kd_8 P u0 u1
        obtain ⟨x1, x2, x3⟩ := KD16 K.1
        obtain ⟨y1, y2, y3⟩ := KD10 U.1
        obtain ⟨s0, s1, s2⟩ := sIx_lt P.1 u0 u1 s
        have WU := P.1.2.2 u u0 u1
        rw [hnul_8 (by omega)]
        simp only [bsome]
        rw [if_neg (by simp), gR_s U.1.2.2.1]
        simp only [bsome]
        rw [gR_s K.1.2.2.1]
        simp only [bsome]
        rw [x1, aI_s x2 (by omega) (by rw [x3]; omega)]
        simp only [bsome]
        rw [t2, y1, aI_s y2 (by omega) (by rw [y3]; omega), if_neg (by omega), c208_w P.1 (by omega) (by omega) u0 u1]
        simp only [bsome]
        rw [wadd_e (by omega) (by omega), c199_e (by omega) (by omega) u0 (by omega) (by omega) (by omega)]
        simp only [bsome]
        have hst := (U.2.2.2.2.2.1.2 (sIx hr 0 u n).toNat (by omega)).2.1
        rw [show (((sIx hr 0 u n).toNat : Nat) : Int) = sIx hr 0 u n by omega] at hst
        exact ⟨_, rfl, by rw [hst]⟩
    · rw [if_neg b, if_neg b, if_pos rfl]
      unfold c110_j22 c247_j19 c247_j30
      simp only [hnul_0, bsome]
      exact ⟨_, rfl, rfl⟩
/-- kinds, kind -/
theorem api6 (P : PW hc hr C p 0 m r) (hp : hR hc 8 7 = p) : ∃ v, c98 hc = some v ∧ c238 hr = some v := by
  obtain ⟨p1, p2, p3, p4, p5, p6, p7⟩ := P.2.1
  unfold c98 c238
  rw [hp, gI_s p3, c198_e (by omega) (by omega)]
  exact ⟨_, rfl, by rw [p7, ← P.1.1]; rfl⟩
theorem api7 (P : PW hc hr C p 0 m r) (hp : hR hc 8 7 = p) (i f : Int) : ∃ v, c99 i f hc = some v ∧ c239 i f hr = some v := by
  obtain ⟨p1, p2, p3, p4, p5, p6, p7⟩ := P.2.1
  have hm := P.1.2.1
  unfold c99 c239
  rw [hp, gI_s p3, c198_e (by omega) (by omega), P.1.1, p7]
  simp only [bsome]
  rw [wsub_e (by omega) (by omega), c191_e]
  simp only [bsome]
  by_cases a : i < 0
  · rw [if_pos a, if_neg (show ¬ (0 ≤ i ∧ i ≤ (m : Int) - 1) by omega), if_pos rfl]
    exact ⟨_, rfl, rfl⟩
  · rw [if_neg a]
    by_cases b : i < (m : Int)
    · have K := P.2.2.1 i (by omega) b
      obtain ⟨k1, k2, k3, k4, k5, k6, k7⟩ := K
      have ek : kd hc p i = hR hc (p + 1) i.toNat := kd_n (by omega)
      rw [if_pos b, gR_s p3, if_pos (show 0 ≤ i ∧ i ≤ (m : Int) - 1 by omega), if_neg (show ¬ (1 : Int) = 0 by omega)]
      simp only [bsome]
      rw [p4, aR_s p5 (by omega) (by omega)]
      simp only [bsome]
      rw [← ek]
      by_cases c : f < 0 ∨ 5 < f
      · rw [if_pos c, if_pos c]
        exact ⟨_, rfl, rfl⟩
      · rw [if_neg c, if_neg c]
        by_cases f0 : f = 0
        · rw [if_pos f0, if_pos f0, gI_s k1.2.2.1, c199_e (by omega) (by omega) (by omega) (by omega) (by omega) (by omega)]
          exact ⟨_, rfl, by rw [k2.1]; rfl⟩
        rw [if_neg f0, if_neg f0]
        by_cases f1 : f = 1
        · rw [if_pos f1, if_pos f1, gR_s k1.2.2.1, c199_e (by omega) (by omega) (by omega) (by omega) (by omega) (by omega)]
          simp only [bsome]
          rw [k3]
          rcases WF_up P.1 (u := i) ⟨by omega, b⟩ with u | ⟨u0, u1⟩
          · rw [u]
            simp only [kd, if_true, hnul_0, bsome]
            exact ⟨_, rfl, rfl⟩
          · have U := P.2.2.1 _ u0 u1
            have U8 := kd_8 P u0 u1
            rw [hnul_8 (by omega)]
            simp only [bsome]
            rw [if_neg (by simp), gI_s U.1.2.2.1, if_neg (by omega), c199_e (by omega) (by omega) u0 (by omega) (by omega) (by omega)]
            exact ⟨_, rfl, by rw [U.2.1.1]; rfl⟩
        rw [if_neg f1, if_neg f1]
        by_cases f2 : f = 2
        · rw [if_pos f2, if_pos f2, gI_s k1.2.2.1, c199_e (by omega) (by omega) (by omega) (by omega) (by omega) (by omega)]
          exact ⟨_, rfl, by rw [k4]; rfl⟩
        rw [if_neg f2, if_neg f2]
        by_cases f3 : f = 3
        · rw [if_pos f3, if_pos f3, gI_s k1.2.2.1, c199_e (by omega) (by omega) (by omega) (by omega) (by omega) (by omega)]
          exact ⟨_, rfl, by rw [k5.1]; rfl⟩
        rw [if_neg f3, if_neg f3]
        by_cases f4 : f = 4
        · rw [if_pos f4, if_pos f4, gI_s k1.2.2.1, c199_e (by omega) (by omega) (by omega) (by omega) (by omega) (by omega)]
          exact ⟨_, rfl, by rw [k6.1]; rfl⟩
        rw [if_neg f4, if_neg f4]
        have f5 : f = 5 := by omega
        rw [if_pos f5, if_pos f5, gI_s k1.2.2.1, c199_e (by omega) (by omega) (by omega) (by omega) (by omega) (by omega)]
        exact ⟨_, rfl, by rw [k7.1]; rfl⟩
    · rw [if_neg b, if_neg (show ¬ (0 ≤ i ∧ i ≤ (m : Int) - 1) by omega), if_pos rfl]
      exact ⟨_, rfl, rfl⟩
end RDS
