/-! create -/
section CR2
variable {hc hr : hS} {C : Nat → Int → Prop} {p m q : Nat} {r : Int → Nat}
/-- nothing is lost yet -/
theorem c101_lo {a c : Nat} {h : hS} (ha : a + 3 < 448) (S : SHc h a c) : ∀ (k i N : Nat) (h1 : hS), i + k = 40 → k < N → fp (fun x _ => x = a + 2) h h1 → ∃ h2, lp (fun s => c101_b12 a s.1 s.2) N ((i : Int), h1) = some h2 ∧ fp (fun x _ => x = a + 2) h h2 ∧ ∀ n : Nat, n < 40 → hI h2 (a + 2) n = if i ≤ n then 0 else hI h1 (a + 2) n
  | 0, i, N, h1, e1, e2, f1 => by
    obtain ⟨N, rfl⟩ : ∃ N1, N = N1 + 1 := ⟨N - 1, by omega⟩
    refine ⟨h1, lp_d ?_, f1, fun n hn => by rw [if_neg (by omega)]⟩
    show c101_b12 a (i : Int) h1 = _
    unfold c101_b12
    rw [if_pos (by omega)]
  | k + 1, i, N, h1, e1, e2, f1 => by
    obtain ⟨N, rfl⟩ : ∃ N1, N = N1 + 1 := ⟨N - 1, by omega⟩
    have hT1 : hT h1 = hT h := by show h1.2.2.2.1 = h.2.2.2.1; rw [f1.1]
    have hR1 : hR h1 = hR h := by show h1.2.1 = h.2.1; rw [f1.1]
    have hL1 : hL h1 = hL h := by show h1.2.2.2.2.1 = h.2.2.2.2.1; rw [f1.1]
    have S' := S
    obtain ⟨s2, s3, s4, s5, ⟨t1, t2, t3⟩, ⟨l1, l2, l3⟩, s6⟩ := S
    have step : c101_b12 a (i : Int) h1 = some (.inl (((i + 1 : Nat) : Int), sI h1 (a + 2) i 0)) := by
      unfold c101_b12
      rw [if_neg (by omega), gR_s (by rw [hT1]; exact s2)]
      simp only [bsome]
      rw [hR1, s4, wI_s (by rw [hT1]; exact t2) (by omega) (by rw [hL1, l2]; omega), wadd_e (by omega) (by omega), wbol_0]
      rfl
    obtain ⟨h2, g1, g2, g3⟩ := c101_lo (c := c) ha S' k (i + 1) N (sI h1 (a + 2) i 0) (by omega) (by omega) (fp_tr f1 (fp_sI rfl))
    refine ⟨h2, by rw [lp_n (s' := (((i + 1 : Nat) : Int), sI h1 (a + 2) i 0)) step]; exact g1, g2, fun n hn => ?_⟩
    rw [g3 n hn, hI_sI]
    repeat' split
    all_goals first | rfl | (exfalso; omega) | (exfalso; simp_all; done)
/-- the other side's row of values of a new creature -/
theorem c236_l {k : Int} {c : Nat} (hc40 : c < 40) (W : WF hr 0 m r) (k0 : 0 ≤ k) (k1 : k < m) : ∀ (d i N : Nat) (h1 : hS), i + d = 40 → d < N → fp (fun x _ => x = 405 ∨ x = 407) hr h1 → ∃ h2, lp (fun s => c236_b55 k c s.1 s.2) N ((i : Int), h1) = some h2 ∧ fp (fun x _ => x = 405 ∨ x = 407) hr h2 ∧ ∀ j : Nat, j < 1600 → (hI h2 405 j = if 40 * c + i ≤ j ∧ j < 40 * c + 40 then (if fAt hr 0 k (j - 40 * c : Nat) = -1 then 0 else fV hr 0 k (j - 40 * c : Nat)) else hI h1 405 j) ∧ (hI h2 407 j = if 40 * c + i ≤ j ∧ j < 40 * c + 40 then 0 else hI h1 407 j)
  | 0, i, N, h1, e1, e2, f1 => by
    obtain ⟨N, rfl⟩ : ∃ N1, N = N1 + 1 := ⟨N - 1, by omega⟩
    refine ⟨h1, lp_d ?_, f1, fun j hj => by rw [if_neg (by omega), if_neg (by omega)]; exact ⟨rfl, rfl⟩⟩
    show c236_b55 k c (i : Int) h1 = _
    unfold c236_b55
    rw [if_pos (by omega)]
  | d + 1, i, N, h1, e1, e2, f1 => by
    obtain ⟨N, rfl⟩ : ∃ N1, N = N1 + 1 := ⟨N - 1, by omega⟩
    have hm := W.2.1
    have ew : ∀ k' f', wg h1 0 k' f' = wg hr 0 k' f' := fun k' f' => f1.2 400 _ (by omega)
    have em : wm h1 0 = wm hr 0 := f1.2 400 _ (by omega)
    have W1 := WF_cg (hr' := h1) W ew em
    have e40 : wadd (wmul 40 (c : Int)) (i : Int) = ((40 * c + i : Nat) : Int) := by rw [wmul_e (by omega) (by omega), wadd_e (by omega) (by omega)]; omega
    have step : c236_b55 k c (i : Int) h1 = some (.inl (((i + 1 : Nat) : Int), sI (sI h1 405 (40 * c + i) (if fAt hr 0 k i = -1 then 0 else fV hr 0 k i)) 407 (40 * c + i) 0)) := by
      unfold c236_b55
      rw [if_neg (by omega), c237_w W1 (by omega) (by omega) (.inr ⟨k0, k1⟩), e40]
      simp only [bsome]
      rw [fAt_cg ew]
      rcases fAt_b (n := (i : Int)) W (.inr ⟨k0, k1⟩) with s | ⟨⟨u0, u1⟩, s⟩
      · rw [if_pos s, if_pos s]
        unfold c236_j112
        rw [e40, wIs_s (by omega) (by omega)]
        simp only [bsome]
        rw [wIs_s (by omega) (by omega), wbol_0, wadd_e (by omega) (by omega)]
        simp only [bsome]
        rfl
      · have hne : ¬ fAt hr 0 k i = -1 := by omega
        obtain ⟨s0, s1, s2⟩ := fIx_lt W u0 u1 s
        have WU := W.2.2 _ u0 u1
        rw [if_neg hne, if_neg hne, c207_w W1 (by omega) (by omega) u0 u1, fIx_cg ew]
        simp only [bsome]
        rw [wadd_e (by omega) (by omega), c199_e (by omega) (by omega) u0 (by omega) (by omega) (by omega), ew]
        simp only [bsome]
        unfold c236_j112
        rw [e40, wIs_s (by omega) (by omega)]
        simp only [bsome]
        rw [wIs_s (by omega) (by omega), wbol_0, wadd_e (by omega) (by omega)]
        simp only [bsome]
        rfl
    obtain ⟨h2, g1, g2, g3⟩ := c236_l hc40 W k0 k1 d (i + 1) N _ (by omega) (by omega) (fp_tr f1 (fp_tr (fp_sI (x := 405) (i := 40 * c + i) (v := if fAt hr 0 k i = -1 then 0 else fV hr 0 k i) (.inl rfl)) (fp_sI (x := 407) (i := 40 * c + i) (v := 0) (.inr rfl))))
    refine ⟨h2, by rw [lp_n (s' := (((i + 1 : Nat) : Int), _)) step]; exact g1, g2, fun j hj => ?_⟩
    obtain ⟨g4, g5⟩ := g3 j hj
    rw [g4, g5]
    by_cases c1 : j = 40 * c + i
    · subst c1
      rw [show 40 * c + i - 40 * c = i by omega]
      generalize (if fAt hr 0 k (i : Int) = -1 then (0 : Int) else fV hr 0 k (i : Int)) = V
      refine ⟨?_, ?_⟩
      · simp only [hI_sI]
        repeat' split
        all_goals first | rfl | (exfalso; omega) | (exfalso; simp_all; done)
      · simp only [hI_sI]
        repeat' split
        all_goals first | rfl | (exfalso; omega) | (exfalso; simp_all; done)
    · generalize (if fAt hr 0 k (((j - 40 * c : Nat)) : Int) = -1 then (0 : Int) else fV hr 0 k (((j - 40 * c : Nat)) : Int)) = V
      generalize (if fAt hr 0 k (i : Int) = -1 then (0 : Int) else fV hr 0 k (i : Int)) = V2
      refine ⟨?_, ?_⟩
      · simp only [hI_sI]
        repeat' split
        all_goals first | rfl | (exfalso; omega) | (exfalso; simp_all; done)
      · simp only [hI_sI]
        repeat' split
        all_goals first | rfl | (exfalso; omega) | (exfalso; simp_all; done)
theorem api8 (S : SH hc) (P : PW hc hr C p 0 m r) (L : CL hr 0 m) (R : CR hc hr p m q) (hp : hR hc 8 7 = p) (hp2 : p = 213 ∨ 448 ≤ p) (n : Int) : ∃ v hc' hr' q', c100 n hc = some (v, hc') ∧ c236 n hr = some (v, hr') ∧ CR hc' hr' p m q' ∧ (q' = q ∨ (q' = q + 1 ∧ q < 40 ∧ hI hc' 20 q = 3 ∧ hI hr' 418 q = 3)) ∧ chg (fun x => x = 8 ∨ x = 20 ∨ (215 ≤ x ∧ x < 375)) hc hc' ∧ (∀ j, j ≠ 8 → hI hc' 8 j = hI hc 8 j) ∧ (∀ j, hR hc' 8 j = hR hc 8 j) ∧ (∀ j, j ≠ q → hI hc' 20 j = hI hc 20 j) ∧ SH hc' ∧ fp (fun x j => (x = 395 ∧ j = 33) ∨ x = 403 ∨ x = 404 ∨ x = 405 ∨ x = 407 ∨ (x = 418 ∧ j = q)) hr hr' := by
  obtain ⟨p1, p2, p3, p4, p5, p6, p7⟩ := P.2.1
  have hm := P.1.2.1
  obtain ⟨r1, r2, r3, r4⟩ := R
  unfold c100 c236
  rw [hp, kT_s p3]
  simp only [bsome]
  rw [c47_e P, c197_e (m := m) (by omega) (by omega) P.1.1 P.1.2.1]
  simp only [bsome]
  rcases ix_kind P n with e | ⟨k0, k1⟩
  · rw [e]
    simp only [kd, if_true, hnul_0, bsome]
    exact ⟨_, _, _, q, rfl, rfl, ⟨r1, r2, r3, r4⟩, .inl rfl, chg_rf, fun _ _ => rfl, fun _ => rfl, fun _ _ => rfl, S, fp_rf⟩
  · generalize ix (fun j : Nat => wg hr 0 (j : Int) 0) n m = u at k0 k1
    have K := P.2.2.1 u k0 k1
    have K8 := kd_8 P k0 k1
    rw [hnul_8 (by omega), if_neg (show ¬ u = -1 by omega)]
    simp only [bsome]
    rw [if_neg (show ¬ (false = true) by simp), r1, r2]
    by_cases hq : q = 40
    · rw [if_neg (by omega), if_pos (by omega)]
      exact ⟨_, _, _, q, rfl, rfl, ⟨r1, r2, r3, r4⟩, .inl rfl, chg_rf, fun _ _ => rfl, fun _ => rfl, fun _ _ => rfl, S, fp_rf⟩
    · rw [if_pos (by omega), if_neg (by omega), aRs_s (by omega) (by omega)]
      simp only [bsome, Int.toNat_natCast]
      obtain ⟨s1, sc⟩ := S.1 q (by omega)
      rw [s1, kT_s sc.1]
      simp only [bsome]
      -- the class comes to life
      have hA : ∃ hA, c101 (215 + 4 * q) (kd hc p u) hc = some hA ∧ chg (fun x => 215 ≤ x ∧ x < 375) hc hA ∧ SH hA ∧ (∀ x, 215 + 4 * q ≤ x ∧ x < 215 + 4 * q + 4 ∨ (hI hA x = hI hc x ∧ hR hA x = hR hc x)) ∧ hI hA (215 + 4 * q) 1 = 1 ∧ hR hA (215 + 4 * q) 2 = kd hc p u ∧ ∀ i : Nat, i < 40 → hI hA (215 + 4 * q + 2) i = 0 ∧ (fAt hr 0 u i ≠ -1 → hI hA (215 + 4 * q + 1) i = fV hr 0 u i) := by
        have x0 := sc
        obtain ⟨x2, x3, x4, x5, ⟨t1, t2, t3⟩, ⟨l1, l2, l3⟩, x6⟩ := sc
        unfold c101
        rw [pI_s x2]
        simp only [bsome]
        rw [pR_s (show hT (sI hc (215 + 4 * q) 1 1) (215 + 4 * q) = 16 from x2)]
        simp only [bsome]
        generalize hh2 : sR (sI hc (215 + 4 * q) 1 1) (215 + 4 * q) 2 (kd hc p u) = h2
        have ch2 : chg (fun x => x = 215 + 4 * q) hc h2 := by rw [← hh2]; exact chg_tr (chg_sI rfl) (chg_sR rfl)
        have SC2 : SHc h2 (215 + 4 * q) q := by
          rw [← hh2]
          refine ⟨x2, ?_, ?_, ?_, ⟨t1, t2, t3⟩, ⟨l1, l2, l3⟩, ?_⟩
          · rw [hR_sR, if_neg (by omega)]; exact x3
          · rw [hR_sR, if_neg (by omega)]; exact x4
          · rw [hR_sR, if_neg (by omega)]; exact x5
          · rw [hI_sR, hI_sI, if_neg (by omega)]; exact x6
        obtain ⟨h3, g1, g2, g3⟩ := c101_lo (c := q) (by omega) SC2 40 0 hF0 h2 (by omega) (hF0_lt (by omega)) fp_rf
        have g1 : lp (fun s => c101_b12 (215 + 4 * q) s.1 s.2) hF0 (0, h2) = some h3 := g1
        rw [g1]
        simp only [bsome]
        have ch3 : chg (fun x => x = 215 + 4 * q ∨ x = 215 + 4 * q + 2) hc h3 := chg_tr (chg_mono ch2 (fun x e => .inl e)) (chg_fp g2 (fun x j e => .inr e))
        have P3 : PW h3 hr C p 0 m r := PW_cg P (chg_same ch3 (by rintro x ⟨e1 | e1 | ⟨e1, -⟩, e2⟩ <;> omega)) (by rw [ch3.2.2.2.1]; omega) (fun _ _ => rfl) rfl (fun _ _ x => x)
        have hk3 : kd h3 p u = kd hc p u := kd_cg P (chg_same ch3 (by rintro x ⟨e1 | e1 | ⟨e1, -⟩, e2⟩ <;> omega)) u
        have SC3 : SHc h3 (215 + 4 * q) q := by
          obtain ⟨y2, y3, y4, y5, y6, y7, y8⟩ := SC2
          have eR : hR h3 = hR h2 := by show h3.2.1 = h2.2.1; rw [g2.1]
          have eT : hT h3 = hT h2 := by show h3.2.2.2.1 = h2.2.2.2.1; rw [g2.1]
          have eL : hL h3 = hL h2 := by show h3.2.2.2.2.1 = h2.2.2.2.2.1; rw [g2.1]
          unfold SHc
          rw [eR, eT, eL, g2.2 (215 + 4 * q) 0 (by omega)]
          exact ⟨y2, y3, y4, y5, y6, y7, y8⟩
        obtain ⟨h4, q1, q2, q3⟩ := c101_ch (c := q) P3 L (by omega) (by omega) SC3 12 hF0 u h3 (.inr ⟨⟨k0, k1⟩, (P.1.2.2 u k0 k1).1⟩) (hF0_lt (by omega)) fp_rf
        rw [hk3] at q1
        rw [q1]
        simp only [bsome]
        have ch4 : chg (fun x => x = 215 + 4 * q ∨ x = 215 + 4 * q + 2 ∨ x = 215 + 4 * q + 1) hc h4 := chg_tr (chg_mono ch3 (fun x e => by omega)) (chg_fp q2 (fun x j e => .inr (.inr e)))
        have eR4 : hR h4 = hR h2 := by
          have a1 : hR h4 = hR h3 := by show h4.2.1 = h3.2.1; rw [q2.1]
          have a2 : hR h3 = hR h2 := by show h3.2.1 = h2.2.1; rw [g2.1]
          rw [a1, a2]
        have eI0 : ∀ j, hI h4 (215 + 4 * q) j = hI h2 (215 + 4 * q) j := fun j => by rw [q2.2 _ j (by omega), g2.2 _ j (by omega)]
        refine ⟨h4, rfl, chg_mono ch4 (fun x e => by omega), ?_, ?_, ?_, ?_, ?_⟩
        · refine SH_cg S ?_ ch4.2.1 ch4.2.2.1 ?_ ?_
          · intro x j e
            exact (ch4.2.2.2.2.2 x (by omega) j).2
          · intro x j e1 e2 e3
            rw [eR4, ← hh2, hR_sR, if_neg (by omega)]
            rfl
          · intro c hc40
            refine ⟨?_, (ch4.2.2.2.2.2 (53 + 4 * c) (by omega) 0).1⟩
            by_cases e : c = q
            · rw [e, eI0, ← hh2, hI_sR, hI_sI, if_neg (by omega)]
            · exact (ch4.2.2.2.2.2 (215 + 4 * c) (by omega) 0).1
        · intro x
          by_cases e : 215 + 4 * q ≤ x ∧ x < 215 + 4 * q + 4
          · exact .inl e
          · exact .inr ⟨funext fun j => (ch4.2.2.2.2.2 x (by omega) j).1, funext fun j => (ch4.2.2.2.2.2 x (by omega) j).2⟩
        · rw [eI0, ← hh2, hI_sR, hI_sI, if_pos ⟨rfl, rfl⟩]
        · rw [eR4, ← hh2, hR_sR, if_pos ⟨rfl, rfl⟩]
        · intro i hi
          refine ⟨?_, fun e => ?_⟩
          · rw [q2.2 _ i (by omega), g3 i hi, if_pos (by omega)]
          · rw [q3 i hi, if_neg e]
      obtain ⟨hA, a1, a2, a3, a4, a5, a6, a7⟩ := hA
      rw [a1]
      simp only [bsome]
      have b88 : hI hA 8 8 = q := by rw [(a2.2.2.2.2.2 8 (by omega) 8).1]; exact r1
      rw [b88, wIs_s (by omega) (by omega)]
      simp only [bsome, Int.toNat_natCast]
      have b88' : hI (sI hA 20 q 3) 8 8 = q := by rw [hI_sI, if_neg (by omega)]; exact b88
      rw [b88', wadd_e (by omega) (by omega)]
      have b88'' : hI (sI (sI hA 20 q 3) 8 8 ((q : Int) + 1)) 8 8 = (q : Int) + 1 := by rw [hI_sI, if_pos ⟨rfl, rfl⟩]
      rw [b88'', wsub_e (by omega) (by omega)]
      -- the other side
      have d33 : hI (sI hr 395 33 ((q : Int) + 1)) 395 33 = (q : Int) + 1 := by rw [hI_sI, if_pos ⟨rfl, rfl⟩]
      rw [wIs_s (by omega) (by omega)]
      simp only [bsome, Int.toNat_natCast]
      rw [wIs_s (by omega) (by omega), wbol_1]
      simp only [bsome, Int.toNat_natCast]
      generalize hb0 : sI (sI (sI hr 395 33 ((q : Int) + 1)) 403 q 1) 404 q u = hB
      have f0 : fp (fun x j => (x = 395 ∧ j = 33) ∨ (x = 403 ∧ j = q) ∨ (x = 404 ∧ j = q)) hr hB := by
        rw [← hb0]
        exact fp_tr (fp_tr (fp_sI (.inl ⟨rfl, rfl⟩)) (fp_sI (.inr (.inl ⟨rfl, rfl⟩)))) (fp_sI (.inr (.inr ⟨rfl, rfl⟩)))
      have ewB : ∀ k f, wg hB 0 k f = wg hr 0 k f := fun k f => f0.2 400 _ (by omega)
      have emB : wm hB 0 = wm hr 0 := f0.2 400 _ (by omega)
      obtain ⟨hD, g1, g2, g3⟩ := c236_l (hr := hB) (c := q) (by omega) (WF_cg P.1 ewB emB) k0 k1 40 0 hF0 hB (by omega) (hF0_lt (by omega)) fp_rf
      have g1 : lp (fun s => c236_b55 u q s.1 s.2) hF0 (0, hB) = some hD := g1
      rw [g1]
      simp only [bsome]
      rw [wIs_s (by omega) (by omega)]
      simp only [bsome, Int.toNat_natCast]
      have fD : fp (fun x j => (x = 395 ∧ j = 33) ∨ (x = 403 ∧ j = q) ∨ (x = 404 ∧ j = q) ∨ x = 405 ∨ x = 407 ∨ (x = 418 ∧ j = q)) hr (sI hD 418 q 3) := by
        refine fp_tr (fp_tr ⟨f0.1, fun x j e => f0.2 x j (by omega)⟩ ⟨g2.1, fun x j e => g2.2 x j (by omega)⟩) (fp_sI (by omega))
      have ewD : ∀ k f, wg (sI hD 418 q 3) 0 k f = wg hr 0 k f := fun k f => fD.2 400 _ (by omega)
      have hkA : ∀ v, kd (sI (sI hA 20 q 3) 8 8 ((q : Int) + 1)) p v = kd hc p v := fun v => by
        unfold kd
        split
        · rfl
        · exact (a2.2.2.2.2.2 (p + 1) (by omega) _).2
      refine ⟨_, _, _, q + 1, rfl, by rw [show (q : Int) + 1 - 1 = q by omega], ?_, .inr ⟨rfl, by omega, ?_, ?_⟩, ?_, ?_, ?_, ?_, ?_, ?_⟩
      · refine ⟨by rw [b88'']; omega, ?_, by omega, fun c hc40 => ?_⟩
        · rw [hI_sI, if_neg (by omega), g2.2 395 33 (by omega), ← hb0, hI_sI, if_neg (by omega), hI_sI, if_neg (by omega), d33]
          omega
        · obtain ⟨u1, u2, u3, u4⟩ := r4 c hc40
          have e403 : ∀ c', hI (sI hD 418 q 3) 403 c' = if c' = q then 1 else hI hr 403 c' := fun c' => by
            have t1 : hI (sI hD 418 q 3) 403 c' = hI hB 403 c' := by
              rw [hI_sI, if_neg (by omega)]
              exact g2.2 403 c' (by omega)
            rw [t1, ← hb0]
            by_cases cc : c' = q
            · rw [if_pos cc, hI_sI, if_neg (by omega), hI_sI, if_pos ⟨rfl, cc⟩]
            · rw [if_neg cc, hI_sI, if_neg (by omega), hI_sI, if_neg (by omega), hI_sI, if_neg (by omega)]
          have e404 : ∀ c', hI (sI hD 418 q 3) 404 c' = if c' = q then u else hI hr 404 c' := fun c' => by
            have t1 : hI (sI hD 418 q 3) 404 c' = hI hB 404 c' := by
              rw [hI_sI, if_neg (by omega)]
              exact g2.2 404 c' (by omega)
            rw [t1, ← hb0]
            by_cases cc : c' = q
            · rw [if_pos cc, hI_sI, if_pos ⟨rfl, cc⟩]
            · rw [if_neg cc, hI_sI, if_neg (by omega), hI_sI, if_neg (by omega), hI_sI, if_neg (by omega)]
          have eC : ∀ x j, x ≠ 20 → x ≠ 8 → hI (sI (sI hA 20 q 3) 8 8 ((q : Int) + 1)) x j = hI hA x j := fun x j x1 x2 => by
            rw [hI_sI, if_neg (by omega), hI_sI, if_neg (by omega)]
          rw [eC _ _ (by omega) (by omega), e403]
          by_cases hcq : c = q
          · subst hcq
            rw [a5, if_pos rfl]
            refine ⟨.inr rfl, fun _ => rfl, fun h => by omega, fun _ => ?_⟩
            unfold C1
            rw [e404, if_pos rfl, hkA]
            refine ⟨⟨k0, k1, a6⟩, fun i hi => ?_⟩
            obtain ⟨a71, a72⟩ := a7 i hi
            obtain ⟨g4, g5⟩ := g3 (40 * c + i) (by omega)
            have z405 : hI (sI hD 418 c 3) 405 (40 * c + i) = if fAt hr 0 u i = -1 then 0 else fV hr 0 u i := by
              have t1 : hI (sI hD 418 c 3) 405 (40 * c + i) = hI hD 405 (40 * c + i) := by rw [hI_sI, if_neg (by omega)]
              rw [t1, g4, if_pos (by omega), show 40 * c + i - 40 * c = i by omega, fAt_cg ewB]
              unfold fV
              rw [fAt_cg ewB, fIx_cg ewB, ewB]
            have z407 : hI (sI hD 418 c 3) 407 (40 * c + i) = 0 := by
              have t1 : hI (sI hD 418 c 3) 407 (40 * c + i) = hI hD 407 (40 * c + i) := by rw [hI_sI, if_neg (by omega)]
              rw [t1, g5, if_pos (by omega)]
            rw [fAt_cg ewD, eC _ _ (by omega) (by omega), eC _ _ (by omega) (by omega), eC _ _ (by omega) (by omega), a71, z405, z407]
            refine ⟨fun h => ?_, .inl rfl, rfl, fun h => by omega⟩
            rw [a72 h, if_neg h]
          · rcases a4 (215 + 4 * c) with hx | ⟨hx, hx2⟩
            · omega
            rw [hx, if_neg hcq]
            refine ⟨u1, fun h => u2 (by omega), fun h => u3 (by omega), fun h1 => ?_⟩
            obtain ⟨⟨x1, x2, x3⟩, x4⟩ := u4 h1
            unfold C1
            rw [e404, if_neg hcq, hkA]
            have eR : hR (sI (sI hA 20 q 3) 8 8 ((q : Int) + 1)) (215 + 4 * c) 2 = hR hc (215 + 4 * c) 2 := by
              show hR hA (215 + 4 * c) 2 = _
              rw [hx2]
            refine ⟨⟨x1, x2, by rw [eR]; exact x3⟩, fun i hi => ?_⟩
            obtain ⟨y1, y2, y3, y4⟩ := x4 i hi
            obtain ⟨g4, g5⟩ := g3 (40 * c + i) (by omega)
            have eo : ∀ o : Nat, o ≤ 3 → hI hA (215 + 4 * c + o) = hI hc (215 + 4 * c + o) := fun o ho => by
              rcases a4 (215 + 4 * c + o) with hx | ⟨hx, -⟩
              · omega
              · exact hx
            have e405 : hI (sI hD 418 q 3) 405 (40 * c + i) = hI hr 405 (40 * c + i) := by
              rw [hI_sI, if_neg (by omega), g4, if_neg (by omega)]
              exact f0.2 405 _ (by omega)
            have e407 : hI (sI hD 418 q 3) 407 (40 * c + i) = hI hr 407 (40 * c + i) := by
              rw [hI_sI, if_neg (by omega), g5, if_neg (by omega)]
              exact f0.2 407 _ (by omega)
            have e406 : hI (sI hD 418 q 3) 406 (40 * c + i) = hI hr 406 (40 * c + i) := fD.2 406 _ (by omega)
            rw [fAt_cg ewD, eC _ _ (by omega) (by omega), eC _ _ (by omega) (by omega), eC _ _ (by omega) (by omega), eo 1 (by omega), eo 2 (by omega), eo 3 (by omega), e405, e406, e407]
            exact ⟨y1, y2, y3, y4⟩
      · rw [hI_sI, if_neg (by omega), hI_sI, if_pos ⟨rfl, rfl⟩]
      · rw [hI_sI, if_pos ⟨rfl, rfl⟩]
      · exact chg_tr (chg_mono a2 (fun x e => .inr (.inr e))) (chg_tr (chg_sI (.inr (.inl rfl))) (chg_sI (.inl rfl)))
      · intro j hj
        rw [hI_sI, if_neg (by omega), hI_sI, if_neg (by omega)]
        exact (a2.2.2.2.2.2 8 (by omega) j).1
      · intro j
        exact (a2.2.2.2.2.2 8 (by omega) j).2
      · intro j hj
        rw [hI_sI, if_neg (by omega), hI_sI, if_neg (by omega)]
        exact (a2.2.2.2.2.2 20 (by omega) j).1
      · refine SH_cg a3 (fun _ _ _ => rfl) rfl rfl (fun _ _ _ _ _ => rfl) (fun c hc40 => ⟨?_, ?_⟩)
        · rw [hI_sI, if_neg (by omega), hI_sI, if_neg (by omega)]
        · rw [hI_sI, if_neg (by omega), hI_sI, if_neg (by omega)]
      · exact ⟨fD.1, fun x j e => fD.2 x j (by omega)⟩
end CR2
