/-! call 21: begin (3) -/
section BGQ
variable {h h' h0 h1 t t' t0 t1 t2 : hS} {K : Nat → Int → Prop} {p m q κ l c : Nat} {r : Int → Nat} {v : Int} {S : Nat → Prop}
theorem api21 (U : RUNp K p m q r κ h t) (Ss : SL h) (L : LA h t) (LR : LRs h t K κ) (n a x : Int) : ∃ (v : Int) (h' t' : hS), c168 n a x h = some (v, h') ∧ c293 n a x t = some (v, t') ∧ RUNp K p m q r κ h' t' ∧ SL h' ∧ LA h' t' ∧ LRs h' t' K κ ∧ chg (fun x => 375 ≤ x ∧ x < 395) h h' ∧ fp (fun y _ => (408 ≤ y ∧ y ≤ 416) ∨ (423 ≤ y ∧ y ≤ 437)) t t' := by
  obtain ⟨S, P, T, C, hp, D⟩ := id U.1
  have lv := c241_e C n
  have e103 := c103_e S C n
  -- nothing is begun
  have no : ∀ t', lvL 0 t t' → c168 n a x h = some (-1, h) → c293 n a x t = some (-1, t') → ∃ (v : Int) (h' t' : hS), c168 n a x h = some (v, h') ∧ c293 n a x t = some (v, t') ∧ RUNp K p m q r κ h' t' ∧ SL h' ∧ LA h' t' ∧ LRs h' t' K κ ∧ chg (fun x => 375 ≤ x ∧ x < 395) h h' ∧ fp (fun y _ => (408 ≤ y ∧ y ≤ 416) ∨ (423 ≤ y ∧ y ≤ 437)) t t' := fun t' f e1 e2 => by
    have ch : chg (fun x => (20 ≤ x ∧ x ≤ 47) ∨ (375 ≤ x ∧ x < 395)) h h := chg_rf
    refine ⟨-1, h, t', e1, e2, RUN_c U ch (fun y j hy => f.2 y j (by omega)) (fun _ _ => rfl) (rnn_c U.2.2.2.2.1 (fun _ _ _ => rfl) (fun y j hy => f.2 y j (by omega))) rfl, Ss, fun l hl => LA1_g (L l hl) ch (fun _ z => z) (fun _ => rfl) rfl (fun y h1 h2 => f.2 y l (by omega)) (f.2 437 _ (by omega)), LRs_g LR ch (fun _ z => z) (fun _ => True) (fun _ _ _ _ => ⟨rfl, rfl⟩) (fun l _ _ y h1 h2 => f.2 y l (by omega)) (fun l _ _ y j h1 h2 _ _ => f.2 y j (by omega)) (fun j => f.2 399 j (by omega)) (fun _ _ z => absurd trivial z), chg_rf, ⟨f.1, fun y j z => f.2 y j (by omega)⟩⟩
  have lv0 : lvL 0 t t := fp_rf
  -- the other side's search
  have ref10 : (∀ i : Nat, i < 10 → hI t 423 i ≠ 0) → c293 n a x t = some (-1, t) := fun fr => by
    unfold c293
    refine bnd (c293_0 (l := 10) (by omega) fr (.inl rfl)) ?_
    rw [if_pos (show ((10 : Nat) : Int) = 10 from rfl)]
  by_cases z : lvs h n = true
  · rw [if_pos z] at lv e103
    obtain ⟨⟨n0, n1⟩, n2⟩ := lvs_b z
    obtain ⟨c, rfl⟩ : ∃ c : Nat, n = (c : Int) := ⟨n.toNat, by omega⟩
    rw [Int.toNat_natCast] at n2
    have c40 : c < 40 := by omega
    have ecr : aRs h 19 40 (c : Int) = some (215 + 4 * c) := by rw [aRs_s (by omega) (by omega), Int.toNat_natCast, (S.1 c (by omega)).1]
    obtain ⟨u1, u2, u3, u4⟩ := C.2.2.2 c c40
    obtain ⟨⟨k0, k1, k2⟩, -⟩ := u4 n2
    have hs := (S.1 c c40).2
    obtain ⟨jj, hj⟩ : ∃ jj, hI t 404 c = jj := ⟨_, rfl⟩
    rw [hj] at k0 k1 k2
    have KDj := (P.2.2.1 jj k0 k1).1
    have cls : ∀ o, c168_j25 (if 0 ≤ a ∧ a < 40 then hR h (kd h p jj + 11) a.toNat else 0) (c : Int) a x h = some o → c168 (c : Int) a x h = some o := fun o e => by
      unfold c168
      refine bnd e103 ?_
      rw [if_neg (by omega)]
      refine bnd ecr ?_
      rw [gR_s hs.1, k2]
      refine bnd rfl ?_
      refine bnd (kT_s KDj.2.2.1) ?_
      exact bnd (c115_e KDj) e
    -- there is no such act
    have none : ∀ t2, c252 0 (c : Int) a x t = some (0, t2) → lvL 0 t t2 → (if 0 ≤ a ∧ a < 40 then hR h (kd h p jj + 11) a.toNat else 0) = 0 → ∃ (v : Int) (h' t' : hS), c168 (c : Int) a x h = some (v, h') ∧ c293 (c : Int) a x t = some (v, t') ∧ RUNp K p m q r κ h' t' ∧ SL h' ∧ LA h' t' ∧ LRs h' t' K κ ∧ chg (fun x => 375 ≤ x ∧ x < 395) h h' ∧ fp (fun y _ => (408 ≤ y ∧ y ≤ 416) ∨ (423 ≤ y ∧ y ≤ 437)) t t' := fun t2 e1 f e0 => by
      have ec : c168 (c : Int) a x h = some (-1, h) := cls _ (by
        rw [e0]
        unfold c168_j25
        refine bnd hnul_0 ?_
        rw [if_pos rfl])
      rcases free_1 t with fr | ⟨l, l10, l0, fr⟩
      · exact no t lv0 ec (ref10 fr)
      · refine no t2 f ec ?_
        unfold c293
        refine bnd (c293_0 (l := l) (by omega) fr (.inr l0)) ?_
        rw [if_neg (by omega)]
        refine bnd lv ?_
        rw [if_neg (by omega)]
        refine bnd e1 ?_
        rw [if_pos rfl]
    by_cases hn : 0 ≤ a ∧ a < 40
    · obtain ⟨nn, rfl⟩ : ∃ nn : Nat, a = (nn : Int) := ⟨a.toNat, by omega⟩
      rw [if_pos hn, Int.toNat_natCast, (T jj k0 k1 nn (by omega)).2.2.1] at cls none
      obtain ⟨k, t2, o1, o2, o3⟩ := OPr (e := 0) (v := x) U.1 (by omega) (by omega) c40 n2 (n := nn)
      rw [hj] at o1 o3
      by_cases z2 : aAt t 0 jj nn = -1
      · rw [if_pos z2] at o1
        exact none t2 o1 o2 (by rw [z2, kd_m])
      · rw [if_neg z2] at o1
        obtain ⟨o4, o5, o6⟩ := o3 z2
        have ok := ((aAt_b P.1 (.inr ⟨k0, k1⟩)).resolve_left z2).1
        have KDa := (P.2.2.1 _ ok.1 ok.2).1
        have hnn : hnul (kd h p (aAt t 0 jj nn)) = some false := hnul_8 (by have := KDa.1; omega)
        rcases free_1 t with fr | ⟨l, l10, l0, fr⟩
        · -- no slot is free
          refine no t lv0 (cls _ ?_) (ref10 fr)
          unfold c168_j25
          refine bnd hnn ?_
          rw [if_neg (by decide)]
          refine bnd (c168_0 (l := 10) (z := .inl h) Ss L (by omega) fr ?_) rfl
          unfold c168_b37
          rw [if_pos (by omega)]
        · -- slot l
          obtain ⟨s1, s2, s3, s4⟩ := Ss l l10
          obtain ⟨h6, w1, w2, ⟨w3, w4, w5, w6, w7, w8, w9⟩, w10⟩ := OPc (v := x) U.2.1 o6 (by omega) s4 (by omega) c40
          have w10' : K (cdo h (kd h p (aAt t 0 jj nn)) nn) (hI t2 414 0) := w10
          obtain ⟨h9, e9⟩ : ∃ h9, h9 = s9 l h6 := ⟨_, rfl⟩
          have i9 : ∀ y j, y ≠ 375 + 2 * l → hI h9 y j = hI h6 y j := fun y j hy => by rw [e9]; exact s9_i hy
          have r9 : ∀ y j, hR h9 y j = hR h6 y j := fun y j => by rw [e9]; exact s9_r
          have v9 := s9_v (l := l) (h6 := h6)
          rw [← e9] at v9
          have T6 : hT h6 = hT h := w2.2.1
          have ch9 : chg (fun y => y = 375 + 2 * l ∨ y = 376 + 2 * l) h h9 := chg_tr (chg_mono w2 (fun y hy => .inr hy)) (by rw [e9]; exact chg_mono s9_c (fun y hy => .inl hy))
          have chA : chg (fun x => (20 ≤ x ∧ x ≤ 47) ∨ (375 ≤ x ∧ x < 395)) h h9 := chg_mono ch9 (fun y hy => by omega)
          have e168 : c168 (c : Int) (nn : Int) x h = some ((l : Int), h9) := cls _ (by
            rw [e9]
            exact c168_f Ss L l10 fr l0 (by have := KDa.1; omega) ecr (c169_e s2 s3 s4 T6 w1))
          -- the other side
          obtain ⟨T0, e0⟩ : ∃ T0, T0 = u9 l (c : Int) x (k : Int) (nn : Int) t2 := ⟨_, rfl⟩
          have f0 : fp (fun y j => 423 ≤ y ∧ y ≤ 434 ∧ j = l) t2 T0 := by rw [e0]; exact u9_f
          have v0 := u9_v (l := l) (c := (c : Int)) (x := x) (k := (k : Int)) (n := (nn : Int)) (t2 := t2)
          rw [← e0] at v0
          obtain ⟨T', b1, b2, b3⟩ := c293_r0 (t := T0) l10
          have fT : fp (fun y _ => (408 ≤ y ∧ y ≤ 416) ∨ (423 ≤ y ∧ y ≤ 437)) t T' := fp_tr (fp_tr ⟨o2.1, fun y j z => o2.2 y j (by omega)⟩ ⟨f0.1, fun y j z => f0.2 y j (by omega)⟩) ⟨b2.1, fun y j z => b2.2 y j (by omega)⟩
          have vT : ∀ y, 423 ≤ y → y ≤ 434 → hI T' y l = hI T0 y l := fun y h1 h2 => b2.2 y l (by omega)
          have rT : ∀ y, 414 ≤ y → y ≤ 416 → ∀ u, u < 12 → hI T' (y + 21) (12 * l + u) = hI t2 y u := fun y h1 h2 u hu => by rw [b3 u hu y h1 h2, f0.2 y u (by omega)]
          have oT : ∀ l', l' < 10 → l' ≠ l → ∀ y, 423 ≤ y → y ≤ 434 → hI T' y l' = hI t y l' := fun l' _ h2 y h3 h4 => by rw [b2.2 y l' (by omega), f0.2 y l' (by omega), o2.2 y l' (by omega)]
          have pT : ∀ l', l' < 10 → l' ≠ l → ∀ y j, 435 ≤ y → y ≤ 437 → 12 * l' ≤ j → j < 12 * l' + 12 → hI T' y j = hI t y j := fun l' _ h2 y j h3 h4 h5 h6 => by rw [b2.2 y j (by omega), f0.2 y j (by omega), o2.2 y j (by omega)]
          have e293 : c293 (c : Int) (nn : Int) x t = some ((l : Int), T') := c293_e l10 fr l0 lv o1 o4.2.2.2.1 (by rw [← e0]; exact b1)
          have U' : RUNp K p m q r κ h9 T' := RUN_c U chA (fun y j hy => fT.2 y j (by omega)) (fun j _ => (ch9.2.2.2.2.2 23 (by omega) j).2) (rnn_c U.2.2.2.2.1 (fun y j hy => (ch9.2.2.2.2.2 y (by omega) j).1) (fun y j hy => fT.2 y j (by omega))) (ch9.2.2.2.2.2 22 (by omega) 11).1
          obtain ⟨x1, x2, x3, tx, fn, D1, x4, ⟨Ln, y1, y2, y3⟩, x6, ⟨x7, x8⟩, x9⟩ := U.2.1 _ _ w10'
          have cx : ∀ j, hI h9 (cdo h (kd h p (aAt t 0 jj nn)) nn) j = hI h (cdo h (kd h p (aAt t 0 jj nn)) nn) j := fun j => (ch9.2.2.2.2.2 _ (by omega) j).1
          have nT : ntx T' tx = ntx t tx := funext fun i => funext fun j => fT.2 399 _ (by omega)
          have r0 : hI t2 414 0 = hI T' 435 (12 * l) := (rT 414 (by omega) (by omega) 0 (by omega)).symm
          have Fl : FRL h9 T' K l (cdo h (kd h p (aAt t 0 jj nn)) nn) c := by
            refine ⟨⟨by rw [ch9.2.1]; exact s4, by rw [r9]; exact w6, x1, by rw [ch9.2.1]; exact x3, by rw [ch9.2.2.1]; omega, by omega⟩, ⟨c40, by rw [r9]; exact w3, by rw [(ch9.2.2.2.2.2 _ (by omega) 1).1]; exact n2⟩, by rw [vT 426 (by omega) (by omega)]; exact v0.1.2.2.2.1, by rw [i9 _ _ (by omega), w9, vT 427 (by omega) (by omega)]; exact v0.1.2.2.2.2.1.symm, by rw [i9 _ _ (by omega), w8, vT 428 (by omega) (by omega)]; exact v0.1.2.2.2.2.2.symm, nn, k, ⟨by omega, by rw [i9 _ _ (by omega)]; exact w5, by rw [vT 434 (by omega) (by omega)]; exact v0.2.2.2.2.2.2⟩, by rw [vT 433 (by omega) (by omega)]; exact v0.2.2.2.2.2.1, by omega, ?_, r0 ▸ w10'⟩
            rw [r9, w4]
            exact ACH_c o6 (fun a' Q' => KD_chg chA (fun x hx => by omega) Q') (fun i i1 i2 => ⟨(rT 414 (by omega) (by omega) i (by omega)).trans (by rw [Nat.mul_zero, Nat.zero_add]), (rT 415 (by omega) (by omega) i (by omega)).trans (by rw [Nat.mul_zero, Nat.zero_add]), (rT 416 (by omega) (by omega) i (by omega)).trans (by rw [Nat.mul_zero, Nat.zero_add])⟩)
          have Sl : SFX h9 T' κ l (cdo h (kd h p (aAt t 0 jj nn)) nn) := by
            have hL12 : ∀ i ∈ Ln, i < 1200 := fun i hi => (y2 i hi).2
            refine ⟨tx, Ln, fn, 0, D1, x4, by rw [nT]; exact y1, hL12, by rw [nT]; exact y3, fun j v e => by rw [cx, Nat.zero_add]; exact x9 j v e, by rw [ch9.2.2.1, x7]; omega, by rw [i9 _ _ (by omega)]; exact w7, ?_, by rw [vT 432 (by omega) (by omega)]; exact v0.2.2.2.2.1⟩
            rw [vT 429 (by omega) (by omega), v0.2.1, x6]
            unfold gf
            rcases LK_f y1 hL12 with z | ⟨a, z, z2⟩
            · rw [if_pos z, if_pos z]
            · rw [if_neg (by omega), if_neg (by omega)]
              unfold gn
              rw [z, Int.toNat_natCast]
              omega
          obtain ⟨q1, q2, q3⟩ := ACH_1 o6
          have La : LA1 h9 T' l := by
            unfold LA1
            rw [v9.1, v9.2.1, v9.2.2.1, v9.2.2.2.1, v9.2.2.2.2.1, v9.2.2.2.2.2, vT 423 (by omega) (by omega), vT 424 (by omega) (by omega), vT 425 (by omega) (by omega), vT 430 (by omega) (by omega), vT 431 (by omega) (by omega), vT 432 (by omega) (by omega), v0.1.1, v0.1.2.1, v0.1.2.2.1, v0.2.2.1, v0.2.2.2.1, v0.2.2.2.2.1, r9, w4]
            obtain ⟨kk1, kk2⟩ := KD_chg chA (fun x hx => by omega) q1
            have s0 := kk2 0 (by omega) (by omega)
            rw [Nat.add_zero] at s0
            have g0 := rT 416 (by omega) (by omega) 0 (by omega)
            rw [Nat.add_zero] at g0
            refine ⟨rfl, .inr rfl, rfl, .inr rfl, fun _ => rfl, fun _ => ⟨⟨rfl, .inl rfl⟩, rfl, (if_pos rfl).symm, rfl, kk1, ?_⟩⟩
            rw [s0.1, q3]
            exact g0.symm
          refine ⟨(l : Int), h9, T', e168, e293, U', ?_, fun l' hl' => ?_, LRs_g LR chA (fun _ z => z) (fun l' => l' ≠ l) (fun l' _ z j => ⟨(ch9.2.2.2.2.2 _ (by omega) j).1, (ch9.2.2.2.2.2 _ (by omega) j).2⟩) (fun l' hl' z y h1 h2 => oT l' hl' z y h1 h2) (fun l' hl' z y j h1 h2 h3 h4 => pT l' hl' z y j h1 h2 h3 h4) (fun j => fT.2 399 j (by omega)) (fun l' _ z _ => by
            have e : l' = l := Classical.not_not.mp z
            subst e
            exact ⟨_, c, Fl, Sl⟩), chg_mono ch9 (fun y hy => by omega), fT⟩
          · intro l' hl'
            obtain ⟨a1, a2, a3, a4⟩ := Ss l' hl'
            refine ⟨by rw [(ch9.2.2.2.2.2 21 (by omega) _).2]; exact a1, by rw [ch9.2.1]; exact a2, ?_, by rw [ch9.2.1]; exact a4⟩
            rw [r9, (w2.2.2.2.2.2 _ (by omega) 0).2]
            exact a3
          · by_cases y : l' = l
            · rw [y]; exact La
            · exact LA1_g (L l' hl') chA (fun _ z => z) (fun j => (ch9.2.2.2.2.2 _ (by omega) j).1) (ch9.2.2.2.2.2 _ (by omega) 1).2 (fun y' h1 h2 => oT l' hl' y y' h1 (by omega)) (pT l' hl' y 437 _ (by omega) (by omega) (by omega) (by omega))
    · rw [if_neg hn] at cls none
      obtain ⟨t2, o1, o2⟩ := c252_o (v := x) U.1 c40 n2 hn
      exact none t2 o1 o2 rfl
  · rw [if_neg z] at lv e103
    have ec : c168 n a x h = some (-1, h) := by
      unfold c168
      refine bnd e103 ?_
      rw [if_pos rfl]
      unfold c168_j25
      refine bnd hnul_0 ?_
      rw [if_pos rfl]
    rcases free_1 t with fr | ⟨l, l10, l0, fr⟩
    · exact no t lv0 ec (ref10 fr)
    · refine no t lv0 ec ?_
      unfold c293
      refine bnd (c293_0 (l := l) (by omega) fr (.inr l0)) ?_
      rw [if_neg (by omega)]
      refine bnd lv ?_
      rw [if_pos rfl]
end BGQ
