/-! a kind of a pond is read by both -/
def rN : Int → Nat := fun u => u.toNat
section KIN
variable {n l mk N0 M0 p sl : Nat} {b : Nat → Int} {hc hr : hS} {K : Nat → Int → Prop}
theorem MP_adv {r : Int → Nat} (Q : MP n b N0 M0 l K p mk r hc hr) (h1 : l + 1 < (TK n b).length) : wadd (hI hc 15 3) 1 = ((l + 1 : Nat) : Int) ∧ ∃ hr', c188 hr = some hr' ∧ fj hr hr' ∧ MP n b N0 M0 (l + 1) K p mk r (sI hc 15 3 ((l + 1 : Nat) : Int)) hr' := by
  obtain ⟨q, m, sl, B, hm, W, T, hN0, t17, rm, Cf, Tz⟩ := Q
  obtain ⟨a0, hr1, a1, a2, B1⟩ := BS_adv B h1
  have fc1 : FC q hc (sI hc 15 3 ((l + 1 : Nat) : Int)) := FC_sI (by omega)
  have fr1 : FR m hr hr1 := FR_fj a2
  exact ⟨a0, hr1, a1, a2, q, m, sl, B1, by omega, BW_F W fc1 fr1 (by omega), KT_F T fc1 fr1 (by omega) (Nat.le_refl m), hN0, t17, ⟨by show 2 * hN hc ≤ _; omega, by show hM hc ≤ _; omega⟩, CG_cg Cf (fun k f => FC_wg fr1 1 k f), TZ_c Tz (fun u _ _ => rfl) (fun u z0 z1 o _ _ => FC_x fc1 _ (by have := W.2.1 u z0 z1; omega))⟩
theorem MP_at {r : Int → Nat} (Q : MP n b N0 M0 l K p mk r hc hr) : ∃ s : Int, (VS s ∨ s = 4) ∧ c39 hc = some s ∧ hI hr 395 3 = mt s ∧ (s ≠ 4 → l + 1 < (TK n b).length) ∧ l ≤ 1000 := by
  obtain ⟨q, m, sl, B, -⟩ := Q
  obtain ⟨s, v, q2, q3, q4, h1, -⟩ := BS_at B
  exact ⟨s, q2, q3, q4, h1, by
    have := B.1.2.2.1
    have := TK_len (n := n) (b := b)
    have := B.1.2.2.2.2.1.2.1
    omega⟩
/-- the members of a kind, up to the bracket behind them -/
theorem KL {kn : Int} {j : Int} (Q : MP n b N0 M0 l K p mk rN hc hr) (jm : j + 1 = mk) (j0 : 0 ≤ j) (j1 : j < mk) (hl1 : 1 ≤ l) : JK N0 M0 hc hr (fun hc' hr' => ∃ l' K', l < l' ∧ MP n b N0 M0 l' K' p mk rN hc' hr') ((lp (fun s => c44_b219 kn (kd hc p j) s.1 s.2) hF0 (0, hc)).bind (fun r23 => xs r23 (fun x23 => (c58 125 x23).bind (fun v24 => (kB v24.1).bind (fun u25 => some (v24.1, v24.2)))) (fun o23 => some o23))) ((lp (fun s => c193_b154 j s) hF0 hr).bind (fun r18 => xs r18 (fun x18 => (c188 x18).bind (fun h19 => some (1, h19))) (fun o18 => some o18))) := by
  obtain ⟨s00, -, -, -, -, hl00⟩ := MP_at Q
  obtain ⟨kk, hkk⟩ : ∃ kk, kd hc p j = kk := ⟨_, rfl⟩
  rw [hkk]
  have key := lp_two (f := fun s : Int × hS => c44_b219 kn kk s.1 s.2) (g := fun s => c193_b154 j s)
    (fun k s t => ∃ (i l' : Nat) (K' : Nat → Int → Prop), s.1 = (i : Int) ∧ MP n b N0 M0 l' K' p mk rN s.2 t ∧ kd s.2 p j = kk ∧ FK N0 hc s.2 ∧ FW hr t ∧ i + l ≤ l' ∧ k + l' = 1002)
    (fun x y => FK N0 hc x ∧ FW hr y ∧ ∃ l' K', MP n b N0 M0 l' K' p mk rN x y ∧ c39 x = some 125 ∧ l ≤ l') (fun x y => FK N0 hc x ∧ FW hr y ∧ FLR N0 M0 x y) ?_ hF0 (1002 - l) (0, hc) hr ?_ (hF0_lt (by omega))
  · rcases key with ⟨x, y, e1, e2, e3, e4, l', K', Q', e5, e6⟩ | ⟨x, y, e1, e2, e3, e4, e5⟩
    · rw [e1, e2]
      obtain ⟨s, q2, q3, q4, h1, -⟩ := MP_at Q'
      have hs : s = 125 := by rw [e5] at q3; exact (Option.some.inj q3).symm
      obtain ⟨a0, y2, a1, a2, Q2⟩ := MP_adv Q' (h1 (by omega))
      show JK N0 M0 hc hr _ ((c58 125 x).bind _) ((c188 y).bind _)
      rw [a1]
      unfold c58
      rw [e5]
      simp only [bsome]
      rw [if_pos trivial, a0]
      simp only [bsome]
      exact JK_ok (FK_tr e3 (FK_FC (FC_sI (p := 0) (by omega)))) (FW_tr e4 (FW_FR (FR_fj (m := 0) a2))) ⟨l' + 1, K', by omega, Q2⟩
    · rw [e1, e2]
      exact JK_no e3 e4 e5
  · rintro k ⟨i0, h⟩ t ⟨i, l', K', hi, Q', hk, f1, f2, hil, hkl⟩
    have hi : i0 = (i : Int) := hi
    subst hi
    have Q' : MP n b N0 M0 l' K' p mk rN h t := Q'
    have hk : kd h p j = kk := hk
    have f1 : FK N0 hc h := f1
    obtain ⟨s, q2, q3, q4, h1, hl'⟩ := MP_at Q'
    show (∃ x y, c44_b219 kn kk (i : Int) h = _ ∧ c193_b154 j t = _ ∧ _) ∨ (∃ hc hr, c44_b219 kn kk (i : Int) h = _ ∧ c193_b154 j t = _ ∧ _) ∨ (∃ k' s' t', c44_b219 kn kk (i : Int) h = _ ∧ c193_b154 j t = _ ∧ _)
    unfold c44_b219 c193_b154
    rw [if_neg (show ¬ (1000 : Int) ≤ (i : Int) by omega), q3, c203_e q2 q4 (c := 125) rfl]
    simp only [bsome]
    by_cases z : s = 125
    · rw [if_pos z, if_pos z, if_neg (show ¬ (1 : Int) = 0 by omega)]
      exact .inl ⟨_, _, rfl, rfl, f1, f2, l', K', Q', by rw [q3, z], by omega⟩
    · rw [if_neg z, if_neg z, if_pos rfl]
      have R := RM (kn := kn) Q' (by obtain ⟨_, _, _, _, _, Wq, _⟩ := Q'; exact Wq.1.1) jm j0 j1
      rw [hk] at R
      obtain ⟨h2, t2, g1, g2, ⟨e1, e2, l2, K2, e3, Q2, e4⟩ | ⟨e1, e2, e3⟩⟩ := R
      · obtain ⟨-, -, -, -, -, hl2⟩ := MP_at Q2
        rw [e1, e2]
        simp only [bsome]
        rw [if_neg (show ¬ (1 : Int) = 0 by omega), if_neg (show ¬ (1 : Int) = 0 by omega)]
        exact .inr (.inr ⟨1002 - l2, (((i + 1 : Nat) : Int), h2), t2, by rw [wadd_n (by omega)], rfl, by omega, i + 1, l2, K2, rfl, Q2, by rw [e4]; exact hk, FK_tr f1 g1, FW_tr f2 g2, by omega, by omega⟩)
      · rw [e1, e2]
        simp only [bsome]
        exact .inr (.inl ⟨_, _, rfl, rfl, FK_tr f1 g1, FW_tr f2 g2, e3⟩)
  · exact ⟨0, l, K, rfl, Q, hkk, FK_rf, FW_rf, by omega, by omega⟩
theorem nmx_new {r : Int → Nat} {hc' hr' : hS} {v : Int} (B : BW hc' hr' K p (mk + 1) r) (h0 : wg hr' 1 mk 0 = v) : nmx hr' (mk + 1) v = (mk : Int) := by
  rcases nmx_b (hr := hr') (m := mk + 1) v with e | ⟨a0, a1, a2⟩
  · exact absurd h0 (ix_none e mk (by omega))
  · exact B.1.2.2.2 _ _ a0 (by omega) (by omega) (by omega) (by rw [a2, h0])
/-- a kind, from its bracket on -/
theorem KB {v a u : Int} {q m l0 : Nat} (B : BX sl n b l q m 0 hc hr) (hm : m ≤ l) (W : BW hc hr K p mk rN) (T : KT hc hr K N0 m) (hN0 : N0 ≤ p ∧ 448 ≤ N0 ∧ N0 ≤ hN hc) (t17 : hT hc 17 = 1 ∧ hL hc 17 = 4000) (rm : 2 * hN hc ≤ 2 * N0 + l0 + 28 * mk + 20 ∧ hM hc ≤ M0 + 8 * l0 + 300 * mk + 100) (hl0 : l0 + 2 ≤ l) (Cf : CG hr mk) (Tz : TZ hc p mk) (hp : hR hc 15 11 = p) (v0 : 0 ≤ v ∧ v < 40) (hv : nmx hr mk v = -1) (h12 : mk < 12) (hu : u = nmx hr mk a) (ha : a = -1 ∨ u ≠ -1) :
    JK N0 M0 hc hr (fun hc' hr' => ∃ l' K', l < l' ∧ MP n b N0 M0 l' K' p (mk + 1) rN hc' hr') (c44_j142 v a hc) (c193_j126 v u hr) := by
  have hp2 := W.1.2.1.2.1
  have p3 := W.1.2.1.2.2.1
  obtain ⟨h5, y1, ⟨y2, y3⟩, y4, y5⟩ := c48_e (hc := hc) (s := 200) (c := hI (mkH hc 22 6) 15 9) (k := v) (nm := -1) (o := a) (cd := 0) (by omega)
  obtain ⟨z1, z2, z3, z4, z5, z6, z7⟩ := y5
  have W5 : BW h5 hr K p mk rN := by
    refine BW_c W (fun x _ hx => y4.2 x hx) y4.1.1 (fun _ _ => rfl) rfl (fun _ _ h => h) (fun x v hx => ?_)
    obtain ⟨w1, w2, w3⟩ := W.2.2.2.1 x v hx
    exact ⟨by omega, w2, w3⟩
  obtain ⟨h6, o1, o2⟩ := c56_e W5.1 (by omega) h12 z1 (by omega) z4 z6 hv (by rw [← hu]; exact ha)
  rw [← hu] at o2
  obtain ⟨t1, r1, r2, r3, r4⟩ := c200_e (n := v) W.1.1.1 h12
  have ub : u = -1 ∨ (0 ≤ u ∧ u < mk) := by
    rw [hu]
    rcases nmx_b (hr := hr) (m := mk) a with e | ⟨e0, e1, -⟩
    · exact .inl e
    · exact .inr ⟨e0, e1⟩
  have g2 : ∀ k f : Int, 0 ≤ k → k < 12 → 0 ≤ f → f < 64 → wg (wset t1 1 mk 1 u) 1 k f = if k = mk then (if f = 0 then v else if f = 1 then u else if f = 3 then 1 else if f = 4 then -1 else 0) else wg hr 1 k f := fun k f k0 k1 f0 f1 => by
    rw [wgs (by omega) (by omega) (by omega) (by omega) k0 k1 f0 f1, r4 k f k0 k1 f0 f1]
    by_cases c : k = mk
    · rw [if_pos c, if_pos c]
      by_cases c1 : f = 1
      · rw [if_pos ⟨c, c1⟩, if_neg (by omega), if_pos c1]
      · rw [if_neg (fun z => c1 z.2), if_neg c1, if_neg c1]
    · rw [if_neg c, if_neg c, if_neg (fun z => c z.1)]
  have f2 : fw hr (wset t1 1 mk 1 u) := fp_tr r2 (fw_set (by omega) (by omega) (by omega) (by omega))
  have m2 : wm (wset t1 1 mk 1 u) 1 = ((mk + 1 : Nat) : Int) := by rw [wms (by omega) (by omega) (by omega) (by omega)]; exact r3
  have e201 : c201 1 (mk : Int) 1 u t1 = some (wset t1 1 mk 1 u) := c201_e (by omega) (by omega) (by omega) (by omega) (by omega) (by omega)
  generalize wset t1 1 mk 1 u = t2 at g2 f2 m2 e201
  have gm : ∀ f : Int, 0 ≤ f → f < 64 → wg t2 1 mk f = (if f = 0 then v else if f = 1 then u else if f = 3 then 1 else if f = 4 then -1 else 0) := fun f f0 f1 => by rw [g2 mk f (by omega) (by omega) f0 f1, if_pos rfl]
  have W6 : BW h6 t2 K p (mk + 1) rN := by
    refine BW_k W5 (by omega) h12 o2 ub v0 hv m2 (fun k f k0 k1 f0 f1 => by rw [g2 k f k0 (by omega) f0 f1, if_neg (by omega)]) ?_ ?_ ?_ ?_ ?_ ?_ ?_ (fun k k0 k1 => ⟨by unfold rN; omega, ?_⟩)
    · rw [gm 0 (by omega) (by omega), if_pos rfl]
    · rw [gm 1 (by omega) (by omega), if_neg (by omega), if_pos rfl]
    · rw [gm 2 (by omega) (by omega), if_neg (by omega), if_neg (by omega), if_neg (by omega), if_neg (by omega)]
    · rw [gm 3 (by omega) (by omega), if_neg (by omega), if_neg (by omega), if_pos rfl]
    · rw [gm 5 (by omega) (by omega), if_neg (by omega), if_neg (by omega), if_neg (by omega), if_neg (by omega)]
    · rw [gm 30 (by omega) (by omega), if_neg (by omega), if_neg (by omega), if_neg (by omega), if_neg (by omega)]
    · rw [gm 39 (by omega) (by omega), if_neg (by omega), if_neg (by omega), if_neg (by omega), if_neg (by omega)]
    · by_cases c : k = mk
      · rw [c, gm 1 (by omega) (by omega), if_neg (by omega), if_pos rfl]
        rcases ub with z | ⟨z1, z2⟩
        · exact .inl z
        · refine .inr ?_
          unfold rN
          omega
      · have km : k < mk := by omega
        rw [g2 k 1 k0 (by omega) (by omega) (by omega), if_neg c]
        rcases (W.1.1.2.2 k k0 km).2.1 with z | ⟨-, -, z⟩
        · exact .inl z
        · exact .inr z
  have w0 : wg t2 1 mk 0 = v := by rw [gm 0 (by omega) (by omega), if_pos rfl]
  have e47 : c47 p v h6 = some (kd h6 p mk) := by rw [nmx_k W6.1, nmx_new W6 w0]
  obtain ⟨n1, n2, n3, n4, n5, n6, n7, n8⟩ := o2
  have fz56 : FZ N0 h5 h6 := ⟨⟨by omega, by omega⟩, fun x hx => ⟨fun i => by rw [n4, if_neg (by omega), if_neg (by omega), if_neg (by omega), if_neg (by omega)], fun i => by rw [n5 x i (by omega), if_neg (by omega)], (n8 x (by omega)).1, (n8 x (by omega)).2⟩⟩
  have fz05 : FZ N0 hc h5 := ⟨y4.1, fun x hx => y4.2 x (by omega)⟩
  have fz := FZ_tr fz05 fz56
  have hp5 : hR h5 15 11 = p := by rw [(fz05.2 15 (by omega)).2.1]; exact hp
  have hp6 : hR h6 15 11 = p := by rw [(fz.2 15 (by omega)).2.1]; exact hp
  have p35 : hT h5 p = 18 := W5.1.2.1.2.2.1
  have p36 : hT h6 p = 18 := W6.1.2.1.2.2.1
  have hp450 : 8 ≤ p := by omega
  unfold c44_j142 c193_j126 c44_j205
  simp only [bsome]
  rw [k8_s (by omega), y1]
  simp only [bsome]
  rw [hp5, hnul_8 hp450]
  simp only [bsome]
  rw [if_neg (by decide), kT_s p35]
  simp only [bsome]
  rw [o1]
  simp only [bsome]
  rw [hp6, kT_s p36]
  simp only [bsome]
  rw [e47, r1]
  simp only [bsome]
  rw [e201]
  simp only [bsome]
  have B6 : BX sl n b l q m 0 h6 t2 := BS_f (BS_z B fz (by omega)) f2
  refine JK_re (FK_FZ fz) (FW_fw f2) ?_
  have T6 : KT h6 t2 K N0 m := by
    refine KT_c T (fun x w hx => ?_) (by omega) (fun t ht i hi => f2.2 399 _ (by omega)) (Nat.le_refl m)
    obtain ⟨a1, a2, -⟩ := T x w hx
    obtain ⟨-, b2, -⟩ := W.2.2.2.1 x w hx
    refine sm_tr (y4.2 x a2) ⟨fun i => ?_, fun i => ?_, (n8 x (by omega)).1, (n8 x (by omega)).2⟩
    · rw [n4, if_neg (by omega), if_neg (by omega), if_neg (by omega), if_neg (by omega)]
    · rw [n5 x i (by omega), if_neg (by omega)]
  refine JK_b (JK_J (BS_ps B6 (c := 123) rfl) ⟨by have := BX_l B; omega, by have := BX_l B; omega⟩) (fun hc7 hr7 g7 gw7 ⟨B7, e7, j7⟩ => ?_)
  have fc7 : FC q h6 hc7 := by rw [e7]; exact FC_sI (by omega)
  have fr7 : FR m t2 hr7 := FR_fj j7
  have hkd7 : kd h6 p mk = kd hc7 p mk := by
    unfold kd
    rw [if_neg (by omega), if_neg (by omega), (FC_x fc7 (p + 1) (by omega)).2.1]
  obtain ⟨fn, fm⟩ := FC_nm fc7
  have c17 := fz.2 17 (by omega)
  have Q7 : MP n b N0 M0 (l + 1) K p (mk + 1) rN hc7 hr7 := by
    refine ⟨q, m, sl, B7, by omega, BW_F W6 fc7 fr7 (by omega), KT_F T6 fc7 fr7 (by omega) (Nat.le_refl m), ⟨hN0.1, hN0.2.1, by omega⟩, ⟨?_, ?_⟩, ⟨by omega, by omega⟩, ?_, ?_⟩
    · rw [e7]
      show hT h6 17 = 1
      rw [c17.2.2.1]
      exact t17.1
    · rw [e7]
      show hL h6 17 = 4000
      rw [c17.2.2.2]
      exact t17.2
    · refine CG_cg (hr := t2) (CG_k Cf W.1.1 h12 (fun k f k0 k1 f0 f1 => by rw [g2 k f k0 (by omega) f0 f1, if_neg (by omega)]) ?_ ?_ ?_) (fun k f => FC_wg fr7 1 k f)
      · rw [gm 5 (by omega) (by omega), if_neg (by omega), if_neg (by omega), if_neg (by omega), if_neg (by omega)]
      · rw [gm 30 (by omega) (by omega), if_neg (by omega), if_neg (by omega), if_neg (by omega), if_neg (by omega)]
      · rw [gm 2 (by omega) (by omega), if_neg (by omega), if_neg (by omega), if_neg (by omega), if_neg (by omega)]
    · have T6z : TZ h6 p (mk + 1) := fun j j0 j1 n hn => by
        by_cases c : j = mk
        · have e : kd h6 p j = hN h5 := by rw [c, kd_n (by omega), Int.toNat_natCast, n5 (p + 1) mk (by omega), if_pos ⟨rfl, rfl⟩]
          rw [e, n4, if_neg (by omega), if_neg (by omega), if_neg (by omega), if_pos (by omega), n7 _ _ (by omega) (by omega), n7 _ _ (by omega) (by omega)]
          exact ⟨rfl, rfl, rfl⟩
        · have jm : j < mk := by omega
          have hkj := (W.1.2.2.1 j j0 jm).1.2.1
          have hbj := W.2.1 j j0 jm
          have e : kd h6 p j = kd hc p j := by
            rw [kd_n j0, kd_n j0, n5 (p + 1) _ (by omega), if_neg (by omega), (y4.2 (p + 1) hp2).2.1]
          rw [e, n4, if_neg (by omega), if_neg (by omega), if_neg (by omega), if_neg (by omega), n5 _ _ (by omega), if_neg (by omega), n5 _ _ (by omega), if_neg (by omega), (y4.2 _ (by omega)).1, (y4.2 _ (by omega)).2.1, (y4.2 _ (by omega)).2.1]
          exact Tz j j0 jm n hn
      refine TZ_c T6z (fun u _ _ => ?_) (fun u z0 z1 o _ _ => FC_x fc7 _ (by have := W6.2.1 u z0 z1; omega))
      unfold kd
      split
      · rfl
      · exact (FC_x fc7 (p + 1) (by omega)).2.1 _
  rw [hkd7]
  exact JK_im (KL (kn := v) Q7 (by omega) (by omega) (by omega) (by omega)) (fun hc' hr' _ _ ⟨l', K', a1, a2⟩ => ⟨l', K', by omega, a2⟩)
end KIN
