/-! do and send -/
section DOE
variable {h h' h0 h1 t t' t0 t1 t2 : hS} {K : Nat → Int → Prop} {p m q κ F0 d n x c k a tx i pos fu c2 j0 : Nat} {r : Int → Nat} {il v ok : Int}
theorem CLR_R (f : F0k F0) (hp : p = 213 ∨ 448 ≤ p) (a : RCc p m F0 d h0 h) (b : RCr d t0 t) (e8 : hI h 22 8 = hI h0 22 8) (e9 : hI h 22 9 = hI h0 22 9) (hq : hI h (FF F0 d) 4 = (pos : Int)) (g : CLR K p m q r κ F0 d x c h t h' t' ok) : (ok = 0 ∧ RSL K p m q r κ F0 d x c pos h0 t0 h' t' 2) ∨ (ok = 1 ∧ RSL K p m q r κ F0 d x c pos h0 t0 h' t' 0) := by
  rcases g with ⟨g0, g1, g2, g3, g4, g5, g6, g7, g8⟩ | ⟨g0, g1⟩
  · exact .inr ⟨g0, RSL_pre f hp a b e8 e9 (.inl ⟨rfl, g1, g2, g3, by rw [g4]; exact hq, g5, g6, g7, g8⟩)⟩
  · refine .inl ⟨g0, RSL_pre f hp a b e8 e9 ?_⟩
    rcases g1 with ⟨z, -⟩ | ⟨z, -⟩ | z
    · omega
    · omega
    · exact .inr (.inr z)
theorem g254_7 {s e : Int} : g254 (fu + 1) 267 [s, e] t = c267 (g254 fu) s e t := rfl
/-- do NAME -/
theorem DS_call (IH : d < 20 → BDYp K p m q r κ F0 (d + 1) fu) (R : BRt K p m q r κ F0 h t) (G : GOt d h t) (Q : FRQ h t K d (FF F0 d) x c) (ht : tx ≤ 6) (hi : i < 1200) (s0 : ntx t tx i 0 = 24) (nm : 0 ≤ ntx t tx i 1 ∧ ntx t tx i 1 < 40) (c0 : hI h x pos = 209) (c1 : hI h x (pos + 1) = ntx t tx i 1) (hl : pos + 1 < hL h x) (hq : hI h (FF F0 d) 4 = (pos : Int)) : DSq K p m q r κ F0 d x c tx i il (pos + 2) (fu + 3) h t := by
  obtain ⟨⟨g1, g2⟩, g3, g4, g5⟩ := id G
  have C := Q.1
  have hF := C.2.2.2.2.2
  have hx := C.2.2.1
  obtain ⟨c40, cR, cl⟩ := Q.2.1
  obtain ⟨n, hn⟩ : ∃ n : Nat, ntx t tx i 1 = (n : Int) := ⟨(ntx t tx i 1).toNat, by omega⟩
  have st := stepA_n C hq (by omega) c0 (.inr (.inl (by omega)))
  obtain ⟨ha, ea⟩ : ∃ ha, ha = sI (sI h (FF F0 d) 4 ((pos + 1 : Nat) : Int)) (FF F0 d) 4 ((pos + 1 + 1 : Nat) : Int) := ⟨_, rfl⟩
  have k1 : c119 (FF F0 d) (sI h (FF F0 d) 4 ((pos + 1 : Nat) : Int)) = some ((n : Int), ha) := by
    rw [c119_e (h := sI h (FF F0 d) 4 ((pos + 1 : Nat) : Int)) (FCT_4 C) (by rw [hI_sI, if_pos ⟨rfl, rfl⟩]) hl, hI_sI, if_neg (by omega), c1, ea, hn]
  have sa : stF (FF F0 d) h ha := by rw [ea]; exact fp_tr (fp_sI (.inr (.inr ⟨rfl, rfl⟩))) (fp_sI (.inr (.inr ⟨rfl, rfl⟩)))
  have ia : ∀ j, hI ha 22 j = hI h 22 j := fun j => by rw [ea, hI_sI, if_neg (by omega), hI_sI, if_neg (by omega)]
  have pa : hI ha (FF F0 d) 4 = ((pos + 2 : Nat) : Int) := by rw [ea, hI_sI, if_pos ⟨rfl, rfl⟩]
  have Ra : BRt K p m q r κ F0 ha t := BR_st R g2 C sa seR_rf (by rw [ia]; exact R.2.2.2.2.2.1) R.2.2.2.2.2.2.2.2
  have Ga : GOt d ha t := ⟨⟨by rw [ia]; exact g1, g2⟩, by rw [ia]; exact g3, by rw [ia]; exact g4, g5⟩
  have Qa : FRQ ha t K d (FF F0 d) x c := FRQ_st Q sa seR_rf
  obtain ⟨ok, t', h', h2, kk, w1, w2, w3, w4, w5, w6⟩ := CALLW (n := n) IH Ra Ga Qa c40 (by rw [ea, hI_sI, if_neg (by omega), hI_sI, if_neg (by omega)]; exact cl) (by omega)
  have e1 : stepA (FF F0 d) h = some h2 := by
    rw [st]
    have e127 : c127 (FF F0 d) 209 (sI h (FF F0 d) 4 ((pos + 1 : Nat) : Int)) = (gR (sI h (FF F0 d) 4 ((pos + 1 : Nat) : Int)) (FF F0 d) 12 0).bind (fun v10 => (kT (sI h (FF F0 d) 4 ((pos + 1 : Nat) : Int)) (FF F0 d) 12).bind (fun u12 => (c119 (FF F0 d) (sI h (FF F0 d) 4 ((pos + 1 : Nat) : Int))).bind (fun v11 => (c132 v10 v11.1 v11.2).bind (fun h13 => some h13)))) := rfl
    rw [e127, gR_s (h := sI h (FF F0 d) 4 ((pos + 1 : Nat) : Int)) (x := FF F0 d) (t := 12) C.1, hR_sI, cR]
    refine bnd rfl ?_
    refine bnd (kT_s C.1) ?_
    refine bnd k1 ?_
    exact bnd w1 rfl
  have key := CLR_R R.2.2.2.1 R.1.2.2.2.2.1 (RCc_st g2 sa) RCr_rf (ia 8) (ia 9) pa w6
  have er : g254 (fu + 3) 255 [gn tx i, (d : Int), il] t = some (if ok = 0 then 2 else 0, t') := by
    rw [g254_5]
    unfold c255
    refine bnd (c256_e (f := 0) ht hi (by omega)) ?_
    rw [s0, if_neg (by omega), if_neg (by omega), if_neg (by omega), if_neg (by omega), if_neg (by omega), if_pos rfl]
    unfold c255_j157
    have e7 : g254 (fu + 2) 267 [gn tx i, (d : Int)] t = some (ok, t') := by
      rw [g254_7]
      unfold c267
      refine bnd (show aIs t 408 21 (d : Int) = some (c : Int) by rw [aIs_s (by omega) (by omega), Int.toNat_natCast, Q.2.2.1]) ?_
      refine bnd (c256_e (f := 1) ht hi (by omega)) ?_
      refine bnd (c256_e (f := 0) ht hi (by omega)) ?_
      rw [s0, if_neg (by omega), hn]
      exact w2
    refine bnd e7 ?_
    by_cases z : ok = 0
    · rw [if_pos z, if_pos z]
    · rw [if_neg z, if_neg z]
  rcases key with ⟨k0, k1⟩ | ⟨k0, k1⟩
  · rw [if_pos k0] at er
    exact ⟨2, t', h', 1 + kk, er, runS_tr (runS_one g3 g1 g2 (BR_F R g2) C.1 e1) w3, w4, by omega, k1⟩
  · rw [if_neg (by omega)] at er
    exact ⟨0, t', h', 1 + kk, er, runS_tr (runS_one g3 g1 g2 (BR_F R g2) C.1 e1) w3, w4, by omega, k1⟩
/-- send NAME NAME -/
theorem DS_send (IH : d < 20 → BDYp K p m q r κ F0 (d + 1) fu) (R : BRt K p m q r κ F0 h t) (G : GOt d h t) (Q : FRQ h t K d (FF F0 d) x c) (ht : tx ≤ 6) (hi : i < 1200) (s0 : ntx t tx i 0 = 25) (nm : 0 ≤ ntx t tx i 1 ∧ ntx t tx i 1 < 40) (nm2 : 0 ≤ ntx t tx i 2 ∧ ntx t tx i 2 < 40) (c0 : hI h x pos = 1) (c1 : hI h x (pos + 1) = ntx t tx i 1) (c2 : hI h x (pos + 2) = 210) (c3 : hI h x (pos + 3) = ntx t tx i 2) (hl : pos + 3 < hL h x) (hq : hI h (FF F0 d) 4 = (pos : Int)) : DSq K p m q r κ F0 d x c tx i il (pos + 4) (fu + 3) h t := by
  obtain ⟨⟨g1, g2⟩, g3, g4, g5⟩ := id G
  have C := Q.1
  have hF := C.2.2.2.2.2
  have hx := C.2.2.1
  obtain ⟨c40, cR, cl⟩ := Q.2.1
  obtain ⟨n, hn⟩ : ∃ n : Nat, ntx t tx i 2 = (n : Int) := ⟨(ntx t tx i 2).toNat, by omega⟩
  have X := FRQ_X R g2 Q
  -- the other side, as far as the name
  have er : ∀ o, c267 (g254 (fu + 1)) (gn tx i) (d : Int) t = some o → g254 (fu + 3) 255 [gn tx i, (d : Int), il] t = some (if o.1 = 0 then 2 else 0, o.2) := fun o e => by
    rw [g254_5]
    unfold c255
    refine bnd (c256_e (f := 0) ht hi (by omega)) ?_
    rw [s0, if_neg (by omega), if_neg (by omega), if_neg (by omega), if_neg (by omega), if_neg (by omega), if_neg (by omega), if_pos rfl]
    unfold c255_j157
    refine bnd (g254_7.trans e) ?_
    by_cases z : o.1 = 0
    · rw [if_pos z, if_pos z]
    · rw [if_neg z, if_neg z]
  have e7 : c267 (g254 (fu + 1)) (gn tx i) (d : Int) t = (c260 (c : Int) (ntx t tx i 1) t).bind (fun v21 => if v21 = (-1) then (c261 1001 t).bind (fun v38 => (kB v38.1).bind (fun u39 => some (v38.1, v38.2))) else if v21 = 0 then (aIs t 405 1600 (wadd (wmul 40 (c : Int)) (ntx t tx i 1))).bind (fun v37 => c267_j131 (g254 (fu + 1)) v37 (gn tx i) (d : Int) t) else if v21 = 2 then (aIs t 406 1600 (wadd (wmul 40 (c : Int)) (ntx t tx i 1))).bind (fun v36 => c267_j131 (g254 (fu + 1)) v36 (gn tx i) (d : Int) t) else (aIs t 404 40 (c : Int)).bind (fun v25 => (c248 0 v25 (ntx t tx i 1) t).bind (fun v26 => (aIs t 404 40 (c : Int)).bind (fun v27 => (c248 0 v27 (ntx t tx i 1) t).bind (fun v28 => (c208 0 v28 (ntx t tx i 1) t).bind (fun v29 => (c199 0 v26 (wadd 35 v29) t).bind (fun v30 => c267_j131 (g254 (fu + 1)) v30 (gn tx i) (d : Int) t))))))) := by
    unfold c267
    refine bnd (show aIs t 408 21 (d : Int) = some (c : Int) by rw [aIs_s (by omega) (by omega), Int.toNat_natCast, Q.2.2.1]) ?_
    refine bnd (c256_e (f := 1) ht hi (by omega)) ?_
    refine bnd (c256_e (f := 0) ht hi (by omega)) ?_
    rw [if_pos s0]
  rcases name_s (XC_G X) (n := 0) nm hq (by omega) c0 c1 g4 (by omega) g3 with ⟨v, h2, s2, o2, L2⟩ | ⟨h2, s2, o2, L2⟩
  · rw [L2 _ (fun v => c267_j131 (g254 (fu + 1)) v (gn tx i) (d : Int) t) _] at e7
    have fe0 : fe 0 t t := fp_rf
    have C2 := FCT_ce C o2.1
    have R2 : BRt K p m q r κ F0 h2 t := BR_ce R g2 C o2.1 fe0 R.2.2.2.2.2.2.2.2
    have Q2 : FRQ h2 t K d (FF F0 d) x c := FRQ_ce Q o2.1 fe0
    have l2 : hL h2 x = hL h x := FCT_L o2.1 x
    have rc2 := RCc_ce (p := p) (m := m) C R.2.2.2.1 g2 o2.1
    have r1 : runS 1 h h2 := runS_one g3 g1 g2 (BR_F R g2) C.1 (stepE_A s2)
    obtain ⟨p2, q2, ev, -, q7, q9⟩ := o2.2
    have g1' : hI h2 22 3 = (d : Int) := by rw [o2.1.2 22 3 (by omega)]; exact g1
    -- the class's second step
    obtain ⟨h3, d3⟩ : ∃ h3, h3 = sI (sI (sI h2 (FF F0 d) 4 ((pos + 3 : Nat) : Int)) 22 5 0) (FF F0 d) 4 ((pos + 4 : Nat) : Int) := ⟨_, rfl⟩
    have s3 : stF (FF F0 d) h2 h3 := by rw [d3]; exact fp_tr (fp_tr (fp_sI (.inr (.inr ⟨rfl, rfl⟩))) (fp_sI (.inl ⟨rfl, by omega⟩))) (fp_sI (.inr (.inr ⟨rfl, rfl⟩)))
    have p3 : hI h3 (FF F0 d) 4 = ((pos + 4 : Nat) : Int) := by rw [d3, hI_sI, if_pos ⟨rfl, rfl⟩]
    have q3 : ∀ j, j ≠ 5 → hI h3 22 j = hI h2 22 j := fun j hj => by rw [d3, hI_sI, if_neg (by omega), hI_sI, if_neg (by omega), hI_sI, if_neg (by omega)]
    have q5 : hI h3 22 5 = 0 := by rw [d3, hI_sI, if_neg (by omega), hI_sI, if_pos ⟨rfl, rfl⟩]
    have R3 : BRt K p m q r κ F0 h3 t := BR_st R2 g2 C2 s3 seR_rf (by rw [q3 10 (by omega)]; exact R2.2.2.2.2.2.1) R2.2.2.2.2.2.2.2.2
    have Q3 : FRQ h3 t K d (FF F0 d) x c := FRQ_st Q2 s3 seR_rf
    have G3 : GOt d h3 t := ⟨⟨by rw [q3 3 (by omega)]; exact g1', g2⟩, by rw [q3 7 (by omega)]; exact q7, q5, g5⟩
    have rc3 : RCc p m F0 d h h3 := RCc_tr R.2.2.2.1 R.1.2.2.2.2.1 rc2 (RCc_st g2 s3)
    have e8 : hI h3 22 8 = hI h 22 8 := by rw [q3 8 (by omega), o2.1.2 22 8 (by omega)]
    have e9 : hI h3 22 9 = hI h 22 9 := by rw [q3 9 (by omega), q9]
    have st : ∀ h', c133 v (n : Int) h3 = some h' → stepA (FF F0 d) h2 = some h' := fun h' e => by
      rw [stepA_n C2 (pos := pos + 2) p2 (by rw [l2]; omega) (show hI h2 x (pos + 2) = 210 by rw [FCT_x C o2.1]; exact c2) (.inr (.inl (by omega)))]
      have k2 : c124 (sI h2 (FF F0 d) 4 ((pos + 2 + 1 : Nat) : Int)) = some (v, sI (sI h2 (FF F0 d) 4 ((pos + 3 : Nat) : Int)) 22 5 0) := POPq (by omega) q2 ev
      have k1 : c119 (FF F0 d) (sI (sI h2 (FF F0 d) 4 ((pos + 3 : Nat) : Int)) 22 5 0) = some ((n : Int), h3) := by
        rw [c119_e (h := sI (sI h2 (FF F0 d) 4 ((pos + 3 : Nat) : Int)) 22 5 0) (q := pos + 3) (x := x) C2 (by rw [hI_sI, if_neg (by omega), hI_sI, if_pos ⟨rfl, rfl⟩]) (by show _ < hL h2 x; rw [l2]; omega), hI_sI, if_neg (by omega), hI_sI, if_neg (by omega), FCT_x C o2.1, c3, hn, d3]
      have e127 : c127 (FF F0 d) 210 (sI h2 (FF F0 d) 4 ((pos + 2 + 1 : Nat) : Int)) = (c124 (sI h2 (FF F0 d) 4 ((pos + 2 + 1 : Nat) : Int))).bind (fun v15 => (kT v15.2 (FF F0 d) 12).bind (fun u17 => (c119 (FF F0 d) v15.2).bind (fun v16 => (c133 v15.1 v16.1 v16.2).bind (fun h18 => some h18)))) := rfl
      rw [e127]
      refine bnd k2 ?_
      refine bnd (kT_s C2.1) ?_
      refine bnd k1 ?_
      exact bnd e rfl
    have r2 : ∀ h', c133 v (n : Int) h3 = some h' → runS 2 h h' := fun h' e => runS_tr r1 (runS_one q7 g1' g2 (BR_F R2 g2) C2.1 (st h' e))
    have lv := c241_e R3.1.2.2.2.1 v
    by_cases z : lvs h3 v = true
    · -- there is such a creature
      rw [if_pos z] at lv
      obtain ⟨⟨v0, v1⟩, v2⟩ := lvs_b z
      obtain ⟨cc, hcc⟩ : ∃ cc : Nat, v = (cc : Int) := ⟨v.toNat, by omega⟩
      subst hcc
      rw [Int.toNat_natCast] at v2
      obtain ⟨ok, t', h', h4, kk, w1, w2, w3, w4, w5, w6⟩ := CALLW (n := n) IH R3 G3 Q3 (c2 := cc) (by omega) v2 (by omega)
      have e133 : c133 (cc : Int) (n : Int) h3 = some h4 := by
        have hs := R3.1.1.1 cc (by omega)
        unfold c133
        rw [if_neg (by omega), if_neg (by omega)]
        refine bnd (show aRs h3 19 40 (cc : Int) = some (215 + 4 * cc) by rw [aRs_s (by omega) (by omega), Int.toNat_natCast, hs.1]) ?_
        rw [gI_s hs.2.1]
        refine bnd rfl ?_
        rw [if_neg (by omega)]
        refine bnd (show aRs h3 19 40 (cc : Int) = some (215 + 4 * cc) by rw [aRs_s (by omega) (by omega), Int.toNat_natCast, hs.1]) ?_
        exact bnd w1 rfl
      have e131 : c267_j131 (g254 (fu + 1)) (cc : Int) (gn tx i) (d : Int) t = some (ok, t') := by
        unfold c267_j131
        refine bnd lv ?_
        rw [if_neg (by omega)]
        refine bnd (c256_e (f := 2) ht hi (by omega)) ?_
        rw [hn]
        exact w2
      have er2 := er _ (e7.trans e131)
      have key := CLR_R R.2.2.2.1 R.1.2.2.2.2.1 rc3 RCr_rf e8 e9 p3 w6
      rcases key with ⟨k0, k1⟩ | ⟨k0, k1⟩
      · rw [if_pos k0] at er2
        exact ⟨2, t', h', 2 + kk, er2, runS_tr (r2 _ e133) w3, w4, by omega, k1⟩
      · rw [if_neg (by omega)] at er2
        exact ⟨0, t', h', 2 + kk, er2, runS_tr (r2 _ e133) w3, w4, by omega, k1⟩
    · rw [if_neg z] at lv
      have e133 : c133 v (n : Int) h3 = some (sI (sI h3 22 9 1003) 22 7 1) := by
        have j25 : c133_j25 h3 = some (sI (sI h3 22 9 1003) 22 7 1) := rfl
        unfold c133
        by_cases z0 : v < 0
        · rw [if_pos z0]; exact j25
        · rw [if_neg z0]
          by_cases z4 : 40 ≤ v
          · rw [if_pos z4]; exact j25
          · rw [if_neg z4]
            obtain ⟨cc, hcc⟩ : ∃ cc : Nat, v = (cc : Int) := ⟨v.toNat, by omega⟩
            have hs := R3.1.1.1 cc (by omega)
            refine bnd (show aRs h3 19 40 v = some (215 + 4 * cc) by rw [hcc, aRs_s (by omega) (by omega), Int.toNat_natCast, hs.1]) ?_
            rw [gI_s hs.2.1]
            refine bnd rfl ?_
            rw [if_pos ?_]
            · exact j25
            · have := (R3.1.2.2.2.1.2.2.2 cc (by omega)).1
              rcases this with y | y
              · exact y
              · exact absurd (by unfold lvs; rw [hcc, Int.toNat_natCast, Bool.and_eq_true]; exact ⟨decide_eq_true ⟨by omega, by omega⟩, decide_eq_true y⟩) z
      have e131 : c267_j131 (g254 (fu + 1)) v (gn tx i) (d : Int) t = some (0, sI t 395 39 1003) := by
        unfold c267_j131
        refine bnd lv ?_
        rw [if_pos rfl]
        rfl
      have er2 := er _ (e7.trans e131)
      rw [if_pos rfl] at er2
      exact ⟨2, _, _, 2, er2, r2 _ e133, by rw [hI_sI, if_neg (by omega)]; exact Int.le_refl _, by rw [hI_sI, if_neg (by omega)]; omega, RSL_pre R.2.2.2.1 R.1.2.2.2.2.1 rc3 RCr_rf e8 e9 (FLT R3 G3 1003)⟩
  · rw [L2] at e7
    have er2 := er _ (e7.trans rfl)
    rw [if_pos rfl] at er2
    have fe0 : fe 0 t (sI t 395 39 1001) := fp_sI (by omega)
    refine ⟨2, _, h2, 1, er2, runS_one g3 g1 g2 (BR_F R g2) C.1 (stepE_A s2), by rw [hI_sI, if_neg (by omega)]; exact Int.le_refl _, by rw [hI_sI, if_neg (by omega)]; omega, .inr (.inr ⟨rfl, BR_ce R g2 C o2.1 fe0 (by rw [hI_sI, if_neg (by omega)]; exact R.2.2.2.2.2.2.2.2), RCc_ce C R.2.2.2.1 g2 o2.1, RCr_fe fe0, by rw [o2.1.2 22 8 (by omega)], .inl ⟨o2.2.1, by rw [o2.2.2.1, hI_sI, if_pos ⟨rfl, rfl⟩], by rw [hI_sI, if_neg (by omega)]; exact g5⟩⟩)⟩
end DOE
