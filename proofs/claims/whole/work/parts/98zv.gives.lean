/-! statements: give, fail, rest -/
section GVS
variable {h h' h0 h1 t t' t0 t1 : hS} {K : Nat → Int → Prop} {p m q κ F0 d n x c k tx i pos fu : Nat} {r : Int → Nat} {il how v : Int}
/-- a piece ahead of it -/
theorem RSL_pre (f : F0k F0) (hp : p = 213 ∨ 448 ≤ p) (a : RCc p m F0 d h0 h) (b : RCr d t0 t) (e8 : hI h 22 8 = hI h0 22 8) (e9 : hI h 22 9 = hI h0 22 9) (g : RSL K p m q r κ F0 d x c pos h t h' t' how) : RSL K p m q r κ F0 d x c pos h0 t0 h' t' how := by
  rcases g with ⟨g0, g1, g2, g3, g4, g5, g6, g7, g8⟩ | ⟨g0, g1, g2, g3, g4, g5⟩ | ⟨g0, g1, g2, g3, g4, g5⟩
  · exact .inl ⟨g0, g1, g2, g3, g4, RCc_tr f hp a g5, RCr_tr b g6, by rw [g7, e8], by rw [g8, e9]⟩
  · refine .inr (.inl ⟨g0, g1, RCr_tr b g2, g3, by rw [g4, e9], ?_⟩)
    rcases g5 with ⟨z, z1, z2, z3⟩ | ⟨d1, z, ⟨g, z1, z2⟩, z3, z4⟩
    · subst z
      exact .inl ⟨rfl, RCc_tr f hp a z1, z2, z3⟩
    · exact .inr ⟨d1, z, ⟨g, RCc_tr f hp a z1, z2⟩, z3, by rw [z4, e8]⟩
  · refine .inr (.inr ⟨g0, g1, RCc_tr f hp a g2, RCr_tr b g3, by rw [g4, e8], ?_⟩)
    rcases g5 with z | ⟨z1, z2, z3⟩
    · exact .inl z
    · exact .inr ⟨z1, by rw [z2, e9], z3⟩
/-- the body of level d comes to its end with v -/
theorem FINq (R : BRt K p m q r κ F0 h t) (G : GOt d h t) (b : seR t t') (e41 : hI t' 395 41 = hI t 395 41) (e40 : hI t' 395 40 = v) (e54 : hI t' 395 54 = 0) (e42 : hI t' 395 42 = 0) : ∃ h', c129 v h = some h' ∧ RSL K p m q r κ F0 d x c pos h t h' t' 1 := by
  obtain ⟨⟨g1, g2⟩, g3, g4, g5⟩ := G
  have f := R.2.2.2.1
  have hp := R.1.2.2.2.2.1
  have Rt : RT h t' K p m q r := RT_c R.1 chg_rf (fun y j hy => b.2 y j (by omega))
  by_cases z : d = 0
  · subst z
    have st : stF (FF F0 0) h (sI (sI h 22 8 v) 22 7 0) := fp_tr (fp_sI (.inl ⟨rfl, by omega⟩)) (fp_sI (.inl ⟨rfl, by omega⟩))
    refine ⟨sI (sI h 22 8 v) 22 7 0, ?_, .inr (.inl ⟨rfl, ?_, RCr_se b, e42, ?_, .inl ⟨rfl, RCc_st (by omega) st, ?_, ?_⟩⟩)⟩
    · unfold c129
      rw [g1, if_pos (show ((0 : Nat) : Int) = 0 from rfl)]
      rfl
    · refine BR_c R (RCc_st (by omega) st) (RCr_se (d := 0) b) (RT_c R.1 (chg_fp st (fun y j hy => by have := FF_b (e := 0) f (by omega); omega)) (fun y j hy => b.2 y j (by omega))) ?_ ?_ e54
      · rw [hI_sI, if_neg (by omega), hI_sI, if_neg (by omega), e41]; exact R.2.2.2.2.2.1
      · obtain ⟨r1, r2, r3⟩ := R.2.2.2.2.2.2.1
        refine ⟨by rw [hI_sI, if_neg (by omega), hI_sI, if_neg (by omega), b.2 395 66 (by omega)]; exact r1, by rw [hI_sI, if_neg (by omega), hI_sI, if_neg (by omega)]; exact r2, fun i hi => ?_⟩
        rw [hI_sI, if_neg (by omega), hI_sI, if_neg (by omega)] at hi
        rw [hI_sI, if_neg (by omega), hI_sI, if_neg (by omega), hI_sI, if_neg (by omega), hI_sI, if_neg (by omega), hI_sI, if_neg (by omega), hI_sI, if_neg (by omega), hI_sI, if_neg (by omega), hI_sI, if_neg (by omega), b.2 419 i (by omega), b.2 420 i (by omega), b.2 421 i (by omega), b.2 422 i (by omega)]
        exact r3 i hi
    · rw [hI_sI, if_neg (by omega), hI_sI, if_neg (by omega)]
    · rw [hI_sI, if_pos ⟨rfl, rfl⟩]
    · rw [hI_sI, if_neg (by omega), hI_sI, if_pos ⟨rfl, rfl⟩, e40]
  · obtain ⟨d1, rfl⟩ : ∃ d1, d = d1 + 1 := ⟨d - 1, by omega⟩
    have hF1 := FF_b (e := d1) f (by omega)
    obtain ⟨g, hg⟩ : ∃ g, g = sI h 22 3 (d1 : Int) := ⟨_, rfl⟩
    have stg : stF (FF F0 (d1 + 1)) h g := by rw [hg]; exact fp_sI (.inl ⟨rfl, by omega⟩)
    have rg := RCc_st (p := p) (m := m) g2 stg
    have tF : hT h (FF F0 d1) = 12 ∧ hR h 23 d1 = FF F0 d1 := ⟨BR_T R (by omega), BR_F R (by omega)⟩
    have i' : ∀ y j, ¬ (y = 22 ∧ j = 3) → ¬ (y = FF F0 d1 ∧ j = 5) → hI (sI g (FF F0 d1) 5 v) y j = hI h y j := fun y j h1 h2 => by rw [hI_sI, if_neg h2, hg, hI_sI, if_neg h1]
    refine ⟨sI g (FF F0 d1) 5 v, ?_, .inr (.inl ⟨rfl, ?_, RCr_se b, e42, i' 22 9 (by omega) (by omega), .inr ⟨d1, rfl, ⟨g, rg, by rw [e40]⟩, ⟨⟨?_, by omega⟩, by rw [i' 22 7 (by omega) (by omega)]; exact g3, by rw [i' 22 5 (by omega) (by omega)]; exact g4, e42⟩, i' 22 8 (by omega) (by omega)⟩⟩)⟩
    · unfold c129
      rw [g1, if_neg (by omega), wsub_e (by omega) (by omega), show ((d1 + 1 : Nat) : Int) - 1 = (d1 : Int) by omega, ← hg]
      refine bnd rfl ?_
      have e3 : hI g 22 3 = (d1 : Int) := by rw [hg, hI_sI, if_pos ⟨rfl, rfl⟩]
      have eR : hR g 23 d1 = FF F0 d1 := by rw [hg]; exact tF.2
      rw [e3, aRs_s (by omega) (by omega), Int.toNat_natCast, eR]
      refine bnd rfl ?_
      rw [pI_s (h := g) (x := FF F0 d1) (t := 12) (by rw [hg]; exact tF.1)]
      rfl
    · have rc : RCc p m F0 d1 h (sI g (FF F0 d1) 5 v) := by
        refine ⟨⟨by rw [hg]; rfl, by rw [hg]; rfl, by rw [hg]; rfl, by rw [hg]; rfl, by rw [hg]; rfl⟩, fun y j _ => by rw [hR_sI, hg, hR_sI], fun y j q1 w => i' y j (fun z => w (.inl (by omega))) (fun z => q1 d1 (Nat.le_refl _) (by omega) z.1)⟩
      refine BR_c R rc (RCr_se (d := d1) b) (RT_c R.1 (chg_tr (chg_fp stg (fun y j hy => by have := FF_b (e := d1 + 1) f g2; omega)) (chg_sI (by omega))) (fun y j hy => b.2 y j (by omega))) ?_ ?_ e54
      · rw [i' 22 10 (by omega) (by omega), e41]; exact R.2.2.2.2.2.1
      · obtain ⟨r1, r2, r3⟩ := R.2.2.2.2.2.2.1
        refine ⟨by rw [i' 22 13 (by omega) (by omega), b.2 395 66 (by omega)]; exact r1, by rw [i' 22 13 (by omega) (by omega)]; exact r2, fun i hi => ?_⟩
        rw [i' 22 13 (by omega) (by omega)] at hi
        rw [i' 26 _ (by omega) (by omega), i' 26 _ (by omega) (by omega), i' 26 _ (by omega) (by omega), i' 26 _ (by omega) (by omega), b.2 419 i (by omega), b.2 420 i (by omega), b.2 421 i (by omega), b.2 422 i (by omega)]
        exact r3 i hi
    · rw [hI_sI, if_neg (by omega), hg, hI_sI, if_pos ⟨rfl, rfl⟩]
/-- a number that waits is taken -/
theorem POPq {a : Int} {h2 : hS} {F q2 : Nat} (hF : F ≠ 22 ∧ F ≠ 25) (e5 : hI h2 22 5 = ((0 + 1 : Nat) : Int)) (ev : hI h2 25 0 = a) : c124 (sI h2 F 4 ((q2 + 1 : Nat) : Int)) = some (a, sI (sI h2 F 4 ((q2 + 1 : Nat) : Int)) 22 5 0) := by
  rw [c124_e (n := 0) (by rw [hI_sI, if_neg (by omega)]; exact e5) (by omega), hI_sI, if_neg (by omega), ev]
  rfl
end GVS
section GVT
variable {h h' h0 h1 t t' t0 t1 : hS} {K : Nat → Int → Prop} {p m q κ F0 d n x c k tx i pos pos' fu : Nat} {r : Int → Nat} {il how v : Int}
/-- give E, fail E -/
theorem DS_gf {a : Nat} {A : List Int} {w : Int} (R : BRt K p m q r κ F0 h t) (G : GOt d h t) (Q : FRQ h t K d (FF F0 d) x c) (ht : tx ≤ 6) (hi : i < 1200) (s0 : (ntx t tx i 0 = 21 ∧ w = 206) ∨ (ntx t tx i 0 = 22 ∧ w = 207)) (sa : ntx t tx i 1 = (a : Int)) (ha : a < i) (E : EX (ntx t tx) (a + 1) 53 a A) (cd : ∀ (j : Nat) (v : Int), (A ++ [w])[j]? = some v → hI h x (pos + j) = v) (hl : pos + (A.length + 1) < hL h x) (hq : hI h (FF F0 d) 4 = (pos : Int)) : DSq K p m q r κ F0 d x c tx i il pos' (fu + 1) h t := by
  have h97 := FCT_97 R Q
  have cA : ∀ (j : Nat) (v : Int), A[j]? = some v → hI h x (pos + j) = v := fun j v hj => cd j v (by
    have hj' : j < A.length := by
      by_cases z : j < A.length
      · exact z
      · rw [List.getElem?_eq_none (by omega)] at hj; cases hj
    rw [List.getElem?_append_left hj']; exact hj)
  have cw : hI h x (pos + A.length) = w := cd A.length w (by rw [List.getElem?_append_right (Nat.le_refl _), Nat.sub_self]; rfl)
  have dsd : ∀ o, g258 120 258 [gn tx a, (d : Int)] t = some o → c255 (g254 fu) (gn tx i) (d : Int) il t = (if o.1 = 0 then some (2, o.2) else if ntx t tx i 0 = 22 then (some (sI o.2 395 39 (hI o.2 395 52))).bind (fun h25 => c255_j122 (ntx t tx i 0) h25) else c255_j122 (ntx t tx i 0) o.2) := fun o e => by
    have ej : c255_j91 (gn tx i) (d : Int) (ntx t tx i 0) t = (if o.1 = 0 then some (2, o.2) else if ntx t tx i 0 = 22 then (some (sI o.2 395 39 (hI o.2 395 52))).bind (fun h25 => c255_j122 (ntx t tx i 0) h25) else c255_j122 (ntx t tx i 0) o.2) := by
      unfold c255_j91
      refine bnd (c257_e (f := 1) ht hi (by omega) sa (by omega)) ?_
      exact bnd e rfl
    rw [← ej]
    unfold c255
    refine bnd (c256_e (f := 0) ht hi (by omega)) ?_
    rw [if_neg (by omega), if_neg (by omega)]
    rcases s0 with ⟨z, -⟩ | ⟨z, -⟩
    · rw [if_pos z]
    · rw [if_neg (by omega), if_pos z]
  rcases EVS R G Q ht E (by omega) cA (by omega) hq with ⟨t2, h2, kk, v, b1, b2, b3, b4, b5, b6, b7, b8, b9, b10, b11, b12, b13, b14, b15⟩ | ⟨t2, h2, kk, b1, b2, b3, b4, b5⟩
  · obtain ⟨⟨g1, g2⟩, g3, g4, g5⟩ := id G
    have C2 := b8.1
    have hF := C2.2.2.2.2.2
    have f := R.2.2.2.1
    have hp := R.1.2.2.2.2.1
    have l2 : hL h2 x = hL h x := FCT_L b3.1 x
    obtain ⟨h3, d3⟩ : ∃ h3, h3 = sI (sI h2 (FF F0 d) 4 ((pos + A.length + 1 : Nat) : Int)) 22 5 0 := ⟨_, rfl⟩
    have s3 : stF (FF F0 d) h2 h3 := by rw [d3]; exact fp_tr (fp_sI (.inr (.inr ⟨rfl, rfl⟩))) (fp_sI (.inl ⟨rfl, by omega⟩))
    have q3 : ∀ j, j ≠ 5 → hI h3 22 j = hI h2 22 j := fun j hj => by rw [d3, hI_sI, if_neg (by omega), hI_sI, if_neg (by omega)]
    have q5 : hI h3 22 5 = 0 := by rw [d3, hI_sI, if_pos ⟨rfl, rfl⟩]
    have pop : c124 (sI h2 (FF F0 d) 4 ((pos + A.length + 1 : Nat) : Int)) = some (v, h3) := by rw [d3]; exact POPq (by omega) b3.2.2.1 b3.2.2.2.1
    have R3 : BRt K p m q r κ F0 h3 t2 := BR_st b7 g2 C2 s3 seR_rf (by rw [q3 10 (by omega)]; exact b7.2.2.2.2.2.1) b7.2.2.2.2.2.2.2.2
    have a3 : RCc p m F0 d h h3 := RCc_tr f hp b9 (RCc_st g2 s3)
    have stw := stepA_n (o := w) C2 b3.2.1 (by rw [l2]; omega) (by rw [FCT_x Q.1 b3.1]; exact cw) (by rcases s0 with ⟨-, z⟩ | ⟨-, z⟩ <;> omega)
    have run : ∀ h', stepA (FF F0 d) h2 = some h' → runS (kk + 1) h h' := fun h' e => runS_tr b2 (runS_one b3.2.2.2.2.2.1 b11 g2 (BR_F b7 g2) C2.1 e)
    have e8 : hI h3 22 8 = hI h 22 8 := by rw [q3 8 (by omega)]; exact b13
    have e9 : hI h3 22 9 = hI h 22 9 := by rw [q3 9 (by omega)]; exact b3.2.2.2.2.2.2
    rcases s0 with ⟨s0, rfl⟩ | ⟨s0, rfl⟩
    · -- give
      have se : seR t2 (sI t2 395 40 v) := fp_sI (.inl ⟨rfl, by omega⟩)
      obtain ⟨h', w1, w2⟩ := FINq (x := x) (c := c) (pos := pos') (t' := sI t2 395 40 v) (v := v) R3 ⟨⟨by rw [q3 3 (by omega)]; exact b11, g2⟩, by rw [q3 7 (by omega)]; exact b3.2.2.2.2.2.1, q5, b12⟩ se (by rw [hI_sI, if_neg (by omega)]) (by rw [hI_sI, if_pos ⟨rfl, rfl⟩]) (by rw [hI_sI, if_neg (by omega)]; exact b7.2.2.2.2.2.2.2.2) (by rw [hI_sI, if_neg (by omega)]; exact b12)
      refine ⟨1, sI t2 395 40 v, h', kk + 1, ?_, run h' ?_, ?_, ?_, RSL_pre f hp a3 b10 e8 e9 w2⟩
      · rw [g254_5, dsd _ b6, if_neg (by omega), if_neg (by omega)]
        unfold c255_j122
        rw [s0]
        refine bnd rfl ?_
        rw [if_pos rfl, b5]
      · rw [stw]
        have e127 : c127 (FF F0 d) 206 (sI h2 (FF F0 d) 4 ((pos + A.length + 1 : Nat) : Int)) = (c124 (sI h2 (FF F0 d) 4 ((pos + A.length + 1 : Nat) : Int))).bind (fun v2 => (c129 v2.1 v2.2).bind (fun h3 => some h3)) := rfl
        rw [e127]
        refine bnd pop ?_
        exact bnd w1 rfl
      · rw [hI_sI, if_neg (by omega), b15]; exact Int.le_refl _
      · rw [hI_sI, if_neg (by omega), b15]; omega
    · -- fail
      have s4 : stF (FF F0 d) h3 (sI (sI h3 22 9 v) 22 7 1) := fp_tr (fp_sI (.inl ⟨rfl, by omega⟩)) (fp_sI (.inl ⟨rfl, by omega⟩))
      have se : seR t2 (sI (sI t2 395 39 v) 395 40 v) := fp_tr (fp_sI (.inl ⟨rfl, by omega⟩)) (fp_sI (.inl ⟨rfl, by omega⟩))
      refine ⟨2, sI (sI t2 395 39 v) 395 40 v, sI (sI h3 22 9 v) 22 7 1, kk + 1, ?_, run _ ?_, ?_, ?_, .inr (.inr ⟨rfl, BR_st R3 g2 (FCT_st C2 s3) s4 se ?_ ?_, RCc_tr f hp a3 (RCc_st g2 s4), RCr_tr b10 (RCr_se se), ?_, .inl ⟨?_, ?_, ?_⟩⟩)⟩
      · rw [g254_5, dsd _ b6, if_neg (by omega), if_pos s0, b5]
        refine bnd rfl ?_
        unfold c255_j122
        rw [hI_sI, if_neg (by omega), b5, s0]
        refine bnd rfl ?_
        rw [if_neg (by omega)]
      · rw [stw]
        have e127 : c127 (FF F0 d) 207 (sI h2 (FF F0 d) 4 ((pos + A.length + 1 : Nat) : Int)) = (c124 (sI h2 (FF F0 d) 4 ((pos + A.length + 1 : Nat) : Int))).bind (fun v5 => (c123 v5.1 v5.2).bind (fun h6 => some h6)) := rfl
        rw [e127]
        refine bnd pop ?_
        rfl
      · rw [hI_sI, if_neg (by omega), hI_sI, if_neg (by omega), b15]; exact Int.le_refl _
      · rw [hI_sI, if_neg (by omega), hI_sI, if_neg (by omega), b15]; omega
      · rw [hI_sI, if_neg (by omega), hI_sI, if_neg (by omega), hI_sI, if_neg (by omega), hI_sI, if_neg (by omega)]; exact R3.2.2.2.2.2.1
      · rw [hI_sI, if_neg (by omega), hI_sI, if_neg (by omega)]; exact R3.2.2.2.2.2.2.2.2
      · rw [hI_sI, if_neg (by omega), hI_sI, if_neg (by omega)]; exact e8
      · rw [hI_sI, if_pos ⟨rfl, rfl⟩]
      · rw [hI_sI, if_neg (by omega), hI_sI, if_pos ⟨rfl, rfl⟩, hI_sI, if_neg (by omega), hI_sI, if_pos ⟨rfl, rfl⟩]
      · rw [hI_sI, if_neg (by omega), hI_sI, if_neg (by omega)]; exact b12
  · refine ⟨2, t2, h2, kk, ?_, b2, by rw [b4]; exact Int.le_refl _, by rw [b4]; omega, ?_⟩
    · rw [g254_5, dsd _ b3, if_pos rfl]
    · rcases b5 with ⟨z, -⟩ | ⟨z, -⟩ | z
      · omega
      · omega
      · exact .inr (.inr z)
/-- rest, where it is nothing -/
theorem DS_rest (R : BRt K p m q r κ F0 h t) (G : GOt d h t) (Q : FRQ h t K d (FF F0 d) x c) (ht : tx ≤ 6) (hi : i < 1200) (s0 : ntx t tx i 0 = 26) (c0 : hI h x pos = 211) (hl : pos < hL h x) (hq : hI h (FF F0 d) 4 = (pos : Int)) (hil : il = 0) (hr : hI h 22 6 = 0 ∨ d ≠ 0) : DSq K p m q r κ F0 d x c tx i il (pos + 1) (fu + 1) h t := by
  obtain ⟨⟨g1, g2⟩, g3, g4, g5⟩ := id G
  have C := Q.1
  have hF := C.2.2.2.2.2
  have st := stepA_n C hq hl c0 (.inr (.inl (by omega)))
  have e127 : c127 (FF F0 d) 211 (sI h (FF F0 d) 4 ((pos + 1 : Nat) : Int)) = if hI (sI h (FF F0 d) 4 ((pos + 1 : Nat) : Int)) 22 6 = 0 then some (sI h (FF F0 d) 4 ((pos + 1 : Nat) : Int)) else if hI (sI h (FF F0 d) 4 ((pos + 1 : Nat) : Int)) 22 3 = 0 then (some (sI (sI h (FF F0 d) 4 ((pos + 1 : Nat) : Int)) 22 7 5)).bind (fun h22 => some h22) else some (sI h (FF F0 d) 4 ((pos + 1 : Nat) : Int)) := rfl
  have st1 : stepA (FF F0 d) h = some (sI h (FF F0 d) 4 ((pos + 1 : Nat) : Int)) := by
    have e6 : hI (sI h (FF F0 d) 4 ((pos + 1 : Nat) : Int)) 22 6 = hI h 22 6 := by rw [hI_sI, if_neg (by omega)]
    have e3 : hI (sI h (FF F0 d) 4 ((pos + 1 : Nat) : Int)) 22 3 = (d : Int) := by rw [hI_sI, if_neg (by omega)]; exact g1
    rw [st, e127, e6, e3]
    by_cases z : hI h 22 6 = 0
    · rw [if_pos z]
    · rw [if_neg z, if_neg (by omega)]
  have s1 : stF (FF F0 d) h (sI h (FF F0 d) 4 ((pos + 1 : Nat) : Int)) := fp_sI (.inr (.inr ⟨rfl, rfl⟩))
  have i1 : ∀ j, hI (sI h (FF F0 d) 4 ((pos + 1 : Nat) : Int)) 22 j = hI h 22 j := fun j => by rw [hI_sI, if_neg (by omega)]
  refine ⟨0, t, _, 1, ?_, runS_one g3 g1 g2 (BR_F R g2) C.1 st1, Int.le_refl _, by omega, .inl ⟨rfl, BR_st R g2 C s1 seR_rf (by rw [i1]; exact R.2.2.2.2.2.1) R.2.2.2.2.2.2.2.2, ⟨⟨by rw [i1]; exact g1, g2⟩, by rw [i1]; exact g3, by rw [i1]; exact g4, g5⟩, FRQ_st Q s1 seR_rf, by rw [hI_sI, if_pos ⟨rfl, rfl⟩], RCc_st g2 s1, RCr_rf, i1 8, i1 9⟩⟩
  rw [g254_5]
  unfold c255
  refine bnd (c256_e (f := 0) ht hi (by omega)) ?_
  rw [s0, if_neg (by omega), if_neg (by omega), if_neg (by omega), if_neg (by omega), if_neg (by omega), if_neg (by omega), if_neg (by omega), if_pos rfl, if_pos hil]
end GVT
