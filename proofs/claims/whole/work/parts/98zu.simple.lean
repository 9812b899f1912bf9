/-! statements: the simple ones -/
def stF (F : Nat) (h h' : hS) : Prop := fp (fun y j => (y = 22 ∧ (j = 3 ∨ j = 5 ∨ j = 7 ∨ j = 8 ∨ j = 9 ∨ j = 10)) ∨ y = 25 ∨ (y = F ∧ j = 4)) h h'
def seR (t t' : hS) : Prop := fp (fun x j => (x = 395 ∧ (j = 39 ∨ j = 40 ∨ j = 41 ∨ j = 42 ∨ j = 52 ∨ j = 54 ∨ j = 55)) ∨ x = 417) t t'
section SIM
variable {h h' h1 t t' t1 : hS} {K : Nat → Int → Prop} {p m q κ F0 F d n x c k tx i pos fu : Nat} {r : Int → Nat} {il : Int}
theorem stF_chg (C : FCT h F x) (a : stF F h h') : chg (fun x => (20 ≤ x ∧ x ≤ 47) ∨ (375 ≤ x ∧ x < 395)) h h' := chg_fp a (fun y j hy => by have := C.2.2.2.2.2; omega)
theorem stF_rf : stF F h h := fp_rf
theorem seR_rf : seR t t := fp_rf
theorem stF_ce (a : ceF F h h') : stF F h h' := ⟨a.1, fun x j z => a.2 x j (by omega)⟩
theorem seR_fe {nc : Nat} (a : fe nc t t') : seR t t' := ⟨a.1, fun x j z => a.2 x j (by omega)⟩
theorem seR_n (a : seR t t') (tx i j : Nat) : ntx t' tx i j = ntx t tx i j := a.2 399 _ (by omega)
theorem RCr_se (a : seR t t') : RCr d t t' := ⟨a.1, fun x j z => a.2 x j (by omega)⟩
theorem stF_x (C : FCT h F x) (a : stF F h h') (j : Nat) : hI h' x j = hI h x j := a.2 x j (by have := C.2.2.1; have := C.2.2.2.2.2; omega)
theorem stF_L (a : stF F h h') (y : Nat) : hL h' y = hL h y := by show h'.2.2.2.2.1 y = h.2.2.2.2.1 y; rw [a.1]
theorem FCT_st (C : FCT h F x) (a : stF F h h') : FCT h' F x := by
  have e := a.1
  have eR : ∀ x j, hR h' x j = hR h x j := fun x j => by show h'.2.1 x j = h.2.1 x j; rw [e]
  have eT : ∀ x, hT h' x = hT h x := fun x => by show h'.2.2.2.1 x = h.2.2.2.1 x; rw [e]
  obtain ⟨c1, c2, c3, c4, c5, c6⟩ := C
  exact ⟨by rw [eT]; exact c1, by rw [eR]; exact c2, c3, by rw [eT]; exact c4, by rw [stF_L a]; exact c5, c6⟩
theorem FRQ_st (Q : FRQ h t K d (FF F0 d) x c) (a : stF (FF F0 d) h h') (b : seR t t') : FRQ h' t' K d (FF F0 d) x c := by
  obtain ⟨C, ⟨d1, d2, d3⟩, g1, g2, g3, n, j, k, ⟨n1, n2, n3⟩, n4, n5, n6, n7, n8⟩ := Q
  have hF := C.2.2.2.2.2
  have eR : ∀ x j, hR h' x j = hR h x j := fun x j => by show h'.2.1 x j = h.2.1 x j; rw [a.1]
  have eb : ∀ x j, x ≠ 395 → x ≠ 417 → hI t' x j = hI t x j := fun x j h1 h2 => b.2 x j (by omega)
  refine ⟨FCT_st C a, ⟨d1, by rw [eR]; exact d2, by rw [a.2 (215 + 4 * c) 1 (by omega)]; exact d3⟩, by rw [eb 408 d (by omega) (by omega)]; exact g1, by rw [a.2 _ 6 (by omega), eb 409 d (by omega) (by omega)]; exact g2, by rw [a.2 _ 5 (by omega), eb 410 d (by omega) (by omega)]; exact g3, n, j, k, ⟨n1, by rw [a.2 _ 2 (by omega)]; exact n2, by rw [eb 413 d (by omega) (by omega)]; exact n3⟩, by rw [eb 412 d (by omega) (by omega)]; exact n4, by rw [eb 411 d (by omega) (by omega)]; exact n5, n6, ?_, by rw [eb 414 _ (by omega) (by omega)]; exact n8⟩
  rw [eR]
  exact ACH_c n7 (fun a' Q' => KD_chg (stF_chg C a) (fun x hx => by omega) Q') (fun i _ _ => ⟨eb 414 _ (by omega) (by omega), eb 415 _ (by omega) (by omega), eb 416 _ (by omega) (by omega)⟩)
theorem RCc_st (d20 : d ≤ 20) (a : stF (FF F0 d) h h') : RCc p m F0 d h h' := by
  have e2 := a.1
  refine ⟨⟨?_, ?_, ?_, ?_, ?_⟩, fun x j _ => ?_, fun x j q w => a.2 x j (fun z => ?_)⟩
  · show h'.2.2.1 = h.2.2.1; rw [e2]
  · show h'.2.2.2.1 = h.2.2.2.1; rw [e2]
  · show h'.2.2.2.2.1 = h.2.2.2.2.1; rw [e2]
  · show h'.2.2.2.2.2.1 = h.2.2.2.2.2.1; rw [e2]
  · show h'.2.2.2.2.2.2 = h.2.2.2.2.2.2; rw [e2]
  · show h'.2.1 x j = h.2.1 x j; rw [e2]
  · have := q d (Nat.le_refl _) d20
    rcases z with z | z | z
    · exact w (.inl (by omega))
    · exact w (.inr (.inl z))
    · exact this z.1
theorem BR_st (R : BRt K p m q r κ F0 h t) (d20 : d ≤ 20) (C : FCT h (FF F0 d) x) (a : stF (FF F0 d) h h') (b : seR t t') (cn : hI h' 22 10 = hI t' 395 41 ∧ 0 ≤ hI t' 395 41 ∧ hI t' 395 41 ≤ 500) (e54 : hI t' 395 54 = 0) : BRt K p m q r κ F0 h' t' := by
  have hF := C.2.2.2.2.2
  refine BR_c R (RCc_st d20 a) (RCr_se b) (RT_c R.1 (stF_chg C a) (fun y j hy => b.2 y j (by omega))) cn ?_ e54
  obtain ⟨r1, r2, r3⟩ := R.2.2.2.2.2.2.1
  refine ⟨by rw [a.2 22 13 (by omega), b.2 395 66 (by omega)]; exact r1, by rw [a.2 22 13 (by omega)]; exact r2, fun i hi => ?_⟩
  rw [a.2 22 13 (by omega)] at hi
  rw [a.2 26 _ (by omega), a.2 26 _ (by omega), a.2 26 _ (by omega), a.2 26 _ (by omega), b.2 419 i (by omega), b.2 420 i (by omega), b.2 421 i (by omega), b.2 422 i (by omega)]
  exact r3 i hi
/-- an instruction that isn't one of numbers -/
theorem stepA_n {o : Int} (C : FCT h F x) (hq : hI h F 4 = (pos : Int)) (hl : pos < hL h x) (c0 : hI h x pos = o) (ho : o = 0 ∨ (206 ≤ o ∧ o ≤ 213) ∨ o = 253) : stepA F h = c127 F o (sI h F 4 ((pos + 1 : Nat) : Int)) := by
  unfold stepA
  refine bnd (c119_e C hq hl) ?_
  rw [c0]
  have e : c120 F o (sI h F 4 ((pos + 1 : Nat) : Int)) = some (0, sI h F 4 ((pos + 1 : Nat) : Int)) := by
    unfold c120
    rw [if_neg (by omega), if_neg (by omega), if_neg (by omega), if_neg (by omega), if_neg (by omega), if_neg (by omega), if_neg (by omega), if_neg (by omega), if_neg (by omega), if_neg (by omega), if_neg (by omega), if_neg (by omega)]
  refine bnd e ?_
  exact if_pos rfl
/-- a statement begins: fuel is burnt -/
theorem BURN (R : BRt K p m q r κ F0 h t) (G : GOt d h t) (C : FCT h (FF F0 d) x) (hq : hI h (FF F0 d) 4 = (pos : Int)) (hl : pos < hL h x) (c0 : hI h x pos = 253) : (hI t 395 41 < 500 ∧ ∃ h', runS 1 h h' ∧ stF (FF F0 d) h h' ∧ hI h' (FF F0 d) 4 = ((pos + 1 : Nat) : Int) ∧ hI h' 22 10 = hI h 22 10 + 1 ∧ ∀ j, j ≠ 10 → hI h' 22 j = hI h 22 j) ∨ (hI t 395 41 = 500 ∧ ∃ h', runS 1 h h' ∧ stF (FF F0 d) h h' ∧ hI h' 22 7 = 4 ∧ ∀ j, j ≠ 7 → hI h' 22 j = hI h 22 j) := by
  obtain ⟨⟨g1, g2⟩, g3, g4, g5⟩ := G
  have hF := C.2.2.2.2.2
  obtain ⟨n1, n2, n3⟩ := R.2.2.2.2.2.1
  have st := stepA_n C hq hl c0 (.inr (.inr rfl))
  have e127 : c127 (FF F0 d) 253 (sI h (FF F0 d) 4 ((pos + 1 : Nat) : Int)) = (c128 (sI h (FF F0 d) 4 ((pos + 1 : Nat) : Int))).bind (fun h35 => some h35) := rfl
  rw [e127] at st
  have e10 : hI (sI h (FF F0 d) 4 ((pos + 1 : Nat) : Int)) 22 10 = hI h 22 10 := by rw [hI_sI, if_neg (by omega)]
  by_cases z : hI t 395 41 < 500
  · refine .inl ⟨z, sI (sI h (FF F0 d) 4 ((pos + 1 : Nat) : Int)) 22 10 (hI h 22 10 + 1), runS_one g3 g1 g2 (BR_F R g2) C.1 (st.trans ?_), fp_tr (fp_sI (.inr (.inr ⟨rfl, rfl⟩))) (fp_sI (.inl ⟨rfl, by omega⟩)), ?_, ?_, fun j hj => ?_⟩
    · unfold c128
      rw [e10, if_pos (by omega), wadd_e (by omega) (by omega)]
      rfl
    · rw [hI_sI, if_neg (by omega), hI_sI, if_pos ⟨rfl, rfl⟩]
    · rw [hI_sI, if_pos ⟨rfl, rfl⟩]
    · rw [hI_sI, if_neg (by omega), hI_sI, if_neg (by omega)]
  · refine .inr ⟨by omega, sI (sI h (FF F0 d) 4 ((pos + 1 : Nat) : Int)) 22 7 4, runS_one g3 g1 g2 (BR_F R g2) C.1 (st.trans ?_), fp_tr (fp_sI (.inr (.inr ⟨rfl, rfl⟩))) (fp_sI (.inl ⟨rfl, by omega⟩)), ?_, fun j hj => ?_⟩
    · unfold c128
      rw [e10, if_neg (by omega)]
      rfl
    · rw [hI_sI, if_pos ⟨rfl, rfl⟩]
    · rw [hI_sI, if_neg (by omega), hI_sI, if_neg (by omega)]
/-- what does answers, behind the burning -/
def DSq (K : Nat → Int → Prop) (p m q : Nat) (r : Int → Nat) (κ F0 d x c tx i : Nat) (il : Int) (pos' fu : Nat) (h t : hS) : Prop := ∃ (how : Int) (t' h' : hS) (kk : Nat), g254 fu 255 [gn tx i, (d : Int), il] t = some (how, t') ∧ runS kk h h' ∧ hI t 395 41 ≤ hI t' 395 41 ∧ (kk : Int) ≤ 1997 + 1998 * (hI t' 395 41 - hI t 395 41) ∧ RSL K p m q r κ F0 d x c pos' h t h' t' how
theorem g254_5 {a b e : Int} : g254 (fu + 1) 255 [a, b, e] t = c255 (g254 fu) a b e t := rfl
theorem FCT_97 (R : BRt K p m q r κ F0 h t) (Q : FRQ h t K d (FF F0 d) x c) : hL h x ≤ 1997 := by
  obtain ⟨-, -, -, -, -, n, j, k, -, -, -, -, -, n8⟩ := Q
  obtain ⟨-, -, -, tx, fn, D, -, -, -, ⟨c7, c8⟩, -⟩ := R.2.1 _ _ n8
  omega
/-- NAME = E -/
theorem DS_set {a : Nat} {A : List Int} (R : BRt K p m q r κ F0 h t) (G : GOt d h t) (Q : FRQ h t K d (FF F0 d) x c) (ht : tx ≤ 6) (hi : i < 1200) (s0 : ntx t tx i 0 = 20) (sa : ntx t tx i 2 = (a : Int)) (ha : a < i) (E : EX (ntx t tx) (a + 1) 53 a A) (nm : 0 ≤ ntx t tx i 1 ∧ ntx t tx i 1 < 40) (cd : ∀ (j : Nat) (v : Int), (A ++ [61] ++ [ntx t tx i 1])[j]? = some v → hI h x (pos + j) = v) (hl : pos + (A.length + 2) < hL h x) (hq : hI h (FF F0 d) 4 = (pos : Int)) : DSq K p m q r κ F0 d x c tx i il (pos + (A.length + 2)) (fu + 1) h t := by
  have h97 := FCT_97 R Q
  have cA : ∀ (j : Nat) (v : Int), A[j]? = some v → hI h x (pos + j) = v := fun j v hj => cd j v (by
    have hj' : j < A.length := by
      by_cases z : j < A.length
      · exact z
      · rw [List.getElem?_eq_none (by omega)] at hj; cases hj
    rw [List.append_assoc, List.getElem?_append_left hj']; exact hj)
  have c61 : hI h x (pos + A.length) = 61 := cd A.length 61 (by rw [List.append_assoc, List.getElem?_append_right (Nat.le_refl _), Nat.sub_self]; rfl)
  have cnm : hI h x (pos + A.length + 1) = ntx t tx i 1 := by
    rw [Nat.add_assoc]
    refine cd (A.length + 1) _ ?_
    rw [List.append_assoc, List.getElem?_append_right (by omega), Nat.add_sub_cancel_left]
    rfl
  have dsd : ∀ o, g258 120 258 [gn tx a, (d : Int)] t = some o → c255 (g254 fu) (gn tx i) (d : Int) il t = (if o.1 = 0 then some (2, o.2) else (aIs o.2 408 21 (d : Int)).bind (fun v14 => (c256 (gn tx i) 1 o.2).bind (fun v15 => (c263 v14 v15 o.2).bind (fun v16 => if v16.1 = 0 then some (2, v16.2) else some (0, v16.2))))) := fun o e => by
    unfold c255
    refine bnd (c256_e (f := 0) ht hi (by omega)) ?_
    rw [if_neg (by omega), if_pos s0]
    refine bnd (c257_e (f := 2) ht hi (by omega) sa (by omega)) ?_
    exact bnd e rfl
  rcases EVS R G Q ht E (by omega) cA (by omega) hq with ⟨t2, h2, kk, v, b1, b2, b3, b4, b5, b6, b7, b8, b9, b10, b11, b12, b13, b14, b15⟩ | ⟨t2, h2, kk, b1, b2, b3, b4, b5⟩
  · obtain ⟨⟨g1, g2⟩, g3, g4, g5⟩ := id G
    have C2 := b8.1
    have hF := C2.2.2.2.2.2
    have X2 := FRQ_X b7 g2 b8
    obtain ⟨c40, cR, cl⟩ := b8.2.1
    have e408 : aIs t2 408 21 (d : Int) = some (c : Int) := by rw [aIs_s (by omega) (by omega), Int.toNat_natCast, b8.2.2.1]
    have n1' : ntx t2 tx i 1 = ntx t tx i 1 := ntx_fe b4 tx i 1
    -- the class's step
    obtain ⟨h3, d3⟩ : ∃ h3, h3 = sI (sI (sI h2 (FF F0 d) 4 ((pos + A.length + 1 : Nat) : Int)) (FF F0 d) 4 ((pos + A.length + 1 + 1 : Nat) : Int)) 22 5 0 := ⟨_, rfl⟩
    have s3 : stF (FF F0 d) h2 h3 := by rw [d3]; exact fp_tr (fp_tr (fp_sI (.inr (.inr ⟨rfl, rfl⟩))) (fp_sI (.inr (.inr ⟨rfl, rfl⟩)))) (fp_sI (.inl ⟨rfl, by omega⟩))
    have p3 : hI h3 (FF F0 d) 4 = ((pos + (A.length + 2) : Nat) : Int) := by rw [d3, hI_sI, if_neg (by omega), hI_sI, if_pos ⟨rfl, rfl⟩, show pos + A.length + 1 + 1 = pos + (A.length + 2) by omega]
    have q3 : ∀ j, j ≠ 5 → hI h3 22 j = hI h2 22 j := fun j hj => by rw [d3, hI_sI, if_neg (by omega), hI_sI, if_neg (by omega), hI_sI, if_neg (by omega)]
    have q5 : hI h3 22 5 = 0 := by rw [d3, hI_sI, if_pos ⟨rfl, rfl⟩]
    have stp : ∀ h', c125 (215 + 4 * c) (ntx t tx i 1) v h3 = some h' → stepA (FF F0 d) h2 = some h' := fun h' e => by
      refine stepE_A ?_
      have l2 : hL h2 x = hL h x := FCT_L b3.1 x
      unfold stepE
      refine bnd (c119_e C2 b3.2.1 (by rw [l2]; omega)) ?_
      rw [show hI h2 x (pos + A.length) = 61 by rw [FCT_x Q.1 b3.1]; exact c61]
      have k1 : c119 (FF F0 d) (sI h2 (FF F0 d) 4 ((pos + A.length + 1 : Nat) : Int)) = some (ntx t tx i 1, sI (sI h2 (FF F0 d) 4 ((pos + A.length + 1 : Nat) : Int)) (FF F0 d) 4 ((pos + A.length + 1 + 1 : Nat) : Int)) := by
        have hx := C2.2.2.1
        rw [c119_e (h := sI h2 (FF F0 d) 4 ((pos + A.length + 1 : Nat) : Int)) (FCT_4 C2) (by rw [hI_sI, if_pos ⟨rfl, rfl⟩]) (by show _ < hL h2 x; rw [l2]; omega), hI_sI, if_neg (by omega), FCT_x Q.1 b3.1, cnm]
      have k2 : c124 (sI (sI h2 (FF F0 d) 4 ((pos + A.length + 1 : Nat) : Int)) (FF F0 d) 4 ((pos + A.length + 1 + 1 : Nat) : Int)) = some (v, h3) := by
        rw [c124_e (n := 0) (by rw [hI_sI, if_neg (by omega), hI_sI, if_neg (by omega)]; exact b3.2.2.1) (by omega), hI_sI, if_neg (by omega), hI_sI, if_neg (by omega), b3.2.2.2.1, d3]
        rfl
      have e120 : c120 (FF F0 d) 61 (sI h2 (FF F0 d) 4 ((pos + A.length + 1 : Nat) : Int)) = some (1, h') := by
        unfold c120
        rw [if_neg (by decide), if_neg (by decide), if_neg (by decide), if_neg (by decide), if_neg (by decide), if_neg (by decide), if_neg (by decide), if_pos rfl, gR_s (h := sI h2 (FF F0 d) 4 ((pos + A.length + 1 : Nat) : Int)) (x := FF F0 d) (t := 12) C2.1, hR_sI, cR]
        refine bnd rfl ?_
        rw [kT_s (h := sI h2 (FF F0 d) 4 ((pos + A.length + 1 : Nat) : Int)) (x := FF F0 d) (t := 12) C2.1]
        refine bnd rfl ?_
        refine bnd k1 ?_
        refine bnd k2 ?_
        exact bnd e rfl
      refine bnd e120 ?_
      exact if_neg (show ¬ (1 : Int) = 0 by omega)
    have R3 : BRt K p m q r κ F0 h3 t2 := BR_st b7 g2 C2 s3 seR_rf (by rw [q3 10 (by omega)]; exact b7.2.2.2.2.2.1) b7.2.2.2.2.2.2.2.2
    have Q3 : FRQ h3 t2 K d (FF F0 d) x c := FRQ_st b8 s3 seR_rf
    have a3 : RCc p m F0 d h h3 := RCc_tr R.2.2.2.1 R.1.2.2.2.2.1 b9 (RCc_st g2 s3)
    have run : ∀ h', stepA (FF F0 d) h2 = some h' → runS (kk + 1) h h' := fun h' e => runS_tr b2 (runS_one b3.2.2.2.2.2.1 b11 g2 (BR_F b7 g2) C2.1 e)
    rcases STr R3.1 c40 Q3.2.1.2.2 nm b5 with ⟨h4, t4, w1, w2, w3, w4, w5⟩ | ⟨w1, w2⟩
    · -- it is written
      have rc4 : RCc p m F0 d h3 h4 := by
        have e2 := w4.1
        refine ⟨⟨by show h4.2.2.1 = h3.2.2.1; rw [e2], by show h4.2.2.2.1 = h3.2.2.2.1; rw [e2], by show h4.2.2.2.2.1 = h3.2.2.2.2.1; rw [e2], by show h4.2.2.2.2.2.1 = h3.2.2.2.2.2.1; rw [e2], by show h4.2.2.2.2.2.2 = h3.2.2.2.2.2.2; rw [e2]⟩, fun y j _ => by show h4.2.1 y j = h3.2.1 y j; rw [e2], fun y j _ w => w4.2 y j (fun z => w (z.elim (fun z => .inr (.inr (.inr (.inl z)))) (fun z => .inr (.inr (.inr (.inr z))))))⟩
      have rr4 : RCr d t2 t4 := ⟨w5.1, fun y j z => w5.2 y j (by omega)⟩
      have hk : ∀ u : Int, 0 ≤ u → u < m → 448 ≤ kd h3 p u := fun u u0 u1 => (R3.1.2.1.2.2.1 u u0 u1).1.1
      have low : ∀ y j, y < 215 ∨ (375 ≤ y ∧ y < 448) → hI h4 y j = hI h3 y j := fun y j hy => w4.2 y j (fun z => by
        rcases z with z | ⟨u, u0, u1, z⟩
        · omega
        · have := hk u u0 u1; omega)
      have lr : ∀ y j, y ≠ 405 → y ≠ 406 → y ≠ 400 → hI t4 y j = hI t2 y j := fun y j h1 h2 h3 => w5.2 y j (by omega)
      have B4 : BRt K p m q r κ F0 h4 t4 := by
        refine BR_c R3 rc4 rr4 w3 (by rw [low 22 10 (by omega), lr 395 41 (by omega) (by omega) (by omega)]; exact R3.2.2.2.2.2.1) ?_ (by rw [lr 395 54 (by omega) (by omega) (by omega)]; exact R3.2.2.2.2.2.2.2.2)
        obtain ⟨r1, r2, r3⟩ := R3.2.2.2.2.2.2.1
        refine ⟨by rw [low 22 13 (by omega), lr 395 66 (by omega) (by omega) (by omega)]; exact r1, by rw [low 22 13 (by omega)]; exact r2, fun u hu => ?_⟩
        rw [low 22 13 (by omega)] at hu
        rw [low 26 _ (by omega), low 26 _ (by omega), low 26 _ (by omega), low 26 _ (by omega), lr 419 u (by omega) (by omega) (by omega), lr 420 u (by omega) (by omega) (by omega), lr 421 u (by omega) (by omega) (by omega), lr 422 u (by omega) (by omega) (by omega)]
        exact r3 u hu
      have fr4 : FRQ h4 t4 K d (FF F0 d) x c := by
        obtain ⟨⟨f1, f2, f3, f4, f5, f6⟩, ⟨d1, d2, d3'⟩, h1', h2', h3', n, j, k, ⟨n1, n2, n3⟩, n4, n5, n6, n7, n8⟩ := Q3
        have eR : ∀ y j, hR h4 y j = hR h3 y j := fun y j => by show h4.2.1 y j = h3.2.1 y j; rw [w4.1]
        have eT : ∀ y, hT h4 y = hT h3 y := fun y => by show h4.2.2.2.1 y = h3.2.2.2.1 y; rw [w4.1]
        have eL : ∀ y, hL h4 y = hL h3 y := fun y => by show h4.2.2.2.2.1 y = h3.2.2.2.2.1 y; rw [w4.1]
        have hF4 : FF F0 d < 215 ∨ (375 ≤ FF F0 d ∧ FF F0 d < 448) := by omega
        refine ⟨⟨by rw [eT]; exact f1, by rw [eR]; exact f2, f3, by rw [eT]; exact f4, by rw [eL]; exact f5, f6⟩, ⟨d1, by rw [eR]; exact d2, ?_⟩, by rw [lr 408 d (by omega) (by omega) (by omega)]; exact h1', by rw [low _ 6 hF4, lr 409 d (by omega) (by omega) (by omega)]; exact h2', by rw [low _ 5 hF4, lr 410 d (by omega) (by omega) (by omega)]; exact h3', n, j, k, ⟨n1, by rw [low _ 2 hF4]; exact n2, by rw [lr 413 d (by omega) (by omega) (by omega)]; exact n3⟩, by rw [lr 412 d (by omega) (by omega) (by omega)]; exact n4, by rw [lr 411 d (by omega) (by omega) (by omega)]; exact n5, n6, ?_, by rw [lr 414 _ (by omega) (by omega) (by omega)]; exact n8⟩
        · rw [w4.2 (215 + 4 * c) 1 (fun z => by
            rcases z with z | ⟨u, u0, u1, z⟩
            · omega
            · have := hk u u0 u1; omega)]
          exact d3'
        · rw [eR]
          exact ACH_c n7 (fun a' Q' => KD_rc R3.1 R.2.2.2.1 rc4 Q') (fun u _ _ => ⟨lr 414 _ (by omega) (by omega) (by omega), lr 415 _ (by omega) (by omega) (by omega), lr 416 _ (by omega) (by omega) (by omega)⟩)
      refine ⟨0, t4, h4, kk + 1, ?_, run h4 (stp h4 w1), ?_, ?_, .inl ⟨rfl, B4, ⟨⟨?_, g2⟩, ?_, ?_, ?_⟩, fr4, ?_, RCc_tr R.2.2.2.1 R.1.2.2.2.2.1 a3 rc4, RCr_tr b10 rr4, ?_, ?_⟩⟩
      · rw [g254_5, dsd _ b6, if_neg (by omega)]
        refine bnd e408 ?_
        refine bnd (c256_e (f := 1) ht hi (by omega)) ?_
        rw [n1']
        exact bnd w2 rfl
      · rw [lr 395 41 (by omega) (by omega) (by omega), b15]; exact Int.le_refl _
      · rw [lr 395 41 (by omega) (by omega) (by omega), b15]; omega
      · rw [low 22 3 (by omega), q3 3 (by omega)]; exact b11
      · rw [low 22 7 (by omega), q3 7 (by omega)]; exact b3.2.2.2.2.2.1
      · rw [low 22 5 (by omega)]; exact q5
      · rw [lr 395 42 (by omega) (by omega) (by omega)]; exact b12
      · rw [low _ 4 (by omega)]; exact p3
      · rw [low 22 8 (by omega), q3 8 (by omega)]; exact b13
      · rw [low 22 9 (by omega), q3 9 (by omega)]; exact b3.2.2.2.2.2.2
    · -- there is no such name
      have s4 : stF (FF F0 d) h3 (sI (sI h3 22 9 1001) 22 7 1) := fp_tr (fp_sI (.inl ⟨rfl, by omega⟩)) (fp_sI (.inl ⟨rfl, by omega⟩))
      have f4 : seR t2 (sI t2 395 39 1001) := fp_sI (.inl ⟨rfl, by omega⟩)
      refine ⟨2, sI t2 395 39 1001, sI (sI h3 22 9 1001) 22 7 1, kk + 1, ?_, run _ (stp _ (w1.trans c123_e)), ?_, ?_, .inr (.inr ⟨rfl, BR_st R3 g2 Q3.1 s4 f4 ?_ ?_, RCc_tr R.2.2.2.1 R.1.2.2.2.2.1 a3 (RCc_st g2 s4), RCr_tr b10 (RCr_se f4), ?_, .inl ⟨?_, ?_, ?_⟩⟩)⟩
      · rw [g254_5, dsd _ b6, if_neg (by omega)]
        refine bnd e408 ?_
        refine bnd (c256_e (f := 1) ht hi (by omega)) ?_
        rw [n1']
        exact bnd w2 rfl
      · rw [hI_sI, if_neg (by omega), b15]; exact Int.le_refl _
      · rw [hI_sI, if_neg (by omega), b15]; omega
      · rw [hI_sI, if_neg (by omega), hI_sI, if_neg (by omega), hI_sI, if_neg (by omega)]; exact R3.2.2.2.2.2.1
      · rw [hI_sI, if_neg (by omega)]; exact R3.2.2.2.2.2.2.2.2
      · rw [hI_sI, if_neg (by omega), hI_sI, if_neg (by omega), q3 8 (by omega)]; exact b13
      · rw [hI_sI, if_pos ⟨rfl, rfl⟩]
      · rw [hI_sI, if_neg (by omega), hI_sI, if_pos ⟨rfl, rfl⟩, hI_sI, if_pos ⟨rfl, rfl⟩]
      · rw [hI_sI, if_neg (by omega)]; exact b12
  · refine ⟨2, t2, h2, kk, ?_, b2, by rw [b4]; exact Int.le_refl _, by rw [b4]; omega, ?_⟩
    · rw [g254_5, dsd _ b3, if_pos rfl]
    · rcases b5 with ⟨z, -⟩ | ⟨z, -⟩ | z
      · omega
      · omega
      · exact .inr (.inr z)
end SIM
