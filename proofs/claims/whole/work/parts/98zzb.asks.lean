/-! blocks within blocks: if -/
/-- a link among the nodes of the text tx -/
def gf (tx : Nat) (f : Int) : Int := if f = -1 then -1 else gn tx f.toNat
/-- an own block of a long act rests here -/
def RSTq (K : Nat → Int → Prop) (p m q : Nat) (r : Int → Nat) (κ F0 x c tx : Nat) (C : List Int) (qq : Nat) (h t h' t' : hS) : Prop := BRt K p m q r κ F0 h' t' ∧ FRQ h' t' K 0 (FF F0 0) x c ∧ RCc p m F0 0 h h' ∧ RCr 0 t t' ∧ hI h' 22 8 = hI h 22 8 ∧ hI h' 22 9 = hI h 22 9 ∧ hI h' 22 7 = 5 ∧ hI t' 395 42 = 0 ∧ ∃ (L' : List Nat) (f' : Int) (P C' : List Int), LK (ntx t tx) L' f' ∧ (∀ i ∈ L', i < 1200) ∧ BL (fun q i S => SS (ntx t tx) (BK (ntx t tx) 0 12) ((12 : Nat) = 12) q i S) L' (qq + P.length) C' ∧ C = P ++ C' ∧ hI h' (FF F0 0) 4 = ((qq + P.length : Nat) : Int) ∧ hI t' 395 55 = gf tx f'
/-- blocks that nest k deep run alike -/
def GBp (K : Nat → Int → Prop) (p m q : Nat) (r : Int → Nat) (κ F0 d tx k fu : Nat) : Prop := ∀ (h t : hS) (x c : Nat) (L : List Nat) (f : Int) (qq : Nat) (C : List Int) (il : Int), BRt K p m q r κ F0 h t → GOt d h t → FRQ h t K d (FF F0 d) x c → LK (ntx t tx) L f → (∀ i ∈ L, i < 1200) → BL (fun q i S => SS (ntx t tx) (BK (ntx t tx) 0 k) (k = 12) q i S) L qq C → (∀ (j : Nat) (v : Int), C[j]? = some v → hI h x (qq + j) = v) → qq + C.length < hL h x → hI h (FF F0 d) 4 = (qq : Int) → ((il = 0 ∧ (hI h 22 6 = 0 ∨ d ≠ 0 ∨ k ≠ 12)) ∨ (il = 1 ∧ d = 0 ∧ k = 12 ∧ hI h 22 6 ≠ 0)) → ∃ (how : Int) (t' h' : hS) (kk : Nat), g254 fu 254 [gf tx f, (d : Int), il] t = some (how, t') ∧ runS kk h h' ∧ hI t 395 41 ≤ hI t' 395 41 ∧ (kk : Int) ≤ 1 + 1998 * (hI t' 395 41 - hI t 395 41) ∧ (RSL K p m q r κ F0 d x c (qq + C.length) h t h' t' how ∨ (how = 3 ∧ il = 1 ∧ RSTq K p m q r κ F0 x c tx C qq h t h' t'))
section ASK
variable {h h' h0 h1 t t' t0 t1 t2 : hS} {K : Nat → Int → Prop} {p m q κ F0 d n x c k a tx i pos pos' fu s : Nat} {r : Int → Nat} {il v ok f : Int} {L : List Nat}
theorem gf_m : gf tx (-1) = -1 := if_pos rfl
theorem gf_n : gf tx ((n : Nat) : Int) = gn tx n := by
  unfold gf
  rw [if_neg (by omega), Int.toNat_natCast]
theorem LK_f {N : Nat → Nat → Int} (l : LK N L f) (e : ∀ i ∈ L, i < 1200) : f = -1 ∨ ∃ a : Nat, f = (a : Int) ∧ a < 1200 := by
  match L, l, e with
  | [], l, _ => exact .inl l
  | i :: r, ⟨l, _⟩, e => exact .inr ⟨i, l, e i List.mem_cons_self⟩
theorem c257_f (ht : tx ≤ 6) (hi : i < 1200) (hs : s < 5) (e : ntx t tx i s = f) (hf : f = -1 ∨ ∃ a : Nat, f = (a : Int) ∧ a < 1200) : c257 (gn tx i) (s : Int) t = some (gf tx f) := by
  rcases hf with z | ⟨a, z, z2⟩
  · rw [z] at e
    rw [z, gf_m]
    exact c257_m ht hi hs e
  · rw [z] at e
    rw [z, gf_n]
    exact c257_e ht hi hs e z2
theorem RCc_x (R : BRt K p m q r κ F0 h t) (Q : FRQ h t K d (FF F0 d) x c) (a : RCc p m F0 d h h') (j : Nat) : hI h' x j = hI h x j := by
  obtain ⟨n, jj, kk, -, -, -, -, -, n8⟩ := Q.2.2.2.2.2
  obtain ⟨⟨d1, -⟩, d2⟩ := R.1.2.2.2.2.2 _ _ n8
  refine a.2.2 x j (fun e _ e20 z => by have := FF_b (e := e) R.2.2.2.1 e20; omega) (fun z => ?_)
  rcases z with z | z | z | z | ⟨u, u0, u1, z⟩
  · omega
  · omega
  · omega
  · omega
  · have := d2 u u0 u1
    omega
theorem c255_27 (ht : tx ≤ 6) (hi : i < 1200) (s0 : ntx t tx i 0 = 27) (sa : ntx t tx i 1 = (a : Int)) (ha : a < i) {o : Int × hS} (e : g258 120 258 [gn tx a, (d : Int)] t = some o) : g254 (fu + 1) 255 [gn tx i, (d : Int), il] t = (if o.1 = 0 then some (2, o.2) else if hI o.2 395 52 = 0 then (c257 (gn tx i) 3 o.2).bind (fun v7 => c255_j221 (g254 fu) v7 (d : Int) o.2) else (c257 (gn tx i) 2 o.2).bind (fun v9 => c255_j221 (g254 fu) v9 (d : Int) o.2)) := by
  rw [g254_5]
  unfold c255
  refine bnd (c256_e (f := 0) ht hi (by omega)) ?_
  rw [if_pos (by omega)]
  refine bnd (c257_e (f := 1) ht hi (by omega) sa (by omega)) ?_
  exact bnd e rfl
/-- if -/
theorem DS_ask {A B1 : List Int} {q2 : Nat} (IHB : GBp K p m q r κ F0 d tx k fu) (hk : k ≠ 12) (R : BRt K p m q r κ F0 h t) (G : GOt d h t) (Q : FRQ h t K d (FF F0 d) x c) (ht : tx ≤ 6) (hi : i < 1200) (s0 : ntx t tx i 0 = 27) (sa : ntx t tx i 1 = (a : Int)) (ha : a < i) (E : EX (ntx t tx) (a + 1) 53 a A) (p1 : 1 ≤ pos) (cA : ∀ (j : Nat) (v : Int), A[j]? = some v → hI h x (pos + j) = v) (c212 : hI h x (pos + A.length) = 212) (cL : hI h x (pos + A.length + 1) = (q2 : Int)) (b1 : BK (ntx t tx) 0 (k + 1) i (pos + A.length + 2) (ntx t tx i 2) B1) (cd1 : ∀ (j : Nat) (v : Int), B1[j]? = some v → hI h x (pos + A.length + 2 + j) = v) (e1 : pos + A.length + 2 + B1.length = pos' ∨ (hI h x (pos + A.length + 2 + B1.length) = 213 ∧ hI h x (pos + A.length + 2 + B1.length + 1) = (pos' : Int) ∧ pos + A.length + 2 + B1.length + 1 < pos')) (b2 : (ntx t tx i 3 = -1 ∧ q2 = pos') ∨ ∃ B2, BK (ntx t tx) 0 (k + 1) i q2 (ntx t tx i 3) B2 ∧ (∀ (j : Nat) (v : Int), B2[j]? = some v → hI h x (q2 + j) = v) ∧ q2 + B2.length = pos') (hl : pos' < hL h x) (hq : hI h (FF F0 d) 4 = (pos : Int)) : DSq K p m q r κ F0 d x c tx i il pos' (fu + 1) h t := by
  have f := R.2.2.2.1
  have hp := R.1.2.2.2.2.1
  have h97 := FCT_97 R Q
  have b1l : pos + A.length + 2 + B1.length ≤ pos' := by
    clear b2 b1
    rcases e1 with z | ⟨-, -, z⟩
    · exact Nat.le_of_eq z
    · omega
  rcases EVS R G Q ht E (by omega) cA (by omega) hq with ⟨t2, h2, kk, v, b1', b2', b3, b4, b5, b6, b7, b8, b9, b10, b11, b12, b13, b14, b15⟩ | ⟨t2, h2, kk, b1', b2', b3, b4, b5⟩
  · obtain ⟨⟨g1, g2⟩, g3, g4, g5⟩ := id G
    have C2 := b8.1
    have hF := C2.2.2.2.2.2
    have l2 : hL h2 x = hL h x := FCT_L b3.1 x
    have cx : ∀ j, hI h2 x j = hI h x j := FCT_x Q.1 b3.1
    obtain ⟨o1, o2, o3, o4, o5, o6⟩ := b3.2
    have en : ntx t2 tx = ntx t tx := funext fun i => funext fun j => RCr_n b10 tx i j
    -- the class's jump
    obtain ⟨tg, etg⟩ : ∃ tg : Nat, tg = if v = 0 then q2 else pos + A.length + 2 := ⟨_, rfl⟩
    obtain ⟨h3, d3⟩ : ∃ h3, h3 = sI (sI (sI (sI h2 (FF F0 d) 4 ((pos + A.length + 1 : Nat) : Int)) (FF F0 d) 4 ((pos + A.length + 1 + 1 : Nat) : Int)) 22 5 0) (FF F0 d) 4 (tg : Int) := ⟨_, rfl⟩
    have s3 : stF (FF F0 d) h2 h3 := by rw [d3]; exact fp_tr (fp_tr (fp_tr (fp_sI (.inr (.inr ⟨rfl, rfl⟩))) (fp_sI (.inr (.inr ⟨rfl, rfl⟩)))) (fp_sI (.inl ⟨rfl, by omega⟩))) (fp_sI (.inr (.inr ⟨rfl, rfl⟩)))
    have p3 : hI h3 (FF F0 d) 4 = (tg : Int) := by rw [d3, hI_sI, if_pos ⟨rfl, rfl⟩]
    have q3 : ∀ j, j ≠ 5 → hI h3 22 j = hI h2 22 j := fun j hj => by rw [d3, hI_sI, if_neg (by omega), hI_sI, if_neg (by omega), hI_sI, if_neg (by omega), hI_sI, if_neg (by omega)]
    have q5 : hI h3 22 5 = 0 := by rw [d3, hI_sI, if_neg (by omega), hI_sI, if_pos ⟨rfl, rfl⟩]
    have stp : stepA (FF F0 d) h2 = some h3 := by
      have k1 : c119 (FF F0 d) (sI h2 (FF F0 d) 4 ((pos + A.length + 1 : Nat) : Int)) = some ((q2 : Int), sI (sI h2 (FF F0 d) 4 ((pos + A.length + 1 : Nat) : Int)) (FF F0 d) 4 ((pos + A.length + 1 + 1 : Nat) : Int)) := by
        rw [c119_e (h := sI h2 (FF F0 d) 4 ((pos + A.length + 1 : Nat) : Int)) (FCT_4 C2) (by rw [hI_sI, if_pos ⟨rfl, rfl⟩]) (by show _ < hL h2 x; rw [l2]; omega), hI_sI, if_neg (by have := C2.2.2.1; omega), cx, cL]
      have k2 : c124 (sI (sI h2 (FF F0 d) 4 ((pos + A.length + 1 : Nat) : Int)) (FF F0 d) 4 ((pos + A.length + 1 + 1 : Nat) : Int)) = some (v, sI (sI (sI h2 (FF F0 d) 4 ((pos + A.length + 1 : Nat) : Int)) (FF F0 d) 4 ((pos + A.length + 1 + 1 : Nat) : Int)) 22 5 0) := by
        rw [c124_e (n := 0) (by rw [hI_sI, if_neg (by omega), hI_sI, if_neg (by omega)]; exact o2) (by omega), hI_sI, if_neg (by omega), hI_sI, if_neg (by omega), o3]
        rfl
      rw [stepA_n C2 o1 (by rw [l2]; omega) (show hI h2 x (pos + A.length) = 212 by rw [cx]; exact c212) (.inr (.inl (by omega)))]
      obtain ⟨hC, eC⟩ : ∃ hC, hC = sI (sI (sI h2 (FF F0 d) 4 ((pos + A.length + 1 : Nat) : Int)) (FF F0 d) 4 ((pos + A.length + 1 + 1 : Nat) : Int)) 22 5 0 := ⟨_, rfl⟩
      have TC : hT hC (FF F0 d) = 12 := by rw [eC]; exact C2.1
      rw [← eC] at k2 d3
      have e127 : c127 (FF F0 d) 212 (sI h2 (FF F0 d) 4 ((pos + A.length + 1 : Nat) : Int)) = (kT (sI h2 (FF F0 d) 4 ((pos + A.length + 1 : Nat) : Int)) (FF F0 d) 12).bind (fun u25 => (c119 (FF F0 d) (sI h2 (FF F0 d) 4 ((pos + A.length + 1 : Nat) : Int))).bind (fun v24 => (c124 v24.2).bind (fun v26 => if v26.1 = 0 then c127_j112 (FF F0 d) v24.1 v26.2 else (gI v26.2 (FF F0 d) 12 4).bind (fun v28 => c127_j112 (FF F0 d) v28 v26.2)))) := rfl
      have ej : ∀ z : Int, c127_j112 (FF F0 d) z hC = some (sI hC (FF F0 d) 4 z) := fun z => by
        unfold c127_j112
        rw [pI_s TC]
        rfl
      rw [e127]
      refine bnd (kT_s C2.1) ?_
      refine bnd k1 ?_
      refine bnd k2 ?_
      rw [d3]
      by_cases z : v = 0
      · rw [if_pos z, ej, etg, if_pos z]
      · rw [if_neg z, gI_s TC]
        refine bnd rfl ?_
        rw [ej, etg, if_neg z, eC, hI_sI, if_neg (by omega), hI_sI, if_pos ⟨rfl, rfl⟩]
    have R3 : BRt K p m q r κ F0 h3 t2 := BR_st b7 g2 C2 s3 seR_rf (by rw [q3 10 (by omega)]; exact b7.2.2.2.2.2.1) b7.2.2.2.2.2.2.2.2
    have Q3 : FRQ h3 t2 K d (FF F0 d) x c := FRQ_st b8 s3 seR_rf
    have G3 : GOt d h3 t2 := ⟨⟨by rw [q3 3 (by omega)]; exact b11, g2⟩, by rw [q3 7 (by omega)]; exact o5, q5, b12⟩
    have rc3 : RCc p m F0 d h h3 := RCc_tr f hp b9 (RCc_st g2 s3)
    have e8 : hI h3 22 8 = hI h 22 8 := by rw [q3 8 (by omega)]; exact b13
    have e9 : hI h3 22 9 = hI h 22 9 := by rw [q3 9 (by omega)]; exact o6
    have run : ∀ k2 h', runS k2 h3 h' → runS (kk + (1 + k2)) h h' := fun k2 h' e => runS_tr b2' (runS_tr (runS_one o5 b11 g2 (BR_F b7 g2) C2.1 stp) e)
    have c3 : ∀ j, hI h3 x j = hI h x j := fun j => RCc_x R Q rc3 j
    have l3 : hL h3 x = hL h x := by rw [rc3.1.2.2.1]
    have hA : A.length + pos + 2 ≤ 1997 := by omega
    have er := c255_27 (fu := fu) (il := il) ht hi s0 sa ha b6
    rw [if_neg (show ¬ (1 : Int) = 0 by omega), b5] at er
    by_cases z : v = 0
    · rw [if_pos z] at er etg
      -- otherwise
      obtain ⟨L2, B2, y1, y2, y3, y4, y5⟩ : ∃ (L2 : List Nat) (B2 : List Int), LK (ntx t2 tx) L2 (ntx t tx i 3) ∧ (∀ i ∈ L2, i < 1200) ∧ BL (fun q i S => SS (ntx t2 tx) (BK (ntx t2 tx) 0 k) (k = 12) q i S) L2 q2 B2 ∧ (∀ (j : Nat) (v : Int), B2[j]? = some v → hI h3 x (q2 + j) = v) ∧ q2 + B2.length = pos' := by
        rw [en]
        rcases b2 with ⟨w1, w2⟩ | ⟨B2, ⟨L2, w1, w2, w3⟩, w4, w5⟩
        · exact ⟨[], [], w1, fun i hi => absurd hi (by simp), rfl, fun j v e => by simp at e, w2⟩
        · exact ⟨L2, B2, w1, fun j hj => by have := (w2 j hj).2; omega, w3, fun j v e => by rw [c3]; exact w4 j v e, w5⟩
      obtain ⟨how, t', h', k2, u1, u2, u3, u4, u5⟩ := IHB h3 t2 x c L2 _ q2 B2 0 R3 G3 Q3 y1 y2 y3 y4 (by rw [l3]; omega) (by rw [p3, etg]) (.inl ⟨rfl, .inr (.inr hk)⟩)
      rw [y5] at u5
      refine ⟨how, t', h', kk + (1 + k2), ?_, run _ _ u2, by rw [← b15]; exact u3, by rw [← b15]; omega, ?_⟩
      · rw [er]
        refine bnd (c257_f (s := 3) (f := ntx t tx i 3) ht hi (by omega) (by rw [en]) (LK_f y1 y2)) ?_
        unfold c255_j221
        exact bnd u1 rfl
      · rcases u5 with u5 | ⟨-, u5, -⟩
        · exact RSL_pre f hp rc3 b10 e8 e9 u5
        · exact absurd u5 (by decide)
    · rw [if_neg z] at er etg
      obtain ⟨L1, w1, w2, w3⟩ := b1
      obtain ⟨how, t', h', k2, u1, u2, u3, u4, u5⟩ := IHB h3 t2 x c L1 _ _ B1 0 R3 G3 Q3 (by rw [en]; exact w1) (fun j hj => by have := (w2 j hj).2; omega) (by rw [en]; exact w3) (fun j v e => by rw [c3]; exact cd1 j v e) (by rw [l3]; omega) (by rw [p3, etg]) (.inl ⟨rfl, .inr (.inr hk)⟩)
      have er2 : g254 (fu + 1) 255 [gn tx i, (d : Int), il] t = some (how, t') := by
        rw [er]
        refine bnd (c257_f (s := 2) (f := ntx t tx i 2) ht hi (by omega) (by rw [en]) (LK_f w1 (fun j hj => by have := (w2 j hj).2; omega))) ?_
        unfold c255_j221
        exact bnd u1 rfl
      rcases u5 with u5 | ⟨-, u5, -⟩
      · have u6 := RSL_pre f hp rc3 b10 e8 e9 u5
        rcases e1 with e1 | ⟨e1, e2, e3⟩
        · rw [e1] at u6
          exact ⟨how, t', h', kk + (1 + k2), er2, run _ _ u2, by rw [← b15]; exact u3, by rw [← b15]; omega, u6⟩
        · rcases u6 with ⟨v0, v1, v2, v3, v4, v5, v6, v7, v8⟩ | v9
          · -- the jump behind the first block
            obtain ⟨⟨m1, m2⟩, m3, m4, m5⟩ := id v2
            have C4 := v3.1
            have l4 : hL h' x = hL h x := by rw [v5.1.2.2.1]
            have c4 : ∀ j, hI h' x j = hI h x j := fun j => RCc_x R Q v5 j
            obtain ⟨h5, d5⟩ : ∃ h5, h5 = sI (sI (sI h' (FF F0 d) 4 ((pos + A.length + 2 + B1.length + 1 : Nat) : Int)) (FF F0 d) 4 ((pos + A.length + 2 + B1.length + 1 + 1 : Nat) : Int)) (FF F0 d) 4 (pos' : Int) := ⟨_, rfl⟩
            have s5 : stF (FF F0 d) h' h5 := by rw [d5]; exact fp_tr (fp_tr (fp_sI (.inr (.inr ⟨rfl, rfl⟩))) (fp_sI (.inr (.inr ⟨rfl, rfl⟩)))) (fp_sI (.inr (.inr ⟨rfl, rfl⟩)))
            have i5 : ∀ j, hI h5 22 j = hI h' 22 j := fun j => by rw [d5, hI_sI, if_neg (by omega), hI_sI, if_neg (by omega), hI_sI, if_neg (by omega)]
            have stp5 : stepA (FF F0 d) h' = some h5 := by
              rw [stepA_n C4 v4 (by rw [l4]; omega) (show hI h' x _ = 213 by rw [c4]; exact e1) (.inr (.inl (by omega)))]
              have k1 : c119 (FF F0 d) (sI h' (FF F0 d) 4 ((pos + A.length + 2 + B1.length + 1 : Nat) : Int)) = some ((pos' : Int), sI (sI h' (FF F0 d) 4 ((pos + A.length + 2 + B1.length + 1 : Nat) : Int)) (FF F0 d) 4 ((pos + A.length + 2 + B1.length + 1 + 1 : Nat) : Int)) := by
                rw [c119_e (h := sI h' (FF F0 d) 4 ((pos + A.length + 2 + B1.length + 1 : Nat) : Int)) (FCT_4 C4) (by rw [hI_sI, if_pos ⟨rfl, rfl⟩]) (by show _ < hL h' x; rw [l4]; omega), hI_sI, if_neg (by have := C4.2.2.1; omega), c4, e2]
              have e127 : c127 (FF F0 d) 213 (sI h' (FF F0 d) 4 ((pos + A.length + 2 + B1.length + 1 : Nat) : Int)) = (kT (sI h' (FF F0 d) 4 ((pos + A.length + 2 + B1.length + 1 : Nat) : Int)) (FF F0 d) 12).bind (fun u32 => (c119 (FF F0 d) (sI h' (FF F0 d) 4 ((pos + A.length + 2 + B1.length + 1 : Nat) : Int))).bind (fun v31 => (pI v31.2 (FF F0 d) 12 4 v31.1).bind (fun h33 => some h33))) := rfl
              rw [e127]
              refine bnd (kT_s C4.1) ?_
              refine bnd k1 ?_
              rw [pI_s (h := sI (sI h' (FF F0 d) 4 ((pos + A.length + 2 + B1.length + 1 : Nat) : Int)) (FF F0 d) 4 ((pos + A.length + 2 + B1.length + 1 + 1 : Nat) : Int)) (x := FF F0 d) (t := 12) C4.1, d5]
              rfl
            have run5 := runS_tr (run _ _ u2) (runS_one m3 m1 g2 (BR_F v1 g2) C4.1 stp5)
            exact ⟨how, t', h5, kk + (1 + k2) + 1, er2, run5, by rw [← b15]; exact u3, by rw [← b15]; omega, .inl ⟨v0, BR_st v1 g2 C4 s5 seR_rf (by rw [i5]; exact v1.2.2.2.2.2.1) v1.2.2.2.2.2.2.2.2, ⟨⟨by rw [i5]; exact m1, g2⟩, by rw [i5]; exact m3, by rw [i5]; exact m4, m5⟩, FRQ_st v3 s5 seR_rf, by rw [d5, hI_sI, if_pos ⟨rfl, rfl⟩], RCc_tr f hp v5 (RCc_st g2 s5), v6, by rw [i5]; exact v7, by rw [i5]; exact v8⟩⟩
          · exact ⟨how, t', h', kk + (1 + k2), er2, run _ _ u2, by rw [← b15]; exact u3, by rw [← b15]; omega, .inr v9⟩
      · exact absurd u5 (by decide)
  · refine ⟨2, t2, h2, kk, ?_, b2', by rw [b4]; exact Int.le_refl _, by rw [b4]; omega, ?_⟩
    · rw [c255_27 (fu := fu) (il := il) ht hi s0 sa ha b3, if_pos rfl]
    · rcases b5 with ⟨z, -⟩ | ⟨z, -⟩ | z
      · omega
      · omega
      · exact .inr (.inr z)
end ASK
