/-! above: the next act of the same name -/
section ABV
variable {h h' h0 h1 t t' t0 t1 t2 : hS} {K : Nat → Int → Prop} {p m q κ F0 d n x c k a tx i pos fu c2 j0 : Nat} {r : Int → Nat} {il v ok : Int}
/-- the rows of a level are copied -/
theorem c264_l (d20 : d < 20) {M : Nat} (hM : M ≤ 12) (e : hI t 411 d = (M : Int)) : ∀ (D N i : Nat) (T : hS), i + D = M → D < N → (rwL (d + 1) t T ∧ ∀ u, u < i → ∀ y, 414 ≤ y → y ≤ 416 → hI T y (12 * (d + 1) + u) = hI t y (12 * d + u)) → ∃ T', lp (fun s => c264_b46 (d : Int) (wadd (d : Int) 1) s.1 s.2) N ((i : Int), T) = some T' ∧ rwL (d + 1) t T' ∧ ∀ u, u < M → ∀ y, 414 ≤ y → y ≤ 416 → hI T' y (12 * (d + 1) + u) = hI t y (12 * d + u) := by
  have w1 : wadd (d : Int) 1 = ((d + 1 : Nat) : Int) := by rw [wadd_e (by omega) (by omega)]; rfl
  have a11 : ∀ T : hS, rwL (d + 1) t T → aIs T 411 21 (d : Int) = some (M : Int) := fun T g => by rw [aIs_s (by omega) (by omega), Int.toNat_natCast, g.2 411 d (by omega), e]
  intro D
  induction D with
  | zero =>
    intro N i T hi hN ⟨g1, g2⟩
    obtain ⟨N, rfl⟩ : ∃ N1, N = N1 + 1 := ⟨N - 1, by omega⟩
    refine ⟨T, lp_d ?_, g1, fun u hu => g2 u (by omega)⟩
    show c264_b46 (d : Int) (wadd (d : Int) 1) (i : Int) T = _
    unfold c264_b46
    refine bnd (a11 T g1) ?_
    rw [if_pos (by omega)]
  | succ D ih =>
    intro N i T hi hN ⟨g1, g2⟩
    obtain ⟨N, rfl⟩ : ∃ N1, N = N1 + 1 := ⟨N - 1, by omega⟩
    obtain ⟨T1, hT1⟩ : ∃ T1, T1 = sI (sI (sI T 414 (12 * (d + 1) + i) (hI t 414 (12 * d + i))) 415 (12 * (d + 1) + i) (hI t 415 (12 * d + i))) 416 (12 * (d + 1) + i) (hI t 416 (12 * d + i)) := ⟨_, rfl⟩
    have i1 : ∀ y u, hI T1 y u = if y = 416 ∧ u = 12 * (d + 1) + i then hI t 416 (12 * d + i) else if y = 415 ∧ u = 12 * (d + 1) + i then hI t 415 (12 * d + i) else if y = 414 ∧ u = 12 * (d + 1) + i then hI t 414 (12 * d + i) else hI T y u := fun y u => by rw [hT1, hI_sI, hI_sI, hI_sI]
    have f1 : rwL (d + 1) t (sI T 414 (12 * (d + 1) + i) (hI t 414 (12 * d + i))) := fp_tr g1 (fp_sI ⟨by omega, by omega, by omega, by omega⟩)
    have f2 : rwL (d + 1) t (sI (sI T 414 (12 * (d + 1) + i) (hI t 414 (12 * d + i))) 415 (12 * (d + 1) + i) (hI t 415 (12 * d + i))) := fp_tr f1 (fp_sI ⟨by omega, by omega, by omega, by omega⟩)
    have f3 : rwL (d + 1) t T1 := by rw [hT1]; exact fp_tr f2 (fp_sI ⟨by omega, by omega, by omega, by omega⟩)
    have rd : ∀ (T2 : hS) (y : Nat), rwL (d + 1) t T2 → aIs T2 y 252 (wadd (wmul 12 (d : Int)) (i : Int)) = some (hI t y (12 * d + i)) := fun T2 y g => by
      rw [wmul_e (by omega) (by omega), wadd_e (by omega) (by omega), aIs_s (by omega) (by omega), show (12 * (d : Int) + (i : Int)).toNat = 12 * d + i by omega, g.2 y _ (by omega)]
    have ws : ∀ (y : Nat) (v : Int) (T2 : hS), wIs T2 y 252 (wadd (wmul 12 ((d + 1 : Nat) : Int)) (i : Int)) v = some (sI T2 y (12 * (d + 1) + i) v) := fun y v T2 => by
      rw [wmul_e (by omega) (by omega), wadd_e (by omega) (by omega), wIs_s (by omega) (by omega), show (12 * ((d + 1 : Nat) : Int) + (i : Int)).toNat = 12 * (d + 1) + i by omega]
    have e1 : c264_b46 (d : Int) (wadd (d : Int) 1) (i : Int) T = some (.inl (((i + 1 : Nat) : Int), T1)) := by
      unfold c264_b46
      refine bnd (a11 T g1) ?_
      rw [if_neg (by omega), w1]
      refine bnd (rd T 414 g1) ?_
      refine bnd (ws 414 _ T) ?_
      refine bnd (rd _ 415 f1) ?_
      refine bnd (ws 415 _ _) ?_
      refine bnd (rd _ 416 f2) ?_
      refine bnd (ws 416 _ _) ?_
      rw [wadd_n (by omega), ← hT1]
    obtain ⟨T', b1, b2, b3⟩ := ih N (i + 1) T1 (by omega) (by omega) ⟨f3, fun u hu y y1 y2 => by
      by_cases z : u = i
      · subst z
        rw [i1]
        by_cases y16 : y = 416
        · rw [if_pos ⟨y16, rfl⟩, y16]
        · rw [if_neg (fun z => y16 z.1)]
          by_cases y15 : y = 415
          · rw [if_pos ⟨y15, rfl⟩, y15]
          · rw [if_neg (fun z => y15 z.1), if_pos ⟨by omega, rfl⟩, show y = 414 by omega]
      · rw [i1, if_neg (by omega), if_neg (by omega), if_neg (by omega)]
        exact g2 u (by omega) y y1 y2⟩
    exact ⟨T', by rw [lp_n (s' := (((i + 1 : Nat) : Int), T1)) e1]; exact b1, b2, b3⟩
/-- above -/
theorem DS_up (IH : d < 20 → BDYp K p m q r κ F0 (d + 1) fu) (R : BRt K p m q r κ F0 h t) (G : GOt d h t) (Q : FRQ h t K d (FF F0 d) x c) (ht : tx ≤ 6) (hi : i < 1200) (s0 : ntx t tx i 0 = 23) (c0 : hI h x pos = 208) (hl : pos < hL h x) (hq : hI h (FF F0 d) 4 = (pos : Int)) : DSq K p m q r κ F0 d x c tx i il (pos + 1) (fu + 3) h t := by
  obtain ⟨⟨g1, g2⟩, g3, g4, g5⟩ := id G
  have f := R.2.2.2.1
  have hp := R.1.2.2.2.2.1
  have C := Q.1
  have hF := C.2.2.2.2.2
  have hx := C.2.2.1
  obtain ⟨c40, cR, cl⟩ := Q.2.1
  have st := stepA_n C hq (by omega) c0 (.inr (.inl (by omega)))
  obtain ⟨ha, ea⟩ : ∃ ha, ha = sI h (FF F0 d) 4 ((pos + 1 : Nat) : Int) := ⟨_, rfl⟩
  rw [← ea] at st
  have sa : stF (FF F0 d) h ha := by rw [ea]; exact fp_sI (.inr (.inr ⟨rfl, rfl⟩))
  have ia : ∀ j, hI ha 22 j = hI h 22 j := fun j => by rw [ea, hI_sI, if_neg (by omega)]
  have pa : hI ha (FF F0 d) 4 = ((pos + 1 : Nat) : Int) := by rw [ea, hI_sI, if_pos ⟨rfl, rfl⟩]
  have Ra : BRt K p m q r κ F0 ha t := BR_st R g2 C sa seR_rf (by rw [ia]; exact R.2.2.2.2.2.1) R.2.2.2.2.2.2.2.2
  have Ga : GOt d ha t := ⟨⟨by rw [ia]; exact g1, g2⟩, by rw [ia]; exact g3, by rw [ia]; exact g4, g5⟩
  have Qa : FRQ ha t K d (FF F0 d) x c := FRQ_st Q sa seR_rf
  have er : ∀ o, c264 (g254 (fu + 1)) (d : Int) t = some o → g254 (fu + 3) 255 [gn tx i, (d : Int), il] t = some (if o.1 = 0 then 2 else 0, o.2) := fun o e => by
    rw [g254_5]
    unfold c255
    refine bnd (c256_e (f := 0) ht hi (by omega)) ?_
    rw [s0, if_neg (by omega), if_neg (by omega), if_neg (by omega), if_neg (by omega), if_pos rfl]
    refine bnd (g254_264.trans e) ?_
    by_cases z : o.1 = 0
    · rw [if_pos z, if_pos z]
    · rw [if_neg z, if_neg z]
  have st1 : ∀ h', c130 (FF F0 d) ha = some h' → stepA (FF F0 d) h = some h' := fun h' e => by
    rw [st]
    have e127 : c127 (FF F0 d) 208 ha = (c130 (FF F0 d) ha).bind (fun h8 => some h8) := rfl
    rw [e127]
    exact bnd e rfl
  have r1 : ∀ h', c130 (FF F0 d) ha = some h' → runS 1 h h' := fun h' e => runS_one g3 g1 g2 (BR_F R g2) C.1 (st1 h' e)
  obtain ⟨Ca, ⟨-, cRa, cla⟩, o1, o2, o3, n, j, k, ⟨n1, n2, n3⟩, n4, n5, n6, n7, n8⟩ := id Qa
  obtain ⟨k, rfl⟩ : ∃ k1, k = k1 + 1 := ⟨k - 1, by have := ACH_k n7; omega⟩
  obtain ⟨⟨x1, x2, x3⟩, x4, x5, x6, x7⟩ := n7
  have a12 : aIs t 412 21 (d : Int) = some (j : Int) := by rw [aIs_s (by omega) (by omega), Int.toNat_natCast, n4]
  have a11 : aIs t 411 21 (d : Int) = some ((j + (k + 1) : Nat) : Int) := by rw [aIs_s (by omega) (by omega), Int.toNat_natCast, n5]
  have wj : wadd (j : Int) 1 = ((j + 1 : Nat) : Int) := wadd_n (by omega)
  -- the class, as far as the next kind
  obtain ⟨a, hak⟩ : ∃ a, a = hR ha (FF F0 d) 1 := ⟨_, rfl⟩
  rw [← hak] at x1 x2 x3 x4 x5 x6 x7
  have cls : c130 (FF F0 d) ha = c130_j24 (nxk ha a n) (FF F0 d) ha := by
    unfold c130
    rw [gR_s Ca.1, ← hak]
    refine bnd rfl ?_
    rw [gR_s x1.2.2.1]
    refine bnd rfl ?_
    rcases x3 with z | z
    · have en : nxk ha a n = 0 := by unfold nxk; rw [if_pos z]
      rw [z, en]
      exact bnd hnul_0 rfl
    · have z8 := z.1
      have en : nxk ha a n = hR ha (hR ha a 1 + 11) n := by unfold nxk; rw [if_neg (by omega)]
      refine bnd (hnul_8 (by omega)) ?_
      rw [if_neg (by decide), gI_s Ca.1, n2]
      refine bnd rfl ?_
      refine bnd (kT_s z.2.2.1) ?_
      refine bnd (c115_e z) ?_
      rw [if_pos ⟨by omega, by omega⟩, Int.toNat_natCast, en]
  rcases x7 with ⟨z1, z2⟩ | ⟨z1, z2⟩
  · -- there is none: nothing
    subst z1
    have e130 : c130 (FF F0 d) ha = some (sI ha (FF F0 d) 5 0) := by
      rw [cls, z2]
      unfold c130_j24
      refine bnd hnul_0 ?_
      rw [if_pos rfl, pI_s Ca.1]
      rfl
    have e264 : c264 (g254 (fu + 1)) (d : Int) t = some (1, sI t 410 d 0) := by
      unfold c264
      refine bnd a12 ?_
      refine bnd a11 ?_
      rw [wj, if_pos rfl, wIs_s (by omega) (by omega), Int.toNat_natCast]
      rfl
    have er2 := er _ e264
    rw [if_neg (show ¬ (1 : Int) = 0 by omega)] at er2
    have rc5 : RCc p m F0 d ha (sI ha (FF F0 d) 5 0) := RCc_sI g2 (.inl rfl)
    have rr5 : RCr d t (sI t 410 d 0) := fp_sI (by omega)
    have it : ∀ y u, ¬ (y = 410 ∧ u = d) → hI (sI t 410 d 0) y u = hI t y u := fun y u hy => by rw [hI_sI, if_neg hy]
    have ih5 : ∀ y u, ¬ (y = FF F0 d ∧ u = 5) → hI (sI ha (FF F0 d) 5 0) y u = hI ha y u := fun y u hy => by rw [hI_sI, if_neg hy]
    have R5 : BRt K p m q r κ F0 (sI ha (FF F0 d) 5 0) (sI t 410 d 0) := by
      obtain ⟨r1, r2, r3⟩ := Ra.2.2.2.2.2.2.1
      refine BR_c Ra rc5 rr5 (RT_c Ra.1 (chg_sI (show (20 ≤ FF F0 d ∧ FF F0 d ≤ 47) ∨ (375 ≤ FF F0 d ∧ FF F0 d < 395) by omega)) (fun y u hy => it y u (by omega))) (by rw [ih5 22 10 (by omega), it 395 41 (by omega)]; exact Ra.2.2.2.2.2.1) ⟨by rw [ih5 22 13 (by omega), it 395 66 (by omega)]; exact r1, by rw [ih5 22 13 (by omega)]; exact r2, fun u hu => ?_⟩ (by rw [it 395 54 (by omega)]; exact Ra.2.2.2.2.2.2.2.2)
      rw [ih5 22 13 (by omega)] at hu
      rw [ih5 26 _ (by omega), ih5 26 _ (by omega), ih5 26 _ (by omega), ih5 26 _ (by omega), it 419 _ (by omega), it 420 _ (by omega), it 421 _ (by omega), it 422 _ (by omega)]
      exact r3 u hu
    have Q5 : FRQ (sI ha (FF F0 d) 5 0) (sI t 410 d 0) K d (FF F0 d) x c := by
      by_cases d19 : d = 20
      · -- no level lies above
        refine ⟨Ca, ⟨c40, cRa, by rw [ih5 _ _ (by omega)]; exact cla⟩, by rw [it 408 d (by omega)]; exact o1, by rw [ih5 _ 6 (by omega), it 409 d (by omega)]; exact o2, by rw [hI_sI, if_pos ⟨rfl, rfl⟩, hI_sI, if_pos ⟨rfl, rfl⟩], n, j, 0 + 1, ⟨n1, by rw [ih5 _ 2 (by omega)]; exact n2, by rw [it 413 d (by omega)]; exact n3⟩, by rw [it 412 d (by omega)]; exact n4, by rw [it 411 d (by omega)]; exact n5, n6, ?_, by rw [it 414 _ (by omega)]; exact n8⟩
        have n7 := (id Qa).2.2.2.2.2
        obtain ⟨n', j', k', ⟨m1, m2, m3⟩, m4, m5, m6, m7, m8⟩ := n7
        have en : n' = n := by omega
        have ej : j' = j := by omega
        have ek : k' = 0 + 1 := by omega
        subst en ej ek
        exact ACH_c m7 (fun a' Q' => KD_chg (S := fun y => y = FF F0 d) (chg_sI rfl) (fun y hy => by omega) Q') (fun u _ _ => ⟨it 414 _ (by omega), it 415 _ (by omega), it 416 _ (by omega)⟩)
      · exact FRQ_be (h1 := ha) (w := 0) Ra.1 f RCc_rf rfl (fun y u hy => it y u (by omega)) (by rw [hI_sI, if_pos ⟨rfl, rfl⟩]) Qa (by omega)
    exact ⟨0, _, _, 1, er2, r1 _ e130, by rw [it 395 41 (by omega)]; exact Int.le_refl _, by rw [it 395 41 (by omega)]; omega, RSL_pre f hp (RCc_st g2 sa) RCr_rf (ia 8) (ia 9) (.inl ⟨rfl, R5, ⟨⟨by rw [ih5 22 3 (by omega)]; exact Ga.1.1, g2⟩, by rw [ih5 22 7 (by omega)]; exact Ga.2.1, by rw [ih5 22 5 (by omega)]; exact Ga.2.2.1, by rw [it 395 42 (by omega)]; exact g5⟩, Q5, by rw [ih5 _ 4 (by omega)]; exact pa, rc5, rr5, ih5 22 8 (by omega), ih5 22 9 (by omega)⟩)⟩
  · -- the next one
    have k1 := ACH_k z2
    have nx := (ACH_1 z2).1
    have e130 : ∀ h', c131 (215 + 4 * c) (nxk ha a n) (n : Int) (hI ha (FF F0 d) 6) ha = some h' → c130 (FF F0 d) ha = some h' := fun h' e => by
      rw [cls]
      unfold c130_j24
      refine bnd (hnul_8 (by have := nx.1; omega)) ?_
      rw [if_neg (by decide), gR_s Ca.1, cRa]
      refine bnd rfl ?_
      rw [gI_s Ca.1, n2]
      refine bnd rfl ?_
      rw [gI_s Ca.1]
      refine bnd rfl ?_
      exact bnd e rfl
    by_cases d19 : d = 20
    · have e131 : c131 (215 + 4 * c) (nxk ha a n) (n : Int) (hI ha (FF F0 d) 6) ha = some (sI (sI ha 22 9 1005) 22 7 1) := by
        unfold c131
        rw [if_neg (by have := Ga.1.1; omega)]
        rfl
      have e264 : c264 (g254 (fu + 1)) (d : Int) t = some (0, sI t 395 39 1005) := by
        unfold c264
        refine bnd a12 ?_
        refine bnd a11 ?_
        rw [wj, if_neg (by omega), if_pos (by omega)]
        rfl
      have er2 := er _ e264
      rw [if_pos rfl] at er2
      exact ⟨2, _, _, 1, er2, r1 _ (e130 _ e131), by rw [hI_sI, if_neg (by omega)]; exact Int.le_refl _, by rw [hI_sI, if_neg (by omega)]; omega, RSL_pre f hp (RCc_st g2 sa) RCr_rf (ia 8) (ia 9) (FLT Ra Ga 1005)⟩
    · obtain ⟨T, l1, l2, l3⟩ := c264_l (d := d) (t := t) (by omega) n6 n5 (j + (k + 1)) hF0 0 t (by omega) (hF0_lt (by omega)) ⟨fp_rf, fun u hu => absurd hu (by omega)⟩
      obtain ⟨t2, e2⟩ : ∃ t2, t2 = sI (sI (sI (sI (sI (sI T 411 (d + 1) ((j + (k + 1) : Nat) : Int)) 412 (d + 1) ((j + 1 : Nat) : Int)) 408 (d + 1) (c : Int)) 409 (d + 1) (hI t 409 d)) 410 (d + 1) 0) 413 (d + 1) (n : Int) := ⟨_, rfl⟩
      have i2 : ∀ y u, hI t2 y u = if y = 413 ∧ u = d + 1 then (n : Int) else if y = 410 ∧ u = d + 1 then 0 else if y = 409 ∧ u = d + 1 then hI t 409 d else if y = 408 ∧ u = d + 1 then (c : Int) else if y = 412 ∧ u = d + 1 then ((j + 1 : Nat) : Int) else if y = 411 ∧ u = d + 1 then ((j + (k + 1) : Nat) : Int) else hI T y u := fun y u => by rw [e2, hI_sI, hI_sI, hI_sI, hI_sI, hI_sI, hI_sI]
      have L : lvL (d + 1) t t2 := ⟨by rw [e2]; exact l2.1, fun y u hy => by
        rw [i2, if_neg (by omega), if_neg (by omega), if_neg (by omega), if_neg (by omega), if_neg (by omega), if_neg (by omega)]
        exact l2.2 y u (by omega)⟩
      have hr2 : ∀ y, 414 ≤ y → y ≤ 416 → ∀ u, u < j + (k + 1) → hI t2 y (12 * (d + 1) + u) = hI t y (12 * d + u) := fun y y1 y2 u hu => by
        rw [i2, if_neg (by omega), if_neg (by omega), if_neg (by omega), if_neg (by omega), if_neg (by omega), if_neg (by omega)]
        exact l3 u hu y y1 y2
      have A2 : ACH ha K n (fun i => hI t2 414 (12 * (d + 1) + i)) (fun i => hI t2 415 (12 * (d + 1) + i)) (fun i => hI t2 416 (12 * (d + 1) + i)) k (nxk ha a n) (j + 1) := ACH_c z2 (fun a' Q' => ⟨Q', fun _ _ _ => sm_rf⟩) (fun u u1 u2 => ⟨hr2 414 (by omega) (by omega) u (by omega), hr2 415 (by omega) (by omega) u (by omega), hr2 416 (by omega) (by omega) u (by omega)⟩)
      obtain ⟨h1, y1, y2, y3, y4, y5, y6, y7, y8⟩ := OPN2 (t2 := t2) (v := hI t 409 d) (j0 := j + 1) Ra Ga (by omega) c40 cla n1 L A2 (by omega) ⟨by rw [i2, if_neg (by omega), if_neg (by omega), if_neg (by omega), if_pos ⟨rfl, rfl⟩], by rw [i2, if_neg (by omega), if_neg (by omega), if_pos ⟨rfl, rfl⟩], by rw [i2, if_neg (by omega), if_pos ⟨rfl, rfl⟩], by rw [i2, if_neg (by omega), if_neg (by omega), if_neg (by omega), if_neg (by omega), if_neg (by omega), if_pos ⟨rfl, rfl⟩, show j + (k + 1) = j + 1 + k by omega], by rw [i2, if_neg (by omega), if_neg (by omega), if_neg (by omega), if_neg (by omega), if_pos ⟨rfl, rfl⟩], by rw [i2, if_pos ⟨rfl, rfl⟩]⟩
      have rr : RCr d t t2 := ⟨L.1, fun y j z => L.2 y j (by omega)⟩
      obtain ⟨okk, t', h', h2, kk, q1, q2, q3, q4, q5, q6⟩ := CLb (IH (by omega)) (by omega) Ra y2 Qa y3 rr (L.2 410 d (by omega)) y4 y5 y6 y7 y8 (L.2 395 41 (by omega))
      have hok : okk = 0 ∨ okk = 1 := by
        rcases q6 with ⟨e, -⟩ | ⟨e, -⟩
        · exact .inr e
        · exact .inl e
      have e264 : c264 (g254 (fu + 1)) (d : Int) t = some (okk, t') := by
        have a21 : ∀ (T2 : hS) (y : Nat), aIs T2 y 21 (d : Int) = some (hI T2 y d) := fun T2 y => by rw [aIs_s (by omega) (by omega), Int.toNat_natCast]
        have ws : ∀ (y : Nat) (v : Int) (T2 : hS), wIs T2 y 21 ((d + 1 : Nat) : Int) v = some (sI T2 y (d + 1) v) := fun y v T2 => by rw [wIs_s (by omega) (by omega), Int.toNat_natCast]
        have w1 : wadd (d : Int) 1 = ((d + 1 : Nat) : Int) := by rw [wadd_e (by omega) (by omega)]; rfl
        have lT : ∀ y, 408 ≤ y → y ≤ 413 → hI T y d = hI t y d := fun y y1 y2 => l2.2 y d (by omega)
        unfold c264
        refine bnd a12 ?_
        refine bnd a11 ?_
        rw [wj, if_neg (by omega), if_neg (by omega)]
        refine bnd l1 ?_
        rw [w1]
        refine bnd (a21 T 411) ?_
        rw [lT 411 (by omega) (by omega), n5]
        refine bnd (ws 411 _ _) ?_
        refine bnd (a21 _ 412) ?_
        rw [hI_sI, if_neg (by omega), lT 412 (by omega) (by omega), n4, wj]
        refine bnd (ws 412 _ _) ?_
        refine bnd (a21 _ 408) ?_
        rw [hI_sI, if_neg (by omega), hI_sI, if_neg (by omega), lT 408 (by omega) (by omega), o1]
        refine bnd (ws 408 _ _) ?_
        refine bnd (a21 _ 409) ?_
        rw [hI_sI, if_neg (by omega), hI_sI, if_neg (by omega), hI_sI, if_neg (by omega), lT 409 (by omega) (by omega)]
        refine bnd (ws 409 _ _) ?_
        refine bnd (ws 410 _ _) ?_
        refine bnd (a21 _ 413) ?_
        rw [hI_sI, if_neg (by omega), hI_sI, if_neg (by omega), hI_sI, if_neg (by omega), hI_sI, if_neg (by omega), hI_sI, if_neg (by omega), lT 413 (by omega) (by omega), n3]
        refine bnd (ws 413 _ _) ?_
        rw [← e2]
        refine bnd (g254_265.trans q2) ?_
        exact bnd (kB_s hok) rfl
      have er2 := er _ e264
      have run := runS_tr (r1 _ (e130 _ (by rw [o2]; exact y1 h2 q1))) q3
      have key := CLR_R f hp (RCc_st g2 sa) RCr_rf (ia 8) (ia 9) pa q6
      rcases key with ⟨k0, k1⟩ | ⟨k0, k1⟩
      · rw [if_pos k0] at er2
        exact ⟨2, t', h', 1 + kk, er2, run, q4, by omega, k1⟩
      · rw [if_neg (by omega)] at er2
        exact ⟨0, t', h', 1 + kk, er2, run, q4, by omega, k1⟩
end ABV
