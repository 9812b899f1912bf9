/-! a patch is made: all the creatures are carried (2) -/
section CA5
variable {hZ tZ h0 h1 t1 h t h' t' : hS} {K : Nat → Int → Prop} {p P m0 m q pt S A qq N0 tx pk c i : Nat} {r0 r : Int → Nat} {G f old k u : Int} {us Lc : List Nat}
theorem CCq_s (C : CCq hZ tZ P m q c h t) (e1 : ∀ x j, 53 + 4 * c ≤ x → x ≤ 56 + 4 * c → hI h' x j = hI h x j ∧ hR h' x j = hR h x j) (e2 : ∀ x j, (x = 440 ∨ x = 442) → 40 * c ≤ j → j < 40 * c + 40 → hI t' x j = hI t x j) (e3 : hI t' 446 c = hI t 446 c) : CCq hZ tZ P m q c h' t' := by
  obtain ⟨a, b, bb⟩ := C
  refine ⟨fun z => ?_, fun z => ?_, fun n hn => by rw [(e1 _ _ (by omega) (by omega)).1]; exact bb n hn⟩
  · obtain ⟨a1, a2⟩ := a z
    exact ⟨by rw [(e1 _ _ (by omega) (by omega)).1]; exact a1, fun y => by rw [e3]; exact a2 y⟩
  · obtain ⟨b1, b2, b3⟩ := b z
    refine ⟨by rw [e3]; exact b1, fun y => by rw [(e1 _ _ (by omega) (by omega)).1]; exact b2 y, fun y => ?_⟩
    obtain ⟨c1, c2, c3⟩ := b3 y
    refine ⟨by rw [(e1 _ _ (by omega) (by omega)).1]; exact c1, by rw [(e1 _ _ (by omega) (by omega)).2]; exact c2, fun w => ?_, fun w n hn => ?_⟩
    · obtain ⟨d1, d2⟩ := c3.1 w
      refine ⟨fun n hn => ?_, fun n hn => ?_⟩
      · rw [e2 442 _ (.inr rfl) (by omega) (by omega), (e1 _ _ (by omega) (by omega)).1, e2 440 _ (.inl rfl) (by omega) (by omega)]
        exact d1 n hn
      · rw [(e1 _ _ (by omega) (by omega)).1, (e1 _ _ (by omega) (by omega)).1]
        exact d2 n hn
    · rw [(e1 _ _ (by omega) (by omega)).1, (e1 _ _ (by omega) (by omega)).1, (e1 _ _ (by omega) (by omega)).1]
      exact c3.2 w n hn
/-- the copy of one creature, in the class -/
theorem CY_b (B : CAB hZ tZ h0 K p P m0 m q r0 r G pt S A qq N0 tx pk us Lc f) (c40 : c < 40) (cH : cyH hZ h) : ∃ h4, c154 (53 + 4 * c) (215 + 4 * c) h = some h4 ∧ BLk (53 + 4 * c) (215 + 4 * c) h h4 ∧ cyH hZ h4 := by
  obtain ⟨RT0, -, -, -, -, -, -, -, -, BL, -⟩ := id B
  obtain ⟨SH0, Pw0, TB0', CR0, hp, KD0⟩ := RT0
  have gT := fun y => show hT h y = hT hZ y by rw [cH.1.2.1]
  have gL := fun y => show hL h y = hL hZ y by rw [cH.1.2.2.1]
  have sO : SHc h (215 + 4 * c) c := by
    obtain ⟨q1, q2, q3, q4, q5, q6, q7⟩ := (SH0.1 c c40).2
    have rr : ∀ j, hR h (215 + 4 * c) j = hR hZ (215 + 4 * c) j := fun j => cH.2.1 _ _ (by omega)
    exact ⟨by rw [gT]; exact q1, by rw [rr]; exact q2, by rw [rr]; exact q3, by rw [rr]; exact q4, by rw [gT, gT, gT]; exact q5, by rw [gL, gL, gL]; exact q6, by rw [cH.2.2 _ _ (by omega)]; exact q7⟩
  have sF : SHc h (53 + 4 * c) c := by
    obtain ⟨q1, q2, q3, q4, q5, q6, q7⟩ := (SH0.2 c c40).2
    have rr : ∀ j, j ≠ 2 → hR h (53 + 4 * c) j = hR hZ (53 + 4 * c) j := fun j hj => cH.2.1 _ _ (by omega)
    exact ⟨by rw [gT]; exact q1, by rw [rr 3 (by omega)]; exact q2, by rw [rr 4 (by omega)]; exact q3, by rw [rr 5 (by omega)]; exact q4, by rw [gT, gT, gT]; exact q5, by rw [gL, gL, gL]; exact q6, by rw [cH.2.2 _ _ (by omega)]; exact q7⟩
  obtain ⟨h4, a1, a2⟩ := c154_e (a := 53 + 4 * c) (b := 215 + 4 * c) (h := h) sF sO (by omega) (by omega) (by omega) (by rw [cH.2.2 _ _ (by omega)]; exact (CR0.2.2.2 c c40).1) (fun n hn => by rw [cH.2.2 _ _ (by omega), show 215 + 4 * c + 2 = 217 + 4 * c by omega]; exact BL c n c40 hn)
  refine ⟨h4, a1, a2, cyH_tr cH ⟨a2.1, fun x j z => a2.2.1 x j (by omega), fun x j z => a2.2.2.1 x j (by omega)⟩⟩
theorem c153_st {h4 : hS} {lv : Int} (i40 : i < 40) (e19 : aRs h 19 40 (i : Int) = some (215 + 4 * i)) (e49 : aRs h 49 40 (i : Int) = some (53 + 4 * i)) (T16 : hT h (53 + 4 * i) = 16) (a1 : c154 (53 + 4 * i) (215 + 4 * i) h = some h4) (T4 : hT h4 (215 + 4 * i) = 16) (lv4 : hI h4 (215 + 4 * i) 1 = lv) {R : Option ((Int × hS) ⊕ (hS ⊕ (Int × hS)))} (eR : (if lv = 0 then c153_j106 (i : Int) h4 else (gR h4 (215 + 4 * i) 16 2).bind (fun v8 => (gI h4 v8 24 0).bind (fun v9 => (kT h4 P 18).bind (fun _ => (c47 P v9 h4).bind (fun v10 => (hnul v10).bind (fun b12 => if b12 = true then (pI h4 (53 + 4 * i) 16 1 0).bind (fun h18 => c153_j106 (i : Int) h18) else (pR h4 (53 + 4 * i) 16 2 v10).bind (fun h13 => (gI h13 v10 24 2).bind (fun v14 => if v14 = (wadd (hI h13 48 9) 1) then (c155 pt P (215 + 4 * i) (53 + 4 * i) h13).bind (fun v16 => if v16.1 = 0 then some (.inr (.inr (0, v16.2))) else c153_j106 (i : Int) v16.2) else c153_j106 (i : Int) h13)))))))) = R) : c153_b2 pt P (i : Int) h = R := by
  unfold c153_b2
  rw [if_neg (show ¬ (40 : Int) ≤ (i : Int) by omega)]
  refine bnd e19 ?_
  refine bnd e49 ?_
  refine bnd (kT_s T16) ?_
  refine bnd a1 ?_
  refine bnd (gI_s T4) ?_
  rw [lv4]
  exact eR
theorem c283_st {lv to : Int} (i40 : i < 40) (iq : i < q) (e33 : hI t 395 33 = (q : Int)) (e403 : hI t 403 i = lv) (hto : if lv = 0 then to = -1 else c284 (i : Int) t = some to) {R : Option ((Int × hS) ⊕ (hS ⊕ (Int × hS)))} (eR : (if to = -1 then c283_j104 (i : Int) (sI t 446 i to) else (c199 1 to 3 (sI t 446 i to)).bind (fun v12 => if v12 = 1 then (aIs (sI t 446 i to) 446 40 (i : Int)).bind (fun v14 => (c285 (pk : Int) (i : Int) v14 (sI t 446 i to)).bind (fun v15 => if v15.1 = 0 then some (.inr (.inr (0, v15.2))) else c283_j104 (i : Int) v15.2)) else c283_j104 (i : Int) (sI t 446 i to))) = R) : c283_b29 (pk : Int) (i : Int) t = R := by
  have e446 : hI (sI t 446 i to) 446 i = to := by rw [hI_sI, if_pos ⟨rfl, rfl⟩]
  have j60 : c283_j60 (i : Int) to (pk : Int) (i : Int) t = R := by
    unfold c283_j60
    refine bnd (wIs_s (by omega) (by omega)) ?_
    rw [Int.toNat_natCast]
    refine bnd (aIs_s (by omega) (by omega)) ?_
    rw [Int.toNat_natCast, e446]
    by_cases z : to = -1
    · rw [if_pos z] at eR ⊢
      exact eR
    · rw [if_neg z] at eR ⊢
      refine bnd (aIs_s (by omega) (by omega)) ?_
      rw [Int.toNat_natCast, e446]
      exact eR
  unfold c283_b29
  rw [e33, if_neg (show ¬ (q : Int) ≤ (i : Int) by omega)]
  refine bnd (aIs_s (by omega) (by omega)) ?_
  rw [Int.toNat_natCast, e403]
  by_cases z : lv = 0
  · rw [if_pos z] at hto ⊢
    rw [← hto]
    exact j60
  · rw [if_neg z] at hto ⊢
    refine bnd hto ?_
    exact j60
/-- one creature of those there are -/
theorem CY_s (B : CAB hZ tZ h0 K p P m0 m q r0 r G pt S A qq N0 tx pk us Lc f) (H0 : ∀ y ∈ us, y ≠ 0) (iq : i < q) (C : CYq hZ tZ P m q i h t) : (∃ h' t', c153_b2 pt P (i : Int) h = some (.inl (((i + 1 : Nat) : Int), h')) ∧ c283_b29 (pk : Int) (i : Int) t = some (.inl (((i + 1 : Nat) : Int), t')) ∧ CYq hZ tZ P m q (i + 1) h' t') ∨ (∃ h' t', c153_b2 pt P (i : Int) h = some (.inr (.inr (0, h'))) ∧ c283_b29 (pk : Int) (i : Int) t = some (.inr (.inr (0, t'))) ∧ RFq hZ tZ h' t') := by
  obtain ⟨RT0, ⟨Pw1, -, C1', -, KOs⟩, ⟨C0, P448, hP⟩, ⟨hpt, LL, N8, A8, l6, p448⟩, Sm, -, -, -, -, BL, G0, G1, eG⟩ := id B
  obtain ⟨SH0, Pw0, TB0', CR0, hp, KD0⟩ := RT0
  obtain ⟨⟨cH, cT⟩, e54, D, E⟩ := id C
  have q40 := CR0.2.2.1
  have i40 : i < 40 := by omega
  obtain ⟨h4, a1, a2, a3⟩ := CY_b (c := i) B i40 cH
  obtain ⟨b1, b2, b3, b4, b5, b6⟩ := id a2
  have hm := Pw1.1.2.1
  have SOz := (SH0.1 i i40).2
  have SFz := (SH0.2 i i40).2
  have T4 : ∀ x, hT h4 x = hT hZ x := fun x => by rw [a3.1.2.1]
  have e19 : aRs h 19 40 (i : Int) = some (215 + 4 * i) := by rw [aRs_s (by omega) (by omega), Int.toNat_natCast, cH.2.1 19 i (by omega), (SH0.1 i i40).1]
  have e49 : aRs h 49 40 (i : Int) = some (53 + 4 * i) := by rw [aRs_s (by omega) (by omega), Int.toNat_natCast, cH.2.1 49 i (by omega), (SH0.2 i i40).1]
  have lv4 : hI h4 (215 + 4 * i) 1 = hI hZ (215 + 4 * i) 1 := a3.2.2 _ _ (by omega)
  have lvF : hI h4 (53 + 4 * i) 1 = hI hZ (215 + 4 * i) 1 := by rw [b5, cH.2.2 _ _ (by omega)]
  have bl4 : ∀ n, n < 40 → hI h4 (55 + 4 * i) n = 0 ∨ hI h4 (55 + 4 * i) n = 1 := fun n hn => by
    have w2 := (b6 n hn).2.1
    rw [show 53 + 4 * i + 2 = 55 + 4 * i by omega, show 215 + 4 * i + 2 = 217 + 4 * i by omega] at w2
    rw [w2, cH.2.2 _ _ (by omega)]
    exact BL i n i40 hn
  have e403 : hI t 403 i = hI hZ (215 + 4 * i) 1 := by rw [cT.2 403 i (by omega)]; exact (CR0.2.2.2 i i40).2.1 iq
  have e33 : hI t 395 33 = (q : Int) := by rw [cT.2 395 33 (by omega)]; exact CR0.2.1
  -- the others stay
  have stay : ∀ {hA : hS}, (∀ x j, 53 ≤ x → x < 213 → ¬ (53 + 4 * i ≤ x ∧ x ≤ 56 + 4 * i) → hI hA x j = hI h x j ∧ hR hA x j = hR h x j) → ∀ {tA : hS}, (∀ x j, (x = 440 ∨ x = 442) → ¬ (40 * i ≤ j ∧ j < 40 * i + 40) → hI tA x j = hI t x j) → (∀ j, j ≠ i → hI tA 446 j = hI t 446 j) → ∀ a, a < i → CCq hZ tZ P m q a hA tA := fun {hA} g1 {tA} g2 g3 a ha => CCq_s (D a ha) (fun x j x1 x2 => g1 x j (by omega) (by omega) (by omega)) (fun x j hx j1 j2 => g2 x j hx (by omega)) (g3 a (by omega))
  have fr4 : ∀ x j, 53 ≤ x → x < 213 → ¬ (53 + 4 * i ≤ x ∧ x ≤ 56 + 4 * i) → hI h4 x j = hI h x j ∧ hR h4 x j = hR h x j := fun x j x1 x2 x3 => ⟨b3 x j (by omega), b2 x j (by omega)⟩
  -- what both do up to the kind
  have sC := fun (R : Option ((Int × hS) ⊕ (hS ⊕ (Int × hS)))) => c153_st (P := P) (pt := pt) (R := R) i40 e19 e49 (by rw [cH.1.2.1]; exact SFz.1) a1 (by rw [T4]; exact SOz.1) lv4
  have j106 : ∀ hA, c153_j106 (i : Int) hA = some (.inl (((i + 1 : Nat) : Int), hA)) := fun hA => by
    unfold c153_j106
    rw [wadd_n (by omega)]
  have j104 : ∀ tA, c283_j104 (i : Int) tA = some (.inl (((i + 1 : Nat) : Int), tA)) := fun tA => by
    unfold c283_j104
    rw [wadd_n (by omega)]
  have sT := fun (to : Int) (R : Option ((Int × hS) ⊕ (hS ⊕ (Int × hS)))) => c283_st (pk := pk) (to := to) (R := R) i40 iq e33 e403
  have ct446 : ∀ to, cyT t (sI t 446 i to) := fun to => cyT_sI (by omega)
  have o446 : ∀ (to : Int) x j, ¬ (x = 446 ∧ j = i) → hI (sI t 446 i to) x j = hI t x j := fun to x j hx => by rw [hI_sI, if_neg hx]
  by_cases lz : hI hZ (215 + 4 * i) 1 = 0
  · -- it doesn't live
    refine .inl ⟨h4, sI t 446 i (-1), sC _ (by rw [if_pos lz]; exact j106 h4), sT (-1) _ (by rw [if_pos lz]) (by rw [if_pos rfl]; exact j104 _), ⟨a3, fp_tr cT (ct446 _)⟩, by rw [o446 _ _ _ (by omega)]; exact e54, fun a ha => ?_, fun a n ha a40 hn => by rw [o446 _ _ _ (by omega)]; exact E a n (by omega) a40 hn⟩
    by_cases z : a = i
    · subst z
      exact ⟨fun _ => ⟨by rw [lvF]; exact lz, fun _ => by rw [hI_sI, if_pos ⟨rfl, rfl⟩]⟩, fun w => by omega, bl4⟩
    · exact stay fr4 (fun x j hx _ => o446 _ x j (by omega)) (fun j hj => o446 _ 446 j (by omega)) a (by omega)
  · have lv : hI hZ (215 + 4 * i) 1 = 1 := by
      rcases (CR0.2.2.2 i i40).1 with z | z
      · exact absurd z lz
      · exact z
    obtain ⟨⟨o0, o1, o2⟩, -⟩ := (CR0.2.2.2 i i40).2.2.2 lv
    obtain ⟨old, eo⟩ : ∃ old, hI tZ 404 i = old := ⟨_, rfl⟩
    rw [eo] at o0 o1 o2
    obtain ⟨to, eto⟩ : ∃ to, toq tZ m i = to := ⟨_, rfl⟩
    have etn : nmx tZ m (wg tZ 0 old 0) = to := by rw [← eto]; unfold toq; rw [eo]
    have tob : to = -1 ∨ (0 ≤ to ∧ to < m) := by
      rw [← etn]
      rcases nmx_b (hr := tZ) (m := m) (wg tZ 0 old 0) with y | y
      · exact .inl y
      · exact .inr ⟨y.1, y.2.1⟩
    have Pw0h := PW_cy (t' := tZ) Pw0 a3 fp_rf hp
    have Pw1h := PW_cy (t' := tZ) Pw1 a3 fp_rf (.inr P448)
    have k1 : ∀ v : Int, kd h4 P v = kd hZ P v := kd_cy Pw1 a3 (.inr P448)
    have k0 : ∀ v : Int, kd h4 p v = kd hZ p v := kd_cy Pw0 a3 hp
    have Qo := Pw0h.2.2.1 old o0 o1
    have wz := wg_cy cT
    have e284 : c284 (i : Int) t = some to := by
      have Wt := WF_cy Pw1.1 cT
      have := c284_e (c := i) (old := old) (m0 := m0) Wt i40 (by rw [cT.2 404 i (by omega)]; exact eo) (fun j j0 j1 => by
        have z := (KOs j j0 j1).1.1
        unfold nm0 at z ⊢
        rw [wz]
        exact z) ⟨o0, o1⟩ (fun x y x1 y1 e => by
        rw [wz] at e
        have := Pw0.2.2.2 (x : Int) (y : Int) (by omega) (by omega) (by omega) (by omega) e
        omega)
      unfold nmx at this etn
      rw [wz, etn] at this
      exact this
    have sC2 : ∀ R, (if to = -1 then (pI h4 (53 + 4 * i) 16 1 0).bind (fun h18 => c153_j106 (i : Int) h18) else (pR h4 (53 + 4 * i) 16 2 (kd hZ P to)).bind (fun h13 => (gI h13 (kd hZ P to) 24 2).bind (fun v14 => if v14 = (wadd (hI h13 48 9) 1) then (c155 pt P (215 + 4 * i) (53 + 4 * i) h13).bind (fun v16 => if v16.1 = 0 then some (.inr (.inr (0, v16.2))) else c153_j106 (i : Int) v16.2) else c153_j106 (i : Int) h13))) = R → c153_b2 pt P (i : Int) h = R := fun R eR => by
      refine sC _ ?_
      rw [if_neg lz]
      refine bnd (gR_s (by rw [T4]; exact SOz.1)) ?_
      rw [a3.2.1 _ _ (by omega), o2, ← k0]
      refine bnd (gI_s Qo.1.2.2.1) ?_
      rw [Qo.2.1.1]
      refine bnd (kT_s Pw1h.2.1.2.2.1) ?_
      refine bnd (nmx_k Pw1h (wg tZ 0 old 0)) ?_
      rw [etn, k1]
      by_cases z : to = -1
      · rw [if_pos z] at eR
        rw [z, kd_m]
        refine bnd hnul_0 ?_
        rw [if_pos rfl]
        exact eR
      · rw [if_neg z] at eR
        have hto : 0 ≤ to ∧ to < m := by omega
        have k8 := kd_8 Pw1 hto.1 hto.2
        refine (bnd (hnul_8 (by omega)) rfl).trans ?_
        rw [if_neg (by decide)]
        exact eR
    by_cases tn : to = -1
    · obtain ⟨h5, e5⟩ : ∃ h5, h5 = sI h4 (53 + 4 * i) 1 0 := ⟨_, rfl⟩
      have c5 : cyH h4 h5 := by rw [e5]; exact cyH_sI (.inr (.inl ⟨by omega, by omega, by omega⟩))
      refine .inl ⟨h5, sI t 446 i to, sC2 _ ?_, sT to _ (by rw [if_neg lz]; exact e284) (by rw [if_pos tn]; exact j104 _), ⟨cyH_tr a3 c5, fp_tr cT (ct446 _)⟩, by rw [o446 _ _ _ (by omega)]; exact e54, fun a ha => ?_, fun a n ha a40 hn => by rw [o446 _ _ _ (by omega)]; exact E a n (by omega) a40 hn⟩
      · rw [if_pos tn]
        refine bnd ((pI_s (by rw [T4]; exact SFz.1)).trans (congrArg some e5.symm)) ?_
        exact j106 h5
      · by_cases z : a = i
        · subst z
          refine ⟨fun w => by omega, fun _ => ⟨by rw [hI_sI, if_pos ⟨rfl, rfl⟩]; exact eto.symm, fun _ => by rw [e5, hI_sI, if_pos ⟨rfl, rfl⟩], fun w => absurd (eto.trans tn) w⟩, fun n hn => by rw [e5, hI_sI, if_neg (by omega)]; exact bl4 n hn⟩
        · refine stay (fun x j x1 x2 x3 => ?_) (fun x j hx _ => o446 _ x j (by omega)) (fun j hj => o446 _ 446 j (by omega)) a (by omega)
          rw [e5, hI_sI, if_neg (by omega), hR_sI]
          exact fr4 x j x1 x2 x3
    · have hto : 0 ≤ to ∧ to < m := by omega
      have Qt := Pw1.2.2.1 to hto.1 hto.2
      have kt8 := Qt.1.1
      obtain ⟨h5, e5⟩ : ∃ h5, h5 = sR h4 (53 + 4 * i) 2 (kd hZ P to) := ⟨_, rfl⟩
      have c5 : cyH h4 h5 := by rw [e5]; exact cyH_sR (.inr ⟨by omega, by omega, rfl, by omega⟩)
      have cH5 := cyH_tr a3 c5
      have i5 : ∀ x j, hI h5 x j = hI h4 x j := fun x j => by rw [e5, hI_sR]
      have r5 : ∀ x j, ¬ (x = 53 + 4 * i ∧ j = 2) → hR h5 x j = hR h4 x j := fun x j hx => by rw [e5, hR_sR, if_neg hx]
      have fr5 : ∀ x j, 53 ≤ x → x < 213 → ¬ (53 + 4 * i ≤ x ∧ x ≤ 56 + 4 * i) → hI h5 x j = hI h x j ∧ hR h5 x j = hR h x j := fun x j x1 x2 x3 => by
        rw [i5, r5 x j (by omega)]
        exact fr4 x j x1 x2 x3
      have ek5 : hR h5 (53 + 4 * i) 2 = kd hZ P to := by rw [e5, hR_sR, if_pos ⟨rfl, rfl⟩]
      have v5 : ∀ n, n < 40 → hI h5 (54 + 4 * i) n = hI hZ (216 + 4 * i) n ∧ hI h5 (55 + 4 * i) n = hI hZ (217 + 4 * i) n ∧ hI h5 (56 + 4 * i) n = hI hZ (218 + 4 * i) n := fun n hn => by
        obtain ⟨w1, w2, w3⟩ := b6 n hn
        rw [show 53 + 4 * i + 1 = 54 + 4 * i by omega, show 215 + 4 * i + 1 = 216 + 4 * i by omega] at w1
        rw [show 53 + 4 * i + 2 = 55 + 4 * i by omega, show 215 + 4 * i + 2 = 217 + 4 * i by omega] at w2
        rw [show 53 + 4 * i + 3 = 56 + 4 * i by omega, show 215 + 4 * i + 3 = 218 + 4 * i by omega] at w3
        rw [i5, i5, i5, w1, w2, w3, cH.2.2 _ _ (by omega), cH.2.2 _ _ (by omega), cH.2.2 _ _ (by omega)]
        exact ⟨rfl, rfl, rfl⟩
      have gen : hI h5 (kd hZ P to) 2 = wg tZ 1 to 2 := by rw [cH5.2.2 _ _ (by omega)]; exact Qt.2.2.2.1
      have iffg := (KOs to hto.1 hto.2).2.2.1
      have wG : wadd (hI h5 48 9) 1 = G := by
        rw [cH5.2.2 48 9 (by omega), eG, wadd_e (by omega) (by omega)]
        omega
      have sC3 : ∀ R, (if wg tZ 1 to 2 = G then (c155 pt P (215 + 4 * i) (53 + 4 * i) h5).bind (fun v16 => if v16.1 = 0 then some (.inr (.inr (0, v16.2))) else c153_j106 (i : Int) v16.2) else c153_j106 (i : Int) h5) = R → c153_b2 pt P (i : Int) h = R := fun R eR => by
        refine sC2 _ ?_
        rw [if_neg tn]
        refine bnd ((pR_s (by rw [T4]; exact SFz.1)).trans (congrArg some e5.symm)) ?_
        refine bnd (gI_s (by rw [cH5.1.2.1]; exact Qt.1.2.2.1)) ?_
        rw [gen, wG]
        exact eR
      clear wG
      obtain ⟨t5, et5⟩ : ∃ t5, t5 = sI t 446 i to := ⟨_, rfl⟩
      have cT5 : cyT tZ t5 := by rw [et5]; exact fp_tr cT (ct446 _)
      have o5 : ∀ x j, ¬ (x = 446 ∧ j = i) → hI t5 x j = hI t x j := fun x j hx => by rw [et5]; exact o446 _ x j hx
      have p5 : hI t5 446 i = to := by rw [et5, hI_sI, if_pos ⟨rfl, rfl⟩]
      have sT3 : ∀ R, (if wg tZ 1 to 3 = 1 then (c285 (pk : Int) (i : Int) to t5).bind (fun v15 => if v15.1 = 0 then some (.inr (.inr (0, v15.2))) else c283_j104 (i : Int) v15.2) else c283_j104 (i : Int) t5) = R → c283_b29 (pk : Int) (i : Int) t = R := fun R eR => by
        refine sT to _ (by rw [if_neg lz]; exact e284) ?_
        rw [if_neg tn, ← et5]
        refine bnd (c199_e (by omega) (by omega) hto.1 (by omega) (by omega) (by omega)) ?_
        rw [cyT_w cT5]
        by_cases z : wg tZ 1 to 3 = 1
        · rw [if_pos z] at eR ⊢
          refine bnd (aIs_s (by omega) (by omega)) ?_
          rw [Int.toNat_natCast, p5]
          exact eR
        · rw [if_neg z] at eR ⊢
          exact eR
      by_cases ch : wg tZ 1 to 3 = 1
      · have chg : wg tZ 1 to 2 = G := iffg.1 ch
        rcases CA_1 (c := i) (old := old) (k := to) B H0 i40 lv eo hto cH5 cT5 (by rw [o5 _ _ (by omega)]; exact e54) ek5 (fun n hn => by rw [o5 _ _ (by omega)]; exact E i n (Nat.le_refl _) i40 hn) with ⟨g, s, x1, x2, ⟨cHg, cTs⟩, s54, ⟨y1, y2, y3, y4⟩, y5, y6⟩ | ⟨g, s, x1, x2, x3⟩
        · refine .inl ⟨g, s, sC3 _ ?_, sT3 _ ?_, ⟨cHg, cTs⟩, s54, fun a ha => ?_, fun a n ha a40 hn => ?_⟩
          · rw [if_pos chg]
            refine bnd x1 ?_
            rw [if_neg (by omega)]
            exact j106 g
          · rw [if_pos ch]
            refine bnd x2 ?_
            rw [if_neg (by omega)]
            exact j104 s
          · by_cases z : a = i
            · subst z
              refine ⟨fun w => by omega, fun _ => ⟨by rw [y4, p5]; exact eto.symm, fun w => absurd (eto.symm.trans w) tn, fun _ => ⟨?_, ?_, ?_⟩⟩, fun n hn => ?_⟩
              · rw [y1 _ _ (by omega) (by omega) (by omega), i5, lvF]
                exact lv
              · rw [y2 _ _ (by omega) (by omega), ek5, eto]
              · rw [eto, eo]
                refine ⟨fun _ => ⟨y5, fun n hn => ?_⟩, fun w => absurd ch w⟩
                obtain ⟨v1, v2, v3⟩ := v5 n hn
                rw [← v2, ← v3]
                exact y6 n hn
              · by_cases L : LSq tZ m old to n
                · exact .inr ((y6 n hn).1 L).1
                · rw [((y6 n hn).2 L).1, i5]
                  exact bl4 n hn
            · refine stay (fun x j x1' x2' x3' => ?_) (fun x j hx hj => ?_) (fun j hj => ?_) a (by omega)
              · rw [y1 x j x1' x2' (by omega), y2 x j x1' x2']
                exact fr5 x j x1' x2' x3'
              · rw [y3 x j hx hj, o5 x j (by omega)]
              · rw [y4, o5 446 j (by omega)]
          · rw [y3 442 _ (.inr rfl) (by omega), o5 442 _ (by omega)]
            exact E a n (by omega) a40 hn
        · refine .inr ⟨g, s, sC3 _ ?_, sT3 _ ?_, x3⟩
          · rw [if_pos chg]
            refine bnd x1 ?_
            rw [if_pos rfl]
          · rw [if_pos ch]
            refine bnd x2 ?_
            rw [if_pos rfl]
      · have chg : ¬ wg tZ 1 to 2 = G := fun w => ch (iffg.2 w)
        refine .inl ⟨h5, t5, sC3 _ (by rw [if_neg chg]; exact j106 h5), sT3 _ (by rw [if_neg ch]; exact j104 t5), ⟨cH5, cT5⟩, by rw [o5 _ _ (by omega)]; exact e54, fun a ha => ?_, fun a n ha a40 hn => by rw [o5 _ _ (by omega)]; exact E a n (by omega) a40 hn⟩
        by_cases z : a = i
        · subst z
          refine ⟨fun w => by omega, fun _ => ⟨by rw [p5]; exact eto.symm, fun w => absurd (eto.symm.trans w) tn, fun _ => ⟨?_, ?_, ?_⟩⟩, fun n hn => by rw [i5]; exact bl4 n hn⟩
          · rw [i5, lvF]
            exact lv
          · rw [ek5, eto]
          · rw [eto, eo]
            exact ⟨fun w => absurd w ch, fun _ => v5⟩
        · exact stay fr5 (fun x j hx _ => o5 x j (by omega)) (fun j hj => o5 446 j (by omega)) a (by omega)
end CA5
