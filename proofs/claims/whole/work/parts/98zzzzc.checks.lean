/-! a patch is made: the checks -/
def ckL (h h' : hS) : Prop := (hJ h' = hJ h ∧ hT h' = hT h ∧ hL h' = hL h ∧ hN h' = hN h ∧ hM h' = hM h) ∧ (∀ x j, ¬ (x = 24 ∧ (j = 0 ∨ j = 3)) → hR h' x j = hR h x j) ∧ ∀ x j, ¬ ((x = 22 ∧ (j = 5 ∨ j = 7 ∨ j = 8 ∨ j = 9)) ∨ x = 25 ∨ (x = 24 ∧ (j = 4 ∨ j = 5 ∨ j = 6)) ∨ (x = 48 ∧ 10 ≤ j ∧ j ≤ 12)) → hI h' x j = hI h x j
def ckM (t t' : hS) : Prop := fp (fun x j => (x = 395 ∧ (j = 39 ∨ j = 52 ∨ j = 54 ∨ j = 82 ∨ j = 83 ∨ j = 84)) ∨ x = 417 ∨ (408 ≤ x ∧ x ≤ 410 ∧ j = 0)) t t'
def ckH (h h' : hS) : Prop := (hJ h' = hJ h ∧ hT h' = hT h ∧ hL h' = hL h ∧ hN h' = hN h ∧ hM h' = hM h) ∧ (∀ x j, ¬ (x = 24 ∧ (j = 0 ∨ j = 3)) → hR h' x j = hR h x j) ∧ ∀ x j, ¬ ((x = 22 ∧ (j = 5 ∨ j = 7 ∨ j = 8 ∨ j = 9)) ∨ x = 25 ∨ (x = 24 ∧ (j = 4 ∨ j = 5 ∨ j = 6))) → hI h' x j = hI h x j
def ckT (t t' : hS) : Prop := fp (fun x j => (x = 395 ∧ (j = 39 ∨ j = 52 ∨ j = 54)) ∨ x = 417 ∨ (408 ≤ x ∧ x ≤ 410 ∧ j = 0)) t t'
/-- both stop, alike -/
def RFc (hY t5 h' t' : hS) : Prop := ckL hY h' ∧ ckM t5 t' ∧ hI t' 395 54 = 0 ∧ hI h' 48 10 = hI t' 395 82 ∧ hI h' 48 11 = hI t' 395 83 ∧ hI h' 48 12 = hI t' 395 84
def tpq (t5 : hS) (m : Nat) (n : Int) : Int := ix (fun k : Nat => wg t5 0 (k : Int) 0) n m
section CKS
variable {hY t5 h0 h t h' t' h1 h2 : hS} {K : Nat → Int → Prop} {P m q N0 tx c y cd M i : Nat} {r : Int → Nat} {kn ch e : Int}
theorem ckL_o (a : ckH h h') : ckL h h' := ⟨a.1, fun x j z => a.2.1 x j z, fun x j z => a.2.2 x j (by omega)⟩
theorem ckM_o (a : ckT t t') : ckM t t' := ⟨a.1, fun x j z => a.2 x j (by omega)⟩
theorem ckL_tr (p : ckL h h1) (q : ckL h1 h2) : ckL h h2 := ⟨⟨q.1.1.trans p.1.1, q.1.2.1.trans p.1.2.1, q.1.2.2.1.trans p.1.2.2.1, q.1.2.2.2.1.trans p.1.2.2.2.1, q.1.2.2.2.2.trans p.1.2.2.2.2⟩, fun x j z => (q.2.1 x j z).trans (p.2.1 x j z), fun x j z => (q.2.2 x j z).trans (p.2.2 x j z)⟩
theorem ckL_cy (a : ckL h h') : cyL h h' := ⟨a.1, fun x j z => a.2.1 x j (by omega), fun x j z => a.2.2 x j (by omega)⟩
theorem ckH_cy (a : ckH h h') : cyH h h' := ⟨a.1, fun x j z => a.2.1 x j (by omega), fun x j z => a.2.2 x j (by omega)⟩
theorem ckT_cy (a : ckT t t') : cyT t t' := ⟨a.1, fun x j z => a.2 x j (by omega)⟩
theorem ckH_tr (p : ckH h h1) (q : ckH h1 h2) : ckH h h2 := ⟨⟨q.1.1.trans p.1.1, q.1.2.1.trans p.1.2.1, q.1.2.2.1.trans p.1.2.2.1, q.1.2.2.2.1.trans p.1.2.2.2.1, q.1.2.2.2.2.trans p.1.2.2.2.2⟩, fun x j z => (q.2.1 x j z).trans (p.2.1 x j z), fun x j z => (q.2.2 x j z).trans (p.2.2 x j z)⟩
theorem ckH_rf : ckH h h := ⟨⟨rfl, rfl, rfl, rfl, rfl⟩, fun _ _ _ => rfl, fun _ _ _ => rfl⟩
theorem ckH_w (a : wkq h h') : ckH h h' := ⟨a.1, a.2.1, fun x j z => a.2.2 x j (by omega)⟩
theorem ckL_c {a b d : Int} : ckL h (cfS a b d h) := by
  unfold cfS
  refine ⟨⟨rfl, rfl, rfl, rfl, rfl⟩, fun x j _ => by rw [hR_sI, hR_sI, hR_sI], fun x j z => by rw [hI_sI, if_neg (by omega), hI_sI, if_neg (by omega), hI_sI, if_neg (by omega)]⟩
theorem ckT_e (f : fe 0 t t') : ckT t t' := ⟨f.1, fun x j z => f.2 x j (by omega)⟩
/-- one creature, one check -/
theorem CK_c {k9 : Int} {o9 : Int} (B : CKB hY t5 K P m q r) (SmY : ∀ x, 448 ≤ x → x < P → sm h0 hY x) (hP : hN h0 = P) (ht : tx ≤ 6) (N8 : 448 ≤ N0) (y8 : 448 ≤ y ∧ y < P) (S : SPc h0 y 221 ch kn k9 o9 cd) (RU : RUc (ntx t5 tx) h0 N0 M cd e) (M12 : M ≤ 1200) {s : Nat} (hs : s < 1200) (e2 : ntx t5 tx s 2 = e) (cq : c < q) {top : Int} (et : tpq t5 m kn = top) (tn : top ≠ -1) (cH : ckH hY h) (cT : ckT t5 t) (e54 : hI t 395 54 = 0) : (∃ h' t', c164_b28 y (c : Int) h = some (.inl (((c + 1 : Nat) : Int), h')) ∧ c289_b45 ch (gn tx s) top (c : Int) t = some (.inl (((c + 1 : Nat) : Int), t')) ∧ ckH hY h' ∧ ckT t5 t' ∧ hI t' 395 54 = 0) ∨ (∃ h' t', c164_b28 y (c : Int) h = some (.inr (.inr (0, h'))) ∧ c289_b45 ch (gn tx s) top (c : Int) t = some (.inr (.inr (0, t'))) ∧ RFc hY t5 h' t') := by
  obtain ⟨Pw, TBp, P448, ⟨e33, q40⟩, SF, CC, -, T24⟩ := id B
  have c40 : c < 40 := by omega
  obtain ⟨lv, l1, -, l3⟩ := CC c c40
  have l1 := l1 cq
  have W := Pw.1
  have hm := W.2.1
  obtain ⟨r49, s1, s2, s3, s4, s5, s6, s7⟩ := SF c c40
  have hc := ckH_cy cH
  have tc := ckT_cy cT
  have sy := sm_tr (SmY y y8.1 y8.2) (show sm hY h y from ⟨fun j => cH.2.2 y j (by omega), fun j => cH.2.1 y j (by omega), by rw [cH.1.2.1], by rw [cH.1.2.2.1]⟩)
  obtain ⟨q22, p0, p1, p2, p3, p4, p5⟩ := SPc_s S sy
  have T16 : hT h (53 + 4 * c) = 16 := by rw [cH.1.2.1]; exact s1
  have elv : hI h (53 + 4 * c) 1 = hI hY (53 + 4 * c) 1 := cH.2.2 _ _ (by omega)
  have tob : 0 ≤ top ∧ top < m ∧ wg t5 0 top 0 = kn := by
    rcases ix_b (fun k : Nat => wg t5 0 (k : Int) 0) kn m with z | ⟨z, z1, z2, z3, -⟩
    · exact absurd (et.symm.trans z) tn
    · rw [← et]
      unfold tpq
      rw [z1]
      exact ⟨by omega, by omega, z3⟩
  have j128 : ∀ hA, c164_j128 (c : Int) hA = some (.inl (((c + 1 : Nat) : Int), hA)) := fun hA => by
    unfold c164_j128
    rw [wadd_n (by omega)]
  have j154 : ∀ tA, c289_j154 (c : Int) tA = some (.inl (((c + 1 : Nat) : Int), tA)) := fun tA => by
    unfold c289_j154
    rw [wadd_n (by omega)]
  have e403 : hI t 403 c = hI t5 403 c := cT.2 403 c (by omega)
  have e446 : hI t 446 c = hI t5 446 c := cT.2 446 c (by omega)
  have e404 : hI t 404 c = hI t5 404 c := cT.2 404 c (by omega)
  have sC : ∀ R, (if hI hY (53 + 4 * c) 1 = 0 then c164_j81 y (c : Int) (53 + 4 * c) h else (gR h (53 + 4 * c) 16 2).bind (fun v23 => (kT h v23 24).bind (fun _ => (c150 v23 kn h).bind (fun v25 => if v25 = 0 then c164_j81 y (c : Int) (53 + 4 * c) h else c164_j82 1 y (c : Int) (53 + 4 * c) h)))) = R → c164_b28 y (c : Int) h = R := fun R eR => by
    unfold c164_b28
    refine bnd (gI_s q22) ?_
    rw [p0, if_pos rfl, if_neg (show ¬ (40 : Int) ≤ (c : Int) by omega)]
    refine bnd (show aRs h 49 40 (c : Int) = some (53 + 4 * c) by rw [aRs_s (by omega) (by omega), Int.toNat_natCast, cH.2.1 49 c (by omega)]; exact congrArg some r49) ?_
    refine bnd (gI_s T16) ?_
    rw [elv]
    by_cases z : hI hY (53 + 4 * c) 1 = 0
    · rw [if_pos z] at eR ⊢
      exact eR
    · rw [if_neg z] at eR ⊢
      cases hg : gR h (53 + 4 * c) 16 2 with
      | none => rw [hg] at eR; exact eR
      | some v =>
        rw [hg] at eR
        refine bnd rfl ?_
        refine bnd (gI_s q22) ?_
        rw [p2]
        exact eR
  have sT : ∀ R, (if hI t5 403 c = 0 then c289_j154 (c : Int) t else if hI t5 446 c = -1 then c289_j154 (c : Int) t else (c279 0 (hI t5 404 c) top t).bind (fun v12 => if v12 = 0 then c289_j154 (c : Int) t else (c257 (gn tx s) 2 (sI (sI (sI t 408 0 (c : Int)) 409 0 0) 410 0 0)).bind (fun v17 => (g258 120 258 [v17, 0] (sI (sI (sI t 408 0 (c : Int)) 409 0 0) 410 0 0)).bind (fun v18 => if v18.1 = 0 then c289_j144 ch (c : Int) v18.2 else if (hI v18.2 395 52) = 0 then c289_j144 ch (c : Int) v18.2 else c289_j154 (c : Int) v18.2)))) = R → c289_b45 ch (gn tx s) top (c : Int) t = R := fun R eR => by
    unfold c289_b45
    rw [cT.2 395 33 (by omega), e33, if_neg (show ¬ (q : Int) ≤ (c : Int) by omega), if_neg tn]
    refine bnd (aIs_s (by omega) (by omega)) ?_
    rw [Int.toNat_natCast, e403]
    by_cases z : hI t5 403 c = 0
    · rw [if_pos z] at eR ⊢
      exact eR
    · rw [if_neg z] at eR ⊢
      refine bnd (aIs_s (by omega) (by omega)) ?_
      rw [Int.toNat_natCast, e446]
      by_cases z2 : hI t5 446 c = -1
      · rw [if_pos z2] at eR ⊢
        exact eR
      · rw [if_neg z2] at eR ⊢
        refine bnd (aIs_s (by omega) (by omega)) ?_
        rw [Int.toNat_natCast, e404]
        cases hg : c279 0 (hI t5 404 c) top t with
        | none => rw [hg] at eR; exact eR
        | some v =>
          rw [hg] at eR
          refine bnd rfl ?_
          have eR : (if v = 0 then c289_j154 (c : Int) t else (c257 (gn tx s) 2 (sI (sI (sI t 408 0 (c : Int)) 409 0 0) 410 0 0)).bind (fun v17 => (g258 120 258 [v17, 0] (sI (sI (sI t 408 0 (c : Int)) 409 0 0) 410 0 0)).bind (fun v18 => if v18.1 = 0 then c289_j144 ch (c : Int) v18.2 else if (hI v18.2 395 52) = 0 then c289_j144 ch (c : Int) v18.2 else c289_j154 (c : Int) v18.2))) = R := eR
          by_cases z3 : v = 0
          · rw [if_pos z3] at eR ⊢
            exact eR
          · rw [if_neg z3] at eR ⊢
            refine bnd (wIs_s (by omega) (by omega)) ?_
            refine bnd (wIs_s (by omega) (by omega)) ?_
            refine bnd (wIs_s (by omega) (by omega)) ?_
            exact eR
  have nxt : c164_b28 y (c : Int) h = c164_j81 y (c : Int) (53 + 4 * c) h → c289_b45 ch (gn tx s) top (c : Int) t = c289_j154 (c : Int) t → (∃ h' t', c164_b28 y (c : Int) h = some (.inl (((c + 1 : Nat) : Int), h')) ∧ c289_b45 ch (gn tx s) top (c : Int) t = some (.inl (((c + 1 : Nat) : Int), t')) ∧ ckH hY h' ∧ ckT t5 t' ∧ hI t' 395 54 = 0) := fun a b => by
    refine ⟨h, t, a.trans ?_, b.trans (j154 t), cH, cT, e54⟩
    unfold c164_j81 c164_j82
    rw [if_pos rfl]
    exact j128 h
  rcases lv with z | z
  · have nl : ¬ (hI t5 403 c ≠ 0 ∧ hI t5 446 c ≠ -1) := fun w => by have := l1.2 w; omega
    refine .inl (nxt (sC _ (by rw [if_pos z])) (sT _ ?_))
    by_cases w : hI t5 403 c = 0
    · rw [if_pos w]
    · rw [if_neg w, if_pos (by
        by_cases v : hI t5 446 c = -1
        · exact v
        · exact absurd ⟨w, v⟩ nl)]
  · obtain ⟨w1, w2⟩ := l1.1 z
    obtain ⟨⟨k0, k1, k2⟩, kv⟩ := l3 z
    obtain ⟨to, eto⟩ : ∃ to, hI t5 404 c = to := ⟨_, rfl⟩
    rw [eto] at k0 k1 k2
    have Pwh : PW h t K P 0 m r := PW_cy Pw hc tc (.inr P448)
    have kk : ∀ u : Int, kd h P u = kd hY P u := kd_cy Pw hc (.inr P448)
    have Qt := Pwh.2.2.1 to k0 k1
    have eR2 : hR h (53 + 4 * c) 2 = kd h P to := by rw [cH.2.1 _ _ (by omega), k2, kk]
    have e150 : c150 (kd h P to) kn h = some (if iU t5 0 top to = -1 then 0 else 1) := by
      rw [c150_w (n := kn) Pwh (.inr ⟨k0, k1⟩), iU_n Pwh tob.1 tob.2.1 (by rw [cyT_w tc]; exact tob.2.2) (.inr ⟨k0, k1⟩), iU_cg W (fun v _ _ => cyT_w tc 0 v 1) (.inr ⟨k0, k1⟩)]
    have e279 : c279 0 to top t = some (if iU t5 0 top to = -1 then 0 else 1) := by
      rw [c279_w Pwh.1 (by omega) (by omega) tob.1 (.inr ⟨k0, k1⟩), iU_cg W (fun v _ _ => cyT_w tc 0 v 1) (.inr ⟨k0, k1⟩)]
    by_cases iu : iU t5 0 top to = -1
    · refine .inl (nxt (sC _ ?_) (sT _ ?_))
      · rw [if_neg (by omega)]
        refine bnd (gR_s T16) ?_
        rw [eR2]
        refine bnd (kT_s Qt.1.2.2.1) ?_
        refine bnd e150 ?_
        rw [if_pos iu, if_pos rfl]
      · rw [if_neg w1, if_neg w2, eto]
        refine bnd e279 ?_
        rw [if_pos iu, if_pos rfl]
    · -- it is asked
      obtain ⟨t3, et3⟩ : ∃ t3, t3 = sI (sI (sI t 408 0 (c : Int)) 409 0 0) 410 0 0 := ⟨_, rfl⟩
      have o3 : ∀ x j, ¬ (408 ≤ x ∧ x ≤ 410 ∧ j = 0) → hI t3 x j = hI t x j := fun x j hx => by rw [et3, hI_sI, if_neg (by omega), hI_sI, if_neg (by omega), hI_sI, if_neg (by omega)]
      have q3 : ckT t t3 := ⟨by rw [et3]; rfl, fun x j hx => o3 x j (by omega)⟩
      have cT3 : ckT t5 t3 := fp_tr cT q3
      have tc3 := ckT_cy cT3
      have Pw3 : PW h t3 K P 0 m r := PW_cy Pw hc tc3 (.inr P448)
      obtain ⟨x1, x2, x3, ie, Cc, e1, ei, eE, eL, eC⟩ := RU
      have sx := sm_tr (SmY cd (by omega) (by omega)) (show sm hY h cd from ⟨fun j => cH.2.2 cd j (by omega), fun j => cH.2.1 cd j (by omega), by rw [cH.1.2.1], by rw [cH.1.2.2.1]⟩)
      have enx : ntx t3 tx = ntx t5 tx := by
        funext a b
        exact cyT_n tc3 a b
      have SH : SHc h (53 + 4 * c) c := by
        have rr : ∀ j, hR h (53 + 4 * c) j = hR hY (53 + 4 * c) j := fun j => cH.2.1 _ _ (by omega)
        have gT := fun y => show hT h y = hT hY y by rw [cH.1.2.1]
        have gL := fun y => show hL h y = hL hY y by rw [cH.1.2.2.1]
        exact ⟨by rw [gT]; exact s1, by rw [rr]; exact s2, by rw [rr]; exact s3, by rw [rr]; exact s4, by rw [gT, gT, gT]; exact s5, by rw [gL, gL, gL]; exact s6, by rw [cH.2.2 _ _ (by omega)]; exact s7⟩
      have C1 : C1a h t3 P m (53 + 4 * c) c := by
        have i4 : hI t3 404 c = to := by rw [o3 404 c (by omega), e404]; exact eto
        refine ⟨⟨by rw [i4]; exact k0, by rw [i4]; exact k1, by rw [eR2, i4]⟩, fun n hn => ?_⟩
        obtain ⟨v1, v2, v3, v4⟩ := kv n hn
        rw [eto] at v1
        have iB : ∀ o j, o ≤ 3 → hI h (53 + 4 * c + o) j = hI hY (53 + 4 * c + o) j := fun o j ho => cH.2.2 _ _ (by omega)
        rw [i4, fAt_cg (fun a b => cyT_w tc3 0 a b), iB 1 n (by omega), iB 2 n (by omega), iB 3 n (by omega), cT3.2 405 _ (by omega), cT3.2 406 _ (by omega), cT3.2 407 _ (by omega)]
        exact ⟨v1, v2, v3, v4⟩
      have HN := HN_g (a := 53 + 4 * c) SH Pw3 (TB_cy Pw TBp hc tc3 (.inr P448)) c40 C1 (by omega) (.inr P448)
      have z8 : hI t3 408 0 = (c : Int) ∧ hI t3 409 0 = 0 ∧ hI t3 410 0 = 0 := by
        refine ⟨?_, ?_, ?_⟩
        · rw [et3, hI_sI, if_neg (by omega), hI_sI, if_neg (by omega), hI_sI, if_pos ⟨rfl, rfl⟩]
        · rw [et3, hI_sI, if_neg (by omega), hI_sI, if_pos ⟨rfl, rfl⟩]
        · rw [et3, hI_sI, if_pos ⟨rfl, rfl⟩]
      have WW := WO (tx := tx) (i := ie) (C := Cc) (a := 53 + 4 * c) (x := cd) (c := c) (h := h) (t := t3) ht (by omega) (by rw [enx]; exact eE) (by rw [cH.1.2.1]; exact T24) (by omega) (by rw [sx.2.2.1]; exact x3) (by rw [sx.2.2.2]; exact eL) (fun j z hz => by rw [sx.1]; exact eC j z hz) c40 z8.1 z8.2.1 z8.2.2 (by rw [o3 395 54 (by omega)]; exact e54) HN
      have c257' : c257 (gn tx s) 2 t3 = some (gn tx ie) := by
        refine (c257_e (f := 2) ht hs (by omega) (a := ie) ?_ (by omega))
        show ntx t3 tx s 2 = _
        rw [enx, e2, e1]
      have topC : ∀ R, ((c161 (53 + 4 * c) cd h).bind (fun v17 => if v17.1 = 0 then c164_j115 y (c : Int) v17.2 else if (hI v17.2 22 8) = 0 then c164_j115 y (c : Int) v17.2 else c164_j128 (c : Int) v17.2)) = R → c164_b28 y (c : Int) h = R := fun R eR => by
        refine sC _ ?_
        rw [if_neg (by omega)]
        refine bnd (gR_s T16) ?_
        rw [eR2]
        refine bnd (kT_s Qt.1.2.2.1) ?_
        refine bnd e150 ?_
        rw [if_neg iu, if_neg (by omega)]
        unfold c164_j82
        rw [if_neg (by omega)]
        refine bnd (gR_s q22) ?_
        rw [p5]
        exact eR
      have topT : ∀ R, ((g258 120 258 [gn tx ie, 0] t3).bind (fun v18 => if v18.1 = 0 then c289_j144 ch (c : Int) v18.2 else if (hI v18.2 395 52) = 0 then c289_j144 ch (c : Int) v18.2 else c289_j154 (c : Int) v18.2)) = R → c289_b45 ch (gn tx s) top (c : Int) t = R := fun R eR => by
        refine sT _ ?_
        rw [if_neg w1, if_neg w2, eto]
        refine bnd e279 ?_
        rw [if_neg iu, if_neg (by omega), ← et3]
        refine bnd c257' ?_
        exact eR
      have fail : ∀ (g : hS) (s' : hS), ckH h g → ckT t3 s' → hI s' 395 54 = 0 → c164_b28 y (c : Int) h = c164_j115 y (c : Int) g → c289_b45 ch (gn tx s) top (c : Int) t = c289_j144 ch (c : Int) s' → (∃ h' t', c164_b28 y (c : Int) h = some (.inr (.inr (0, h'))) ∧ c289_b45 ch (gn tx s) top (c : Int) t = some (.inr (.inr (0, t'))) ∧ RFc hY t5 h' t') := fun g s' q1 q2 g54 a b => by
        have rf : ckM s' (rfS 10 ch (c : Int) s') := by
          unfold rfS
          refine ⟨rfl, fun x j hx => ?_⟩
          rw [hI_sI, if_neg (by omega), hI_sI, if_neg (by omega), hI_sI, if_neg (by omega)]
        refine ⟨cfS 10 ch (c : Int) g, rfS 10 ch (c : Int) s', a.trans ?_, b.trans ?_, ckL_tr (ckL_o (ckH_tr cH q1)) ckL_c, fp_tr (ckM_o (fp_tr cT3 q2)) rf, g54, rfl, rfl, rfl⟩
        · unfold c164_j115
          refine bnd (gI_s (by rw [q1.1.2.1]; exact q22)) ?_
          rw [q1.2.2 y 1 (by omega), p1]
          rfl
        · unfold c289_j144
          rfl
      rcases WW with ⟨g, s', v, a1, a2, a3, a4, a5, a6, a7, a8⟩ | ⟨g, s', a1, a2, a3, a4, a5⟩
      · by_cases v0 : v = 0
        · refine .inr (fail g s' (ckH_w a5) (ckT_e a6) a7 (topC _ ?_) (topT _ ?_))
          · refine bnd a1 ?_
            rw [if_neg (by omega), if_pos (by rw [a2]; exact v0)]
          · refine bnd a3 ?_
            rw [if_neg (by omega), if_pos (by rw [a4]; exact v0)]
        · refine .inl ⟨g, s', topC _ ?_, topT _ ?_, ckH_tr cH (ckH_w a5), fp_tr cT3 (ckT_e a6), a7⟩
          · refine bnd a1 ?_
            rw [if_neg (by omega), if_neg (by rw [a2]; exact v0)]
            exact j128 g
          · refine bnd a3 ?_
            rw [if_neg (by omega), if_neg (by rw [a4]; exact v0)]
            exact j154 s'
      · refine .inr (fail g s' (ckH_w a3) (ckT_e a4) a5 (topC _ ?_) (topT _ ?_))
        · refine bnd a1 ?_
          rw [if_pos rfl]
        · refine bnd a2 ?_
          rw [if_pos rfl]
end CKS
