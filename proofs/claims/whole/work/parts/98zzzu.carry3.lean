/-! a patch is made: one creature is carried -/
/-- n of the old kind goes nowhere -/
def LSq (tZ : hS) (m : Nat) (old k : Int) (n : Nat) : Prop := fAt tZ 0 old n ≠ -1 ∧ ∀ a : Nat, a < 40 → fAt tZ 1 k a ≠ -1 → srN tZ m old k a ≠ (n : Int)
/-- creature c is carried from old to kind k: from (h, t) to (h', t') -/
def CRq (hZ tZ : hS) (m : Nat) (old k : Int) (c : Nat) (h t h' t' : hS) : Prop := (cyH hZ h' ∧ cyT tZ t') ∧ hI t' 395 54 = 0 ∧ ((∀ x j, 53 ≤ x → x < 213 → ¬ (54 + 4 * c ≤ x ∧ x ≤ 56 + 4 * c) → hI h' x j = hI h x j) ∧ (∀ x j, 53 ≤ x → x < 213 → hR h' x j = hR h x j) ∧ (∀ x j, (x = 440 ∨ x = 442) → ¬ (40 * c ≤ j ∧ j < 40 * c + 40) → hI t' x j = hI t x j) ∧ ∀ j, hI t' 446 j = hI t 446 j) ∧ (∀ n : Nat, n < 40 → (fAt tZ 1 k n ≠ -1 → hI t' 442 (40 * c + n) = 1 ∧ hI h' (54 + 4 * c) n = hI t' 440 (40 * c + n)) ∧ (fAt tZ 1 k n = -1 → hI t' 442 (40 * c + n) = 0)) ∧ ∀ n : Nat, n < 40 → (LSq tZ m old k n → hI h' (55 + 4 * c) n = 1 ∧ hI h' (56 + 4 * c) n = hI hZ (216 + 4 * c) n) ∧ (¬ LSq tZ m old k n → hI h' (55 + 4 * c) n = hI h (55 + 4 * c) n ∧ hI h' (56 + 4 * c) n = hI h (56 + 4 * c) n)
section CA3
variable {hZ tZ h0 h1 t1 h t h' t' : hS} {K : Nat → Int → Prop} {p P m0 m q pt S A qq N0 tx pk c : Nat} {r0 r : Int → Nat} {G f old k u : Int} {us Lc : List Nat} {pr : Nat → Prop}
theorem wsub_1 {i : Nat} (hi : i < 1000) : wsub (i : Int) 1 = (i : Int) - 1 := wsub_e (by omega) (by omega)
theorem ruN_w {n : Int} (e : wg t = wg tZ) : ∀ l : List Nat, ruN h0 t k n l = ruN h0 tZ k n l
  | [] => rfl
  | y :: l => by
    show (if ruN h0 t k n l ≠ 0 then ruN h0 t k n l else if RBq h0 t k n y = true then y else 0) = (if ruN h0 tZ k n l ≠ 0 then ruN h0 tZ k n l else if RBq h0 tZ k n y = true then y else 0)
    rw [ruN_w e l]
    unfold RBq
    rw [e]
theorem prC_e {len : Nat} (W : WF tZ 1 m r) (C : CF tZ 1 m) (hc : chq tZ 1 k m len) (x : Nat) : prC tZ k len 0 x ↔ fAt tZ 1 k x ≠ -1 := by
  refine ⟨fun z => ?_, fun z => ?_⟩
  · obtain ⟨j, g, z1, z2, z3, z4⟩ := z
    have := (fAt_c W C hc z2 z3).2
    rw [z4] at this
    rw [this]
    have := (hc.2.1 j z2).1
    omega
  · obtain ⟨i, f, f1, f2, f3, -⟩ := fAt_d W hc z
    exact ⟨i, f, Nat.zero_le _, f1, f2, f3⟩
theorem CA_1 (B : CAB hZ tZ h0 K p P m0 m q r0 r G pt S A qq N0 tx pk us Lc f) (H0 : ∀ y ∈ us, y ≠ 0) (c40 : c < 40) (lv : hI hZ (215 + 4 * c) 1 = 1) (eo : hI tZ 404 c = old) (hk : 0 ≤ k ∧ k < m) (cH : cyH hZ h) (cT : cyT tZ t) (e54 : hI t 395 54 = 0) (ek : hR h (53 + 4 * c) 2 = kd hZ P k) (e442 : ∀ n, n < 40 → hI t 442 (40 * c + n) = 0) : (∃ h' t', c155 pt P (215 + 4 * c) (53 + 4 * c) h = some (1, h') ∧ c285 (pk : Int) (c : Int) k t = some (1, t') ∧ CRq hZ tZ m old k c h t h' t') ∨ (∃ h' t', c155 pt P (215 + 4 * c) (53 + 4 * c) h = some (0, h') ∧ c285 (pk : Int) (c : Int) k t = some (0, t') ∧ RFq hZ tZ h' t') := by
  obtain ⟨RT0, ⟨Pw1, -, C1', -, KOs⟩, ⟨C0, P448, hP⟩, ⟨hpt, LL, N8, A8, l6, p448⟩, Sm, ⟨tx6, pk6, e401, hl, h12, lc, CH⟩, -, T24, T52, -⟩ := id B
  obtain ⟨SH0, Pw0, TB0', CR0, hp, KD0⟩ := RT0
  have W1 := Pw1.1
  have hm := W1.2.1
  obtain ⟨len, hc⟩ := chq_i W1 hk
  have hl12 := hc.1
  have wz := wg_cy cT
  have enx : ntx t tx = ntx tZ tx := by
    funext a b
    exact cyT_n cT a b
  -- the other side's rules
  have Wt := WF_cy W1 cT
  have Pnt : ∀ a b : Int, 0 ≤ a → a < m → 0 ≤ b → b < m → wg t 1 a 0 = wg t 1 b 0 → a = b := fun a b a0 a1 b0 b1 e => Pw1.2.2.2 a b a0 a1 b0 b1 (by rw [← cyT_w cT, ← cyT_w cT]; exact e)
  obtain ⟨ta, a1, a2, a3⟩ := c286_e (h0 := h0) (N0 := N0) (tx := tx) (us := us) (Lc := Lc) (pk := pk) (f := f) Wt Pnt hk tx6 pk6 (by rw [cT.2 401 pk (by omega)]; exact e401) (by rw [enx]; exact hl) h12 lc (by rw [enx]; exact CH) l6 H0
  obtain ⟨tb, eb⟩ : ∃ tb, tb = sI ta 408 0 (c : Int) := ⟨_, rfl⟩
  obtain ⟨td, ed⟩ : ∃ td, td = sI tb 409 0 0 := ⟨_, rfl⟩
  obtain ⟨te, ee⟩ : ∃ te, te = sI td 410 0 0 := ⟨_, rfl⟩
  have qa : cyT t ta := cyT_r a2
  have qb : cyT ta tb := by rw [eb]; exact cyT_sI (by omega)
  have qd : cyT tb td := by rw [ed]; exact cyT_sI (by omega)
  have qe : cyT td te := by rw [ee]; exact cyT_sI (by omega)
  have cTe : cyT tZ te := fp_tr cT (fp_tr qa (fp_tr qb (fp_tr qd qe)))
  have eo' : ∀ x j, ¬ (408 ≤ x ∧ x ≤ 410) → hI te x j = hI ta x j := fun x j hx => by rw [ee, hI_sI, if_neg (by omega), ed, hI_sI, if_neg (by omega), eb, hI_sI, if_neg (by omega)]
  have e4 : hI te 408 0 = (c : Int) ∧ hI te 409 0 = 0 ∧ hI te 410 0 = 0 := by
    refine ⟨?_, ?_, ?_⟩
    · rw [ee, hI_sI, if_neg (by omega), ed, hI_sI, if_neg (by omega), eb, hI_sI, if_pos ⟨rfl, rfl⟩]
    · rw [ee, hI_sI, if_neg (by omega), ed, hI_sI, if_pos ⟨rfl, rfl⟩]
    · rw [ee, hI_sI, if_pos ⟨rfl, rfl⟩]
  have RU : RUq h0 tZ te tx N0 k us := fun n n40 => by
    have z := a3 n n40
    rw [ruN_w wz, enx] at z
    rw [eo' 444 n (by omega), eo' 445 n (by omega)]
    exact z
  -- the class
  obtain ⟨ha, b1, b2, b3⟩ := c156_e (h0 := h) (by rw [cH.1.2.1, cH.1.2.2.1]; exact T52)
  have qha : cyH h ha := ⟨⟨by show ha.2.2.1 = h.2.2.1; rw [b2.1], by show ha.2.2.2.1 = h.2.2.2.1; rw [b2.1], by show ha.2.2.2.2.1 = h.2.2.2.2.1; rw [b2.1], h2_N b2.1, h2_M b2.1⟩, fun x j _ => h2_R b2.1 x j, fun x j z => b2.2 x j (fun y => z (by omega))⟩
  have cHa := cyH_tr cH qha
  obtain ⟨hb, d1, d2, d3, d4, d5⟩ := c157_l (h0 := hZ) Pw1 (.inr P448) hc len 0 hF0 ha (by omega) (hF0_lt (by omega)) cHa (fun j hj => by omega)
  have F0 : FIq hZ tZ hb te m old k c (prC tZ k len len) hb te := by
    refine ⟨⟨d2, cTe⟩, ⟨fun _ _ _ _ _ => rfl, fun _ _ _ _ => rfl, fun _ _ _ _ => rfl, fun _ _ _ => rfl, fun _ => rfl⟩, ?_, fun n hn => ⟨fun z => ?_, fun _ => ?_⟩, fun s hs => ?_⟩
    · rw [eo' 395 54 (by omega), a2.2 395 54 (by omega)]
      exact e54
    · obtain ⟨j, g, z1, z2, -⟩ := z
      omega
    · rw [eo' 442 _ (by omega), a2.2 442 _ (by omega)]
      exact e442 n hn
    · rw [d3 52 s, b3 s hs]
      refine ⟨fun z => absurd rfl z, fun z => ?_⟩
      obtain ⟨n, -, ⟨j, g, z1, z2, -⟩, -⟩ := z
      omega
  have ekb : hR hb (53 + 4 * c) 2 = kd hZ P k := by rw [d4 _ _ (by omega), h2_R b2.1]; exact ek
  have SF := (SH0.2 c c40).2
  have e157 : c157 (kd hZ P k) ha = some ((len : Int), hb) := by
    unfold c157
    refine bnd d1 ?_
    rfl
  have bT : hT ha (53 + 4 * c) = 16 := by rw [h2_T b2.1, cH.1.2.1]; exact SF.1
  have bR2 : hR ha (53 + 4 * c) 2 = kd hZ P k := by rw [h2_R b2.1]; exact ek
  have i400 : upn te 1 k = upn tZ 1 k := by
    funext a
    induction a with
    | zero => rfl
    | succ a ih =>
      show wg te 1 (upn te 1 k a) 1 = wg tZ 1 (upn tZ 1 k a) 1
      rw [ih, cyT_w cTe]
  have hce : chq te 1 k m len := by
    unfold chq
    rw [i400]
    exact hc
  have e33 : lp (fun s => c285_b33 te s.1 s.2) hF0 (0, k) = some (len : Int) := by
    have := c285_33 (WF_cy W1 cTe) hce len 0 hF0 (by omega) (hF0_lt (by omega))
    exact this
  rcases CA_c B c40 lv eo hk hc ekb d5 e4 RU len hF0 hb te (Nat.le_refl _) (hF0_lt (by omega)) F0 with ⟨g, s, x1, x2, x3⟩ | ⟨g, s, x1, x2, x3⟩
  · obtain ⟨⟨cHg, cTs⟩, ⟨fr1, fr2, fr3, fr4, fr5⟩, s54, FV, FG⟩ := x3
    have gT := fun y => show hT g y = hT hZ y by rw [cHg.1.2.1]
    have gL := fun y => show hL g y = hL hZ y by rw [cHg.1.2.2.1]
    have sO : SHc g (215 + 4 * c) c := by
      obtain ⟨q1, q2, q3, q4, q5, q6, q7⟩ := (SH0.1 c c40).2
      have rr : ∀ j, hR g (215 + 4 * c) j = hR hZ (215 + 4 * c) j := fun j => cHg.2.1 _ _ (by omega)
      exact ⟨by rw [gT]; exact q1, by rw [rr]; exact q2, by rw [rr]; exact q3, by rw [rr]; exact q4, by rw [gT, gT, gT]; exact q5, by rw [gL, gL, gL]; exact q6, by rw [cHg.2.2 _ _ (by omega)]; exact q7⟩
    have sF : SHc g (53 + 4 * c) c := by
      obtain ⟨q1, q2, q3, q4, q5, q6, q7⟩ := SF
      have rr : ∀ j, j ≠ 2 → hR g (53 + 4 * c) j = hR hZ (53 + 4 * c) j := fun j hj => cHg.2.1 _ _ (by omega)
      exact ⟨by rw [gT]; exact q1, by rw [rr 3 (by omega)]; exact q2, by rw [rr 4 (by omega)]; exact q3, by rw [rr 5 (by omega)]; exact q4, by rw [gT, gT, gT]; exact q5, by rw [gL, gL, gL]; exact q6, by rw [cHg.2.2 _ _ (by omega)]; exact q7⟩
    obtain ⟨⟨o0, o1, o2⟩, -⟩ := (CR0.2.2.2 c c40).2.2.2 lv
    rw [eo] at o0 o1 o2
    have Pwg := PW_cy Pw0 cHg cTs hp
    obtain ⟨g', y1, y2⟩ := c163_e (old := old) Pwg (CF_cg C0 (fun a b => cyT_w cTs 0 a b)) sO sF c40 ⟨o0, o1⟩ (by rw [cHg.2.1 _ _ (by omega), kd_cy Pw0 cHg hp]; exact o2)
    have hg' : cyH g g' := ⟨⟨by show g'.2.2.1 = g.2.2.1; rw [y2.1.1], by show g'.2.2.2.1 = g.2.2.2.1; rw [y2.1.1], by show g'.2.2.2.2.1 = g.2.2.2.2.1; rw [y2.1.1], h2_N y2.1.1, h2_M y2.1.1⟩, fun x j _ => h2_R y2.1.1 x j, fun x j z => y2.1.2 x j (fun w => z (by omega))⟩
    -- what the class's frame says
    have f53 : ∀ x j, 53 ≤ x → x < 213 → x ≠ 54 + 4 * c → hI g x j = hI h x j := fun x j x1 x2 x3 => by rw [fr1 x j x1 x2 x3, d3, b2.2 x j (by omega)]
    refine .inl ⟨g', s, ?_, ?_, ⟨cyH_tr cHg hg', cTs⟩, s54, ⟨fun x j x1 x2 x3 => ?_, fun x j x1 x2 => ?_, fun x j hx hj => ?_, fun j => ?_⟩, fun n hn => ⟨fun z => ?_, fun z => ?_⟩, fun n hn => ?_⟩
    · unfold c155
      refine bnd b1 ?_
      refine bnd (gR_s bT) ?_
      rw [bR2]
      refine bnd e157 ?_
      rw [wsub_1 (show len < 1000 by omega)]
      refine bnd x1 ?_
      rw [xs_il]
      refine bnd y1 ?_
      rfl
    · unfold c285
      refine bnd a1 ?_
      refine bnd ((wIs_s (by omega) (by omega)).trans (congrArg some (show sI ta 408 ((0 : Int)).toNat (c : Int) = tb from eb.symm))) ?_
      refine bnd ((wIs_s (by omega) (by omega)).trans (congrArg some (show sI tb 409 ((0 : Int)).toNat 0 = td from ed.symm))) ?_
      refine bnd ((wIs_s (by omega) (by omega)).trans (congrArg some (show sI td 410 ((0 : Int)).toNat 0 = te from ee.symm))) ?_
      refine bnd e33 ?_
      refine bnd x2 ?_
      rw [xs_il]
    · rw [y2.1.2 x j (by omega)]
      exact f53 x j x1 x2 (by omega)
    · rw [h2_R y2.1.1, fr2 x j x1 x2, d4 x j (by omega), h2_R b2.1]
    · rw [fr3 x j hx hj, eo' x j (by omega), a2.2 x j (by omega)]
    · rw [fr4 446 j (by omega), eo' 446 j (by omega), a2.2 446 j (by omega)]
    · rw [y2.1.2 _ n (by omega)]
      exact (FV n hn).1 ((prC_e W1 C1' hc n).2 z)
    · exact (FV n hn).2 (fun y => (prC_e W1 C1' hc n).1 y z)
    · have fz : fAt s 0 old n = fAt tZ 0 old n := fAt_cg (fun a b => cyT_w cTs 0 a b) old n
      have eL : LSq tZ m old k n ↔ (fAt s 0 old n ≠ -1 ∧ hI g 52 n = -1) := by
        rw [fz]
        unfold LSq
        refine ⟨fun z => ⟨z.1, ?_⟩, fun z => ⟨z.1, fun a ha za e => ?_⟩⟩
        · by_cases w : hI g 52 n = -1
          · exact w
          · obtain ⟨a, w1, w2, w3⟩ := (FG n hn).1 w
            exact absurd w3 (z.2 a w1 ((prC_e W1 C1' hc a).1 w2))
        · exact (FG n hn).2 ⟨a, ha, (prC_e W1 C1' hc a).2 za, e⟩ z.2
      have v216 : hI g (216 + 4 * c) n = hI hZ (216 + 4 * c) n := cHg.2.2 _ _ (by omega)
      refine ⟨fun z => ?_, fun z => ?_⟩
      · rw [← v216]
        exact (y2.2 n hn).1 (eL.1 z)
      · rw [← f53 (55 + 4 * c) n (by omega) (by omega) (by omega), ← f53 (56 + 4 * c) n (by omega) (by omega) (by omega)]
        exact (y2.2 n hn).2 (fun w => z (eL.2 w))
  · refine .inr ⟨g, s, ?_, ?_, x3⟩
    · unfold c155
      refine bnd b1 ?_
      refine bnd (gR_s bT) ?_
      rw [bR2]
      refine bnd e157 ?_
      rw [wsub_1 (show len < 1000 by omega)]
      refine bnd x1 ?_
      rw [xs_ir]
    · unfold c285
      refine bnd a1 ?_
      refine bnd ((wIs_s (by omega) (by omega)).trans (congrArg some (show sI ta 408 ((0 : Int)).toNat (c : Int) = tb from eb.symm))) ?_
      refine bnd ((wIs_s (by omega) (by omega)).trans (congrArg some (show sI tb 409 ((0 : Int)).toNat 0 = td from ed.symm))) ?_
      refine bnd ((wIs_s (by omega) (by omega)).trans (congrArg some (show sI td 410 ((0 : Int)).toNat 0 = te from ee.symm))) ?_
      refine bnd e33 ?_
      refine bnd x2 ?_
      rw [xs_ir]
end CA3
