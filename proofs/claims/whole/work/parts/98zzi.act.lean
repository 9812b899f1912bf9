/-! call 15: act -/
def RNa (p m : Nat) (h h' : hS) : Prop := ∃ h1 h2, fp (fun y j => y = 8 ∧ 11 ≤ j ∧ j ≤ 13) h h1 ∧ RNc p m 24 h1 h2 ∧ fp (fun y j => y = 8 ∧ 11 ≤ j ∧ j ≤ 13) h2 h'
def RNb (t t' : hS) : Prop := ∃ t1, RNr t t1 ∧ fp (fun y j => y = 395 ∧ 56 ≤ j ∧ j ≤ 58) t1 t'
section ACT
variable {h h' h0 h1 t t' t0 t1 t2 : hS} {K : Nat → Int → Prop} {p m q κ : Nat} {r : Int → Nat} {n v : Int}
theorem RT_8 (R : RT h t K p m q r) (a : chg (fun x => x = 8) h h') (e88 : hI h' 8 8 = hI h 8 8) (er : ∀ x j, (x = 400 ∨ (403 ≤ x ∧ x ≤ 407) ∨ (x = 395 ∧ j = 33)) → hI t' x j = hI t x j) : RT h' t' K p m q r := by
  obtain ⟨S, P, T, C, hp, D⟩ := R
  have ew : ∀ k f, wg t' 0 k f = wg t 0 k f := fun k f => er 400 _ (.inl rfl)
  have em : wm t' 0 = wm t 0 := er 400 _ (.inl rfl)
  have sp : same (pnd h p) h h' := chg_same a (fun x hx => by
    rcases hx.1 with z | z | ⟨z, -⟩ <;> omega)
  have sc : same crc h h' := chg_same a (fun x hx => by unfold crc at hx; omega)
  have n := a.2.2.2.1
  refine ⟨SH_cg S (fun x j hx => (a.2.2.2.2.2 x (by omega) j).2) a.2.1 a.2.2.1 (fun x j h1 h2 _ => (a.2.2.2.2.2 x (by omega) j).2) (fun c hc40 => ⟨(a.2.2.2.2.2 _ (by omega) 0).1, (a.2.2.2.2.2 _ (by omega) 0).1⟩), PW_cg P sp (by omega) ew em (fun _ _ h => h), TB_cg P T sp ew, CR_cg P C sp sc e88 ew (fun x j h1 h2 => er x j (by omega)) (er 395 33 (by omega)), hp, fun x v hx => ?_⟩
  obtain ⟨⟨d1, d2, d3⟩, d4⟩ := D x v hx
  exact ⟨⟨d1, by omega, by rw [a.2.1]; exact d3⟩, fun j j0 j1 => by rw [kd_cg P sp]; exact d4 j j0 j1⟩
theorem RUN_8 (U : RUNp K p m q r κ h t) (a : fp (fun y j => y = 8 ∧ 11 ≤ j ∧ j ≤ 13) h h') (b : fp (fun y j => y = 395 ∧ 56 ≤ j ∧ j ≤ 58) t t') : RUNp K p m q r κ h' t' := by
  obtain ⟨R, C, hk, ⟨f1, f2⟩, rn, n, e⟩ := U
  have ch : chg (fun x => x = 8) h h' := chg_fp a (fun y j hy => hy.1)
  exact ⟨RT_8 R ch (a.2 8 8 (by omega)) (fun x j hx => b.2 x j (by omega)), CT_chg C ch (fun x hx => by omega) (fun j => b.2 399 j (by omega)), hk, ⟨fun e e1 e2 => ⟨by rw [(ch.2.2.2.2.2 23 (by omega) e).2]; exact (f1 e e1 e2).1, by rw [ch.2.1]; exact (f1 e e1 e2).2⟩, by rw [ch.2.1]; exact f2⟩, rnn_c rn (fun y j hy => a.2 y j (by omega)) (fun y j hy => b.2 y j (by omega)), by rw [a.2 22 11 (by omega), b.2 395 60 (by omega)]; exact n, by rw [b.2 395 54 (by omega)]; exact e⟩
theorem api15 (U : RUNp K p m q r κ h t) (e60 : hI t 395 60 = 0) (n a x : Int) : ∃ (out : Int) (h' t' : hS), c112 n a x h = some (out, h') ∧ c250 n a x t = some (out, t') ∧ RUNp K p m q r κ h' t' ∧ tldR h' t' ∧ RNa p m h h' ∧ RNb t t' ∧ hI t' 395 60 = 0 := by
  obtain ⟨h1, e1⟩ : ∃ h1, h1 = sI (sI (sI h 8 11 0) 8 12 0) 8 13 0 := ⟨_, rfl⟩
  have f1 : fp (fun y j => y = 8 ∧ 11 ≤ j ∧ j ≤ 13) h h1 := by rw [e1]; exact fp_tr (fp_tr (fp_sI ⟨rfl, by omega, by omega⟩) (fp_sI ⟨rfl, by omega, by omega⟩)) (fp_sI ⟨rfl, by omega, by omega⟩)
  have i1 : hI h1 8 11 = 0 ∧ hI h1 8 12 = 0 ∧ hI h1 8 13 = 0 := by
    rw [e1]
    refine ⟨?_, ?_, ?_⟩
    · rw [hI_sI, if_neg (by omega), hI_sI, if_neg (by omega), hI_sI, if_pos ⟨rfl, rfl⟩]
    · rw [hI_sI, if_neg (by omega), hI_sI, if_pos ⟨rfl, rfl⟩]
    · rw [hI_sI, if_pos ⟨rfl, rfl⟩]
  have V := RUN_8 U f1 (fp_rf (h := t))
  obtain ⟨S, P, T, C, hp, D⟩ := id V.1
  have f24 : F0k 24 := .inl rfl
  have cls : c112 n a x h = (c103 n h1).bind (fun v4 => if v4 = 0 then some (3, h1) else (aRs h1 19 40 n).bind (fun v6 => (c113 v6 a x h1).bind (fun v7 => (some (sI v7.2 8 11 (hI v7.2 22 8))).bind (fun h8 => (some (sI h8 8 12 (hI h8 22 9))).bind (fun h9 => (some (sI h9 8 13 (hI h9 22 10))).bind (fun h10 => some (v7.1, h10))))))) := by rw [e1]; rfl
  -- what is told
  have j47 : ∀ (u : hS) (out : Int), c250_j47 out u = some (out, sI (sI (sI u 395 56 (if out = 0 then hI u 395 40 else 0)) 395 57 (if out = 1 then hI u 395 39 else 0)) 395 58 (hI u 395 41)) := fun u out => by
    have k61 : ∀ s, c250_j61 s out u = some (out, sI (sI (sI u 395 56 s) 395 57 (if out = 1 then hI u 395 39 else 0)) 395 58 (hI u 395 41)) := fun s => by
      unfold c250_j61
      refine bnd rfl ?_
      by_cases z : out = 1
      · rw [if_pos z, if_pos z, hI_sI, if_neg (by omega)]
        unfold c250_j79
        refine bnd rfl ?_
        rw [hI_sI, if_neg (by omega), hI_sI, if_neg (by omega)]
        rfl
      · rw [if_neg z, if_neg z]
        unfold c250_j79
        refine bnd rfl ?_
        rw [hI_sI, if_neg (by omega), hI_sI, if_neg (by omega)]
        rfl
    unfold c250_j47
    by_cases z : out = 0
    · rw [if_pos z, if_pos z, k61]
    · rw [if_neg z, if_neg z, k61]
  have fin : ∀ (g u : hS) (out : Int), RUNp K p m q r κ g u → RNc p m 24 h1 g → RNr t u → hI g 22 8 = (if out = 0 then hI u 395 40 else 0) → hI g 22 9 = (if out = 1 then hI u 395 39 else 0) → hI g 22 10 = hI u 395 41 → ∀ h' t', h' = sI (sI (sI g 8 11 (hI g 22 8)) 8 12 (hI (sI g 8 11 (hI g 22 8)) 22 9)) 8 13 (hI (sI (sI g 8 11 (hI g 22 8)) 8 12 (hI (sI g 8 11 (hI g 22 8)) 22 9)) 22 10) → t' = sI (sI (sI u 395 56 (if out = 0 then hI u 395 40 else 0)) 395 57 (if out = 1 then hI u 395 39 else 0)) 395 58 (hI u 395 41) → RUNp K p m q r κ h' t' ∧ tldR h' t' ∧ RNa p m h h' ∧ RNb t t' ∧ hI t' 395 60 = 0 := fun g u out Ug rc rr q1 q2 q3 h' t' eh et => by
    have fh : fp (fun y j => y = 8 ∧ 11 ≤ j ∧ j ≤ 13) g h' := by rw [eh]; exact fp_tr (fp_tr (fp_sI ⟨rfl, by omega, by omega⟩) (fp_sI ⟨rfl, by omega, by omega⟩)) (fp_sI ⟨rfl, by omega, by omega⟩)
    have ft : fp (fun y j => y = 395 ∧ 56 ≤ j ∧ j ≤ 58) u t' := by rw [et]; exact fp_tr (fp_tr (fp_sI ⟨rfl, by omega, by omega⟩) (fp_sI ⟨rfl, by omega, by omega⟩)) (fp_sI ⟨rfl, by omega, by omega⟩)
    refine ⟨RUN_8 Ug fh ft, ⟨?_, ?_, ?_⟩, ⟨h1, g, f1, rc, fh⟩, ⟨u, rr, ft⟩, by rw [ft.2 395 60 (by omega), rr.2 395 60 (by omega)]; exact e60⟩
    · rw [eh, et, hI_sI, if_neg (by omega), hI_sI, if_neg (by omega), hI_sI, if_pos ⟨rfl, rfl⟩, hI_sI, if_neg (by omega), hI_sI, if_neg (by omega), hI_sI, if_pos ⟨rfl, rfl⟩]
      exact q1
    · rw [eh, et, hI_sI, if_neg (by omega), hI_sI, if_pos ⟨rfl, rfl⟩, hI_sI, if_neg (by omega), hI_sI, if_neg (by omega), hI_sI, if_pos ⟨rfl, rfl⟩]
      exact q2
    · rw [eh, et, hI_sI, if_pos ⟨rfl, rfl⟩, hI_sI, if_neg (by omega), hI_sI, if_neg (by omega), hI_sI, if_pos ⟨rfl, rfl⟩]
      exact q3
  have U1 : RUNp K p m q r κ h1 (rs t) := RUN_c V chg_rf (fun y j hy => rs_i (by omega)) (fun _ _ => rfl) (rnn_c V.2.2.2.2.1 (fun _ _ _ => rfl) (fun y j hy => rs_i (by omega))) rfl
  have lv := c241_e U1.1.2.2.2.1 n
  have e103 := c103_e S C n
  by_cases z : lvs h1 n = true
  · rw [if_pos z] at lv e103
    obtain ⟨⟨n0, n1⟩, n2⟩ := lvs_b z
    obtain ⟨c, rfl⟩ : ∃ c : Nat, n = (c : Int) := ⟨n.toNat, by omega⟩
    rw [Int.toNat_natCast] at n2
    have ecr : aRs h1 19 40 (c : Int) = some (215 + 4 * c) := by rw [aRs_s (by omega) (by omega), Int.toNat_natCast, (S.1 c (by omega)).1]
    have cls2 : ∀ o : Int × hS, c113 (215 + 4 * c) a x h1 = some o → c112 (c : Int) a x h = some (o.1, sI (sI (sI o.2 8 11 (hI o.2 22 8)) 8 12 (hI (sI o.2 8 11 (hI o.2 22 8)) 22 9)) 8 13 (hI (sI (sI o.2 8 11 (hI o.2 22 8)) 8 12 (hI (sI o.2 8 11 (hI o.2 22 8)) 22 9)) 22 10)) := fun o e => by
      rw [cls]
      refine bnd e103 ?_
      rw [if_neg (by omega)]
      refine bnd ecr ?_
      exact bnd e rfl
    rcases SHORT V (by omega) n2 a x with ⟨t2, w1, w2, w3⟩ | ⟨out, how, t2, t3, t4, t5, h5, w1, w2, w3, w4, w5, w6, w7, w8, w9, w10, w11, w12, w13⟩
    · -- there is no such act
      have V2 : RUNp K p m q r κ (cs h1) t2 := RUN_c U1 cs_c (fun y j hy => w3.2 y j (by omega)) (fun j _ => by unfold cs; rw [hR_sI, hR_sI, hR_sI]) (rnn_c U1.2.2.2.2.1 (fun y j hy => cs_i (by omega)) (fun y j hy => w3.2 y j (by omega))) (cs_i (by omega))
      have e41 : hI t2 395 41 = 0 := by rw [w3.2 395 41 (by omega)]; exact rs_0.2.2.1
      refine ⟨2, _, _, cls2 _ w1, ?_, fin (cs h1) t2 2 V2 (cs_N f24 hp) (RNr_tr rs_N (RNr_L w3)) (by rw [cs_0.1, if_neg (by omega)]) (by rw [cs_0.2.1, if_neg (by omega)]) (by rw [cs_0.2.2, e41]) _ _ rfl rfl⟩
      unfold c250
      refine bnd c251_s ?_
      refine bnd lv ?_
      rw [if_neg (by omega)]
      refine bnd w2 ?_
      rw [if_pos rfl]
      exact j47 t2 2
    · have e266 : c266 0 t2 = some t2 := by
        unfold c266
        rw [if_pos (by rw [w3.2 395 60 (by omega), rs_i (by omega)]; exact e60)]
      obtain rfl : t3 = t2 := by rw [e266] at w4; exact (Option.some.inj w4).symm
      refine ⟨out, _, _, cls2 _ w1, ?_, fin h5 t5 out w7 w8 w9 w11 w12 w13 _ _ rfl rfl⟩
      unfold c250
      refine bnd c251_s ?_
      refine bnd lv ?_
      rw [if_neg (by omega)]
      refine bnd w2 ?_
      rw [if_neg (show ¬ (1 : Int) = 0 by omega)]
      refine bnd (show aIs t3 414 252 0 = some (hI t3 414 0) by rw [aIs_s (by omega) (by omega)]; rfl) ?_
      refine bnd w5 ?_
      refine bnd w6 ?_
      exact j47 t5 out
  · rw [if_neg z] at lv e103
    have e112 : c112 n a x h = some (3, h1) := by
      rw [cls]
      refine bnd e103 ?_
      rw [if_pos rfl]
    obtain ⟨tt, et⟩ : ∃ tt, tt = sI (sI (sI (rs t) 395 56 0) 395 57 0) 395 58 0 := ⟨_, rfl⟩
    have ft : fp (fun y j => y = 395 ∧ 56 ≤ j ∧ j ≤ 58) (rs t) tt := by rw [et]; exact fp_tr (fp_tr (fp_sI ⟨rfl, by omega, by omega⟩) (fp_sI ⟨rfl, by omega, by omega⟩)) (fp_sI ⟨rfl, by omega, by omega⟩)
    refine ⟨3, h1, tt, e112, ?_, RUN_8 U1 (fp_rf (h := h1)) ft, ⟨?_, ?_, ?_⟩, ⟨h1, h1, f1, ⟨⟨rfl, rfl, rfl, rfl, rfl⟩, fun _ _ _ _ => rfl, fun _ _ _ _ => rfl⟩, fp_rf⟩, ⟨rs t, rs_N, ft⟩, by rw [ft.2 395 60 (by omega), rs_i (by omega)]; exact e60⟩
    · unfold c250
      refine bnd c251_s ?_
      refine bnd lv ?_
      rw [if_pos rfl, j47, if_neg (by omega), if_neg (by omega), rs_0.2.2.1, et]
    · rw [i1.1, et, hI_sI, if_neg (by omega), hI_sI, if_neg (by omega), hI_sI, if_pos ⟨rfl, rfl⟩]
    · rw [i1.2.1, et, hI_sI, if_neg (by omega), hI_sI, if_pos ⟨rfl, rfl⟩]
    · rw [i1.2.2, et, hI_sI, if_pos ⟨rfl, rfl⟩]
end ACT
