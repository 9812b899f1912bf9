/-! an act is called by both (2) -/
section CLX
variable {h h' h1 t t' t1 t2 : hS} {K : Nat → Int → Prop} {p m q κ F0 d n x c k a tx i pos fu c2 j0 : Nat} {r : Int → Nat} {v : Int}
/-- the next level is open in both -/
theorem OPN2 (R : BRt K p m q r κ F0 h t) (G : GOt d h t) (d20 : d < 20) (c40 : c2 < 40) (lv : hI h (215 + 4 * c2) 1 = 1) (hn : n < 40) (L : lvL (d + 1) t t2) (A : ACH h K n (fun i => hI t2 414 (12 * (d + 1) + i)) (fun i => hI t2 415 (12 * (d + 1) + i)) (fun i => hI t2 416 (12 * (d + 1) + i)) k a j0) (hk : j0 + k ≤ 12) (rw6 : hI t2 408 (d + 1) = (c2 : Int) ∧ hI t2 409 (d + 1) = v ∧ hI t2 410 (d + 1) = 0 ∧ hI t2 411 (d + 1) = ((j0 + k : Nat) : Int) ∧ hI t2 412 (d + 1) = (j0 : Int) ∧ hI t2 413 (d + 1) = (n : Int)) : ∃ h1, (∀ h2, c117 (FF F0 (d + 1)) h1 = some h2 → c131 (215 + 4 * c2) a (n : Int) v h = some h2) ∧ BRt K p m q r κ F0 h1 t2 ∧ RCc p m F0 (d + 1) h h1 ∧ GOt (d + 1) h1 t2 ∧ FRQ h1 t2 K (d + 1) (FF F0 (d + 1)) (cdo h a n) c2 ∧ hI h1 (FF F0 (d + 1)) 4 = 0 ∧ hI h1 22 8 = hI h 22 8 ∧ hI h1 22 9 = hI h 22 9 := by
  have f := R.2.2.2.1
  have hp := R.1.2.2.2.2.1
  have hF := FF_b (e := d + 1) f (by omega)
  obtain ⟨⟨g1, g2⟩, g3, g4, g5⟩ := G
  obtain ⟨h0, e0⟩ : ∃ h0, h0 = sI h 22 3 ((d + 1 : Nat) : Int) := ⟨_, rfl⟩
  have ch0 : chg (fun x => (20 ≤ x ∧ x ≤ 47) ∨ (375 ≤ x ∧ x < 395)) h h0 := by rw [e0]; exact chg_sI (show (20 ≤ 22 ∧ 22 ≤ 47) ∨ (375 ≤ 22 ∧ 22 < 395) by omega)
  have rc0 : RCc p m F0 (d + 1) h h0 := by rw [e0]; exact RCc_sI (by omega) (.inr ⟨rfl, by omega, by omega⟩)
  have i0 : ∀ j, j ≠ 3 → hI h0 22 j = hI h 22 j := fun j hj => by rw [e0, hI_sI, if_neg (by omega)]
  have F1 : hR h 23 (d + 1) = FF F0 (d + 1) := BR_F R (by omega)
  have T1 : hT h (FF F0 (d + 1)) = 12 := BR_T R (by omega)
  have k0 : ∀ a', KD h a' → KD h0 a' ∧ ∀ o, o ≤ 12 → o ≠ 5 → sm h h0 (a' + o) := fun a' Q' => KD_chg ch0 (fun x hx => by omega) Q'
  have A0 := ACH_c A k0 (fun i _ _ => ⟨rfl, rfl, rfl⟩)
  have C0 : CT h0 t K κ := CT_rc (d := d + 1) R.1 f rc0 RCr_rf R.2.1
  obtain ⟨h1, w1, w2, ⟨w3, w4, w5, w6, w7, w8, w9⟩, w10⟩ := OPc (v := v) C0 A0 hn (show hT h0 (FF F0 (d + 1)) = 12 by rw [e0]; exact T1) (by omega) c40
  have hcd : cdo h0 a n = cdo h a n := by unfold cdo; rw [e0]; have := (ACH_1 A).1.1; rw [hR_sI, hI_sI, if_neg (by omega)]
  rw [hcd] at w6 w10
  have ch1 : chg (fun x => (20 ≤ x ∧ x ≤ 47) ∨ (375 ≤ x ∧ x < 395)) h h1 := chg_tr ch0 (chg_mono w2 (fun y hy => by omega))
  have rc1 : RCc p m F0 (d + 1) h h1 := RCc_tr f hp rc0 (RCc_F (by omega) (by omega) w2)
  have rr : RCr d t t2 := ⟨L.1, fun y j z => L.2 y j (by omega)⟩
  have i1 : ∀ j, j ≠ 3 → hI h1 22 j = hI h 22 j := fun j hj => by rw [(w2.2.2.2.2.2 22 (by omega) j).1]; exact i0 j hj
  have i26 : ∀ j, hI h1 26 j = hI h 26 j := fun j => by rw [(w2.2.2.2.2.2 26 (by omega) j).1, e0, hI_sI, if_neg (by omega)]
  have R1 : BRt K p m q r κ F0 h1 t2 := by
    obtain ⟨r1, r2, r3⟩ := R.2.2.2.2.2.2.1
    refine BR_c R (RCc_mn rc1 (by omega)) rr (RT_c R.1 ch1 (fun y j hy => L.2 y j (by omega))) (by rw [i1 10 (by omega), L.2 395 41 (by omega)]; exact R.2.2.2.2.2.1) ⟨by rw [i1 13 (by omega), L.2 395 66 (by omega)]; exact r1, by rw [i1 13 (by omega)]; exact r2, fun u hu => ?_⟩ (by rw [L.2 395 54 (by omega)]; exact R.2.2.2.2.2.2.2.2)
    rw [i1 13 (by omega)] at hu
    rw [i26, i26, i26, i26, L.2 419 _ (by omega), L.2 420 _ (by omega), L.2 421 _ (by omega), L.2 422 _ (by omega)]
    exact r3 u hu
  have K1 : K (cdo h a n) (hI t2 414 (12 * (d + 1) + j0)) := w10
  obtain ⟨x1, x2, x3, tx, fn, D, -, -, -, ⟨x4, x5⟩, -⟩ := R1.2.1 _ _ K1
  refine ⟨h1, fun h2 e2 => ?_, R1, rc1, ⟨⟨?_, by omega⟩, by rw [i1 7 (by omega)]; exact g3, by rw [i1 5 (by omega)]; exact g4, by rw [L.2 395 42 (by omega)]; exact g5⟩, ⟨⟨?_, w6, x1, x3, by omega, by omega⟩, ⟨c40, w3, ?_⟩, rw6.1, by rw [w9]; exact rw6.2.1.symm, by rw [w8]; exact rw6.2.2.1.symm, n, j0, k, ⟨hn, w5, rw6.2.2.2.2.2⟩, rw6.2.2.2.2.1, rw6.2.2.2.1, hk, ?_, K1⟩, w7, i1 8 (by omega), i1 9 (by omega)⟩
  · unfold c131
    rw [if_pos (by omega), g1, show wadd (d : Int) 1 = ((d + 1 : Nat) : Int) by rw [wadd_e (by omega) (by omega)]; rfl]
    refine bnd rfl ?_
    rw [← e0]
    have e3 : hI h0 22 3 = ((d + 1 : Nat) : Int) := by rw [e0, hI_sI, if_pos ⟨rfl, rfl⟩]
    have er : aRs h0 23 21 (hI h0 22 3) = some (FF F0 (d + 1)) := by
      rw [e3, aRs_s (by omega) (by omega), Int.toNat_natCast, e0, hR_sI, F1]
    refine bnd er ?_
    refine bnd (kT_s (show hT h0 (FF F0 (d + 1)) = 12 by rw [e0]; exact T1)) ?_
    refine bnd w1 ?_
    have e3' : hI h1 22 3 = ((d + 1 : Nat) : Int) := by rw [(w2.2.2.2.2.2 22 (by omega) 3).1]; exact e3
    have er' : aRs h1 23 21 (hI h1 22 3) = some (FF F0 (d + 1)) := by
      rw [e3', aRs_s (by omega) (by omega), Int.toNat_natCast, (w2.2.2.2.2.2 23 (by omega) _).2, e0, hR_sI, F1]
    refine bnd er' ?_
    exact bnd e2 rfl
  · rw [(w2.2.2.2.2.2 22 (by omega) 3).1, e0, hI_sI, if_pos ⟨rfl, rfl⟩]
  · show hT h1 (FF F0 (d + 1)) = 12
    rw [ch1.2.1]; exact T1
  · rw [(w2.2.2.2.2.2 _ (by omega) 1).1, e0, hI_sI, if_neg (by omega)]; exact lv
  · rw [w4]
    exact ACH_c A (fun a' Q' => KD_chg ch1 (fun x hx => by omega) Q') (fun i _ _ => ⟨rfl, rfl, rfl⟩)
/-- an act is called: do and send -/
theorem CALLW (IH : d < 20 → BDYp K p m q r κ F0 (d + 1) fu) (R : BRt K p m q r κ F0 h t) (G : GOt d h t) (Q : FRQ h t K d (FF F0 d) x c) (c40 : c2 < 40) (lv : hI h (215 + 4 * c2) 1 = 1) (hn : n < 40) : ∃ (ok : Int) (t' h' h2 : hS) (kk : Nat), c132 (215 + 4 * c2) (n : Int) h = some h2 ∧ c267_j161 (g254 (fu + 1)) (d : Int) (c2 : Int) (n : Int) t = some (ok, t') ∧ runS kk h2 h' ∧ hI t 395 41 ≤ hI t' 395 41 ∧ (kk : Int) ≤ 2 + 1998 * (hI t' 395 41 - hI t 395 41) ∧ CLR K p m q r κ F0 d x c h t h' t' ok := by
  obtain ⟨S, P, T, C, hp, D⟩ := id R.1
  obtain ⟨u1, u2, u3, u4⟩ := C.2.2.2 c2 c40
  obtain ⟨⟨k0, k1, k2⟩, -⟩ := u4 lv
  have hs := (S.1 c2 c40).2
  obtain ⟨jj, hj⟩ : ∃ jj, hI t 404 c2 = jj := ⟨_, rfl⟩
  rw [hj] at k0 k1 k2
  have KDj := (P.2.2.1 jj k0 k1).1
  obtain ⟨w1, -⟩ := P.1.2.2 jj k0 k1
  obtain ⟨-, -, z3, -⟩ := T jj k0 k1 n hn
  have cls : ∀ o, (if aAt t 0 jj n = -1 then c123 1004 h else c131 (215 + 4 * c2) (kd h p (aAt t 0 jj n)) (n : Int) 0 h) = some o → c132 (215 + 4 * c2) (n : Int) h = some o := fun o e => by
    unfold c132
    rw [gR_s hs.1, k2]
    refine bnd rfl ?_
    refine bnd (kT_s KDj.2.2.1) ?_
    refine bnd (c115_e KDj) ?_
    rw [if_pos ⟨by omega, by omega⟩, Int.toNat_natCast, z3]
    by_cases z : aAt t 0 jj n = -1
    · rw [if_pos z] at e
      rw [z, kd_m]
      exact bnd hnul_0 (bnd e rfl)
    · rw [if_neg z] at e
      have ok := ((aAt_b P.1 (.inr ⟨k0, k1⟩)).resolve_left z).1
      refine bnd (hnul_8 (by have := (P.2.2.1 _ ok.1 ok.2).1.1; omega)) ?_
      rw [if_neg (by decide)]
      exact bnd e rfl
  have ref : ∀ o, (if aAt t 0 jj n = -1 then some (0, sI t 395 39 1004) else if (d : Int) = 20 then some (0, sI t 395 39 1005) else (c252 (wadd (d : Int) 1) (c2 : Int) (n : Int) 0 t).bind (fun v14 => (g254 (fu + 1) 265 [(wadd (d : Int) 1)] v14.2).bind (fun v15 => (kB v15.1).bind (fun _ => some (v15.1, v15.2))))) = some o → c267_j161 (g254 (fu + 1)) (d : Int) (c2 : Int) (n : Int) t = some o := fun o e => by
    unfold c267_j161
    refine bnd (show aIs t 404 40 (c2 : Int) = some jj by rw [aIs_s (by omega) (by omega), Int.toNat_natCast, hj]) ?_
    refine bnd (c267_l P.1 12 hF0 0 jj (.inl rfl) (.inr ⟨⟨k0, k1⟩, w1⟩) (hF0_lt (by omega))) ?_
    by_cases z : aAt t 0 jj n = -1
    · rw [if_pos z] at e
      rw [show (if (0 : Int) = 0 ∧ aAt t 0 jj n = -1 then (0 : Int) else 1) = 0 from if_pos ⟨rfl, z⟩, if_pos rfl]
      exact e
    · rw [if_neg z] at e
      rw [show (if (0 : Int) = 0 ∧ aAt t 0 jj n = -1 then (0 : Int) else 1) = 1 from if_neg (fun y => z y.2), if_neg (show ¬ (1 : Int) = 0 by omega)]
      by_cases z20 : (d : Int) = 20
      · rw [if_pos z20] at e ⊢
        exact e
      · rw [if_neg z20] at e ⊢
        exact e
  by_cases z : aAt t 0 jj n = -1
  · rw [if_pos z] at cls ref
    exact ⟨0, _, _, _, 0, cls _ c123_e, ref _ rfl, rfl, by rw [hI_sI, if_neg (by omega)]; exact Int.le_refl _, by rw [hI_sI, if_neg (by omega)]; omega, .inr ⟨rfl, FLT R G 1004⟩⟩
  · rw [if_neg z] at cls ref
    have ok := ((aAt_b P.1 (.inr ⟨k0, k1⟩)).resolve_left z).1
    by_cases z20 : d = 20
    · rw [if_pos (by omega)] at ref
      have e131 : c131 (215 + 4 * c2) (kd h p (aAt t 0 jj n)) (n : Int) 0 h = some (sI (sI h 22 9 1005) 22 7 1) := by
        unfold c131
        rw [if_neg (by have := G.1.1; omega)]
        rfl
      exact ⟨0, _, _, _, 0, cls _ e131, ref _ rfl, rfl, by rw [hI_sI, if_neg (by omega)]; exact Int.le_refl _, by rw [hI_sI, if_neg (by omega)]; omega, .inr ⟨rfl, FLT R G 1005⟩⟩
    · have hd := G.1.2
      rw [if_neg (by omega)] at ref
      obtain ⟨k, t2, o1, o2, o3⟩ := OPr (e := d + 1) (v := 0) R.1 (by omega) hn c40 lv
      rw [hj] at o1 o3
      obtain ⟨o4, o5, o6⟩ := o3 z
      rw [if_neg z] at o1
      obtain ⟨h1, y1, y2, y3, y4, y5, y6, y7, y8⟩ := OPN2 (j0 := 0) R G (by omega) c40 lv hn o2 o6 (by omega) ⟨o4.1, o4.2.1, o4.2.2.1, by rw [o4.2.2.2.1, Nat.zero_add], o4.2.2.2.2.1, o4.2.2.2.2.2⟩
      have rr : RCr d t t2 := ⟨o2.1, fun y j z => o2.2 y j (by omega)⟩
      obtain ⟨okk, t', h', h2, kk, q1, q2, q3, q4, q5, q6⟩ := CLb (IH (by omega)) (by omega) R y2 Q y3 rr (o2.2 410 d (by omega)) y4 y5 y6 y7 y8 (o2.2 395 41 (by omega))
      have hok : okk = 0 ∨ okk = 1 := by
        rcases q6 with ⟨e, -⟩ | ⟨e, -⟩
        · exact .inr e
        · exact .inl e
      refine ⟨okk, t', h', h2, kk, cls _ (y1 h2 q1), ref _ ?_, q3, q4, q5, q6⟩
      rw [show wadd (d : Int) 1 = ((d + 1 : Nat) : Int) by rw [wadd_e (by omega) (by omega)]; rfl]
      refine bnd o1 ?_
      refine bnd (g254_265.trans q2) ?_
      exact bnd (kB_s hok) rfl
end CLX
