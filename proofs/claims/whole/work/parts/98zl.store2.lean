/-! a name's value is written by both, for the creature c -/
section STP2
variable {hc hr : hS} {K : Nat → Int → Prop} {p m q : Nat} {r : Int → Nat}
theorem STr (R : RT hc hr K p m q r) {c : Nat} (c40 : c < 40) (lv : hI hc (215 + 4 * c) 1 = 1) {n v : Int} (n0 : 0 ≤ n ∧ n < 40) (hw : hI hr 395 52 = v) : (∃ hc' hr', c125 (215 + 4 * c) n v hc = some hc' ∧ c263 (c : Int) n hr = some (1, hr') ∧ RT hc' hr' K p m q r ∧ SWc p m hc hc' ∧ SWr hr hr') ∨ (c125 (215 + 4 * c) n v hc = c123 1001 hc ∧ c263 (c : Int) n hr = some (0, sI hr 395 39 1001)) := by
  obtain ⟨S, P, T, C, hp, D⟩ := id R
  obtain ⟨s1, s2, s3, s4, ⟨t1, t2, t3⟩, ⟨l1, l2, l3⟩, -⟩ := (S.1 c c40).2
  obtain ⟨u1, u2, u3, u4⟩ := C.2.2.2 c c40
  obtain ⟨⟨k0, k1, k2⟩, hv⟩ := u4 lv
  obtain ⟨N, rfl⟩ : ∃ N : Nat, n = (N : Int) := ⟨n.toNat, by omega⟩
  obtain ⟨y1, y2, y3, y4⟩ := hv N (by omega)
  obtain ⟨z1, ⟨z2, z3⟩, -⟩ := T _ k0 k1 N (by omega)
  have hm := P.1.2.1
  have e40 : wadd (wmul 40 (c : Int)) (N : Int) = ((40 * c + N : Nat) : Int) := by rw [wmul_e (by omega) (by omega), wadd_e (by omega) (by omega)]; omega
  obtain ⟨j, hj⟩ : ∃ j, hI hr 404 c = j := ⟨_, rfl⟩
  rw [hj] at k0 k1 k2 y1 z1 z2 z3
  have Q := P.2.2.1 j k0 k1
  have e404 : aIs hr 404 40 (c : Int) = some j := by rw [aIs_s (by omega) (by omega), Int.toNat_natCast, hj]
  have e405 : wIs hr 405 1600 ((40 * c + N : Nat) : Int) v = some (sI hr 405 (40 * c + N) v) := by rw [wIs_s (by omega) (by omega), Int.toNat_natCast]
  have e406 : wIs hr 406 1600 ((40 * c + N : Nat) : Int) v = some (sI hr 406 (40 * c + N) v) := by rw [wIs_s (by omega) (by omega), Int.toNat_natCast]
  have e407 : aIs hr 407 1600 ((40 * c + N : Nat) : Int) = some (hI hr 407 (40 * c + N)) := by rw [aIs_s (by omega) (by omega), Int.toNat_natCast]
  have e237 : c237 0 j (N : Int) hr = some (fAt hr 0 j N) := c237_w P.1 (by omega) (by omega) (.inr ⟨k0, k1⟩)
  have e248 : c248 0 j (N : Int) hr = some (sAt hr 0 j N) := c248_w P.1 (by omega) (by omega) (.inr ⟨k0, k1⟩)
  have e111 : c111 (kd hc p j) (N : Int) hc = some (kd hc p (sAt hr 0 j N)) := by
    rw [c111_e Q.1, if_pos n0, Int.toNat_natCast, z2]
  have e106 : c106 (kd hc p j) (N : Int) hc = some (if fAt hr 0 j N = -1 then 0 else 1) := by
    rw [c106_e Q.1, Int.toNat_natCast, z1]
    by_cases cc : fAt hr 0 j N = -1
    · rw [if_pos cc, if_neg (by simp)]
    · rw [if_neg cc, if_pos ⟨n0, by omega⟩]
  have e260 : c260 (c : Int) (N : Int) hr = some (if fAt hr 0 j N = -1 then (if sAt hr 0 j N = -1 then (if hI hr 407 (40 * c + N) = 0 then -1 else 2) else 1) else 0) := by
    unfold c260
    rw [e404]
    simp only [bsome]
    rw [e237]
    simp only [bsome]
    by_cases cc : fAt hr 0 j N = -1
    · rw [if_pos cc, if_pos cc, e248]
      simp only [bsome]
      by_cases cs : sAt hr 0 j N = -1
      · rw [if_pos cs, if_pos cs, e40, e407]
        simp only [bsome]
        by_cases cl : hI hr 407 (40 * c + N) = 0
        · rw [if_pos cl, if_pos cl]
        · rw [if_neg cl, if_neg cl]
      · rw [if_neg cs, if_neg cs]
    · rw [if_neg cc, if_neg cc]
  have bs : ∀ o : Option hS, o.bind (fun h => some h) = o := fun o => by cases o <;> rfl
  have eC : c125 (215 + 4 * c) (N : Int) v hc = if fAt hr 0 j N = -1 then (hnul (kd hc p (sAt hr 0 j N))).bind (fun b7 => if b7 = true then (c108 (N : Int) hc).bind (fun v8 => if v8 = 0 then c125_j81 hc else (gR hc (215 + 4 * c) 16 4).bind (fun v11 => (aI hc v11 3 (N : Int)).bind (fun v12 => if v12 = 0 then c125_j81 hc else (gR hc (215 + 4 * c) 16 5).bind (fun v14 => (wI hc v14 1 (N : Int) v).bind (fun h15 => some h15))))) else (gR hc (kd hc p (sAt hr 0 j N)) 24 10).bind (fun v16 => (gR hc (kd hc p j) 24 16).bind (fun v17 => (aI hc v17 1 (N : Int)).bind (fun v18 => (wI hc v16 1 v18 v).bind (fun h19 => some h19))))) else (gR hc (215 + 4 * c) 16 3).bind (fun v20 => (wI hc v20 1 (N : Int) v).bind (fun h21 => some h21)) := by
    unfold c125
    rw [gR_s s1]
    simp only [bsome]
    rw [k2, kT_s Q.1.2.2.1]
    simp only [bsome]
    rw [e111]
    simp only [bsome]
    rw [e106]
    simp only [bsome]
    by_cases cc : fAt hr 0 j N = -1
    · rw [if_pos cc, if_pos cc, if_pos rfl]
    · rw [if_neg cc, if_neg cc, if_neg (by omega)]
  by_cases cc : fAt hr 0 j N = -1
  · rw [if_pos cc] at eC e260
    by_cases cs : sAt hr 0 j N = -1
    · rw [if_pos cs] at e260
      rw [cs, kd_m, hnul_0] at eC
      simp only [bsome] at eC
      rw [if_pos trivial, c108_e, if_pos n0] at eC
      simp only [bsome] at eC
      rw [if_neg (show ¬ (1 : Int) = 0 by omega), gR_s s1] at eC
      simp only [bsome] at eC
      rw [s3, aI_s t2 (by omega) (by rw [l2]; omega), Int.toNat_natCast] at eC
      simp only [bsome] at eC
      by_cases cl : hI hc (215 + 4 * c + 2) N = 0
      · rw [if_pos (by rw [y3]; exact cl)] at e260
        rw [if_pos cl] at eC
        refine .inr ⟨eC.trans (bs _), ?_⟩
        unfold c263
        refine bnd e260 ?_
        refine (if_pos rfl).trans ?_
        unfold c261
        rfl
      · rw [if_neg (by rw [y3]; exact cl)] at e260
        rw [if_neg cl, gR_s s1] at eC
        simp only [bsome] at eC
        rw [s4, wI_s t3 (by omega) (by rw [l3]; omega), Int.toNat_natCast] at eC
        refine .inl ⟨_, _, eC, ?_, RT_cre R c40 (by omega) lv (.inr ⟨rfl, rfl⟩), fp_sI (.inl (by omega)), fp_sI (.inr (.inl rfl))⟩
        unfold c263
        refine bnd e260 ?_
        rw [if_neg (by omega), if_neg (by omega), if_pos rfl, hw, e40, e406]
        rfl
    · rw [if_neg cs] at e260
      obtain ⟨⟨b0, b1⟩, b2⟩ := (sAt_b (n := (N : Int)) P.1 (.inr ⟨k0, k1⟩)).resolve_left cs
      have Qs := P.2.2.1 _ b0 b1
      obtain ⟨x1, x2, x3⟩ := sIx_lt P.1 b0 b1 b2
      obtain ⟨-, -, -, w4, -⟩ := P.1.2.2 _ b0 b1
      rw [hnul_8 (by have := Qs.1.1; omega)] at eC
      simp only [bsome] at eC
      rw [if_neg (by decide), gR_s Qs.1.2.2.1] at eC
      simp only [bsome] at eC
      rw [gR_s Q.1.2.2.1, (KD10 Qs.1).1, (KD16 Q.1).1] at eC
      simp only [bsome] at eC
      rw [aI_s (KD16 Q.1).2.1 (by omega) (by rw [(KD16 Q.1).2.2]; omega), Int.toNat_natCast, z3 cs] at eC
      simp only [bsome] at eC
      rw [wI_s (KD10 Qs.1).2.1 (by omega) (by rw [(KD10 Qs.1).2.2]; omega)] at eC
      have e9 := RT_sta (v := v) R (i := (sIx hr 0 (sAt hr 0 j N) N).toNat) b0 b1 (by omega)
      rw [show (((sIx hr 0 (sAt hr 0 j N) N).toNat : Nat) : Int) = sIx hr 0 (sAt hr 0 j N) N by omega] at e9
      refine .inl ⟨_, _, eC, ?_, e9, fp_sI (.inr ⟨_, b0, b1, rfl⟩), fp_sI (.inr (.inr ⟨rfl, by omega⟩))⟩
      unfold c263
      refine bnd e260 ?_
      rw [if_neg (by omega), if_neg (by omega), if_neg (by omega), e404]
      refine bnd rfl ?_
      refine bnd e248 ?_
      refine bnd rfl ?_
      refine bnd e248 ?_
      refine bnd (c208_w P.1 (by omega) (by omega) b0 b1) ?_
      rw [wadd_e (by omega) (by omega), hw]
      exact bnd (c201_e (by omega) (by omega) b0 (by omega) (by omega) (by omega)) rfl
  · rw [if_neg cc] at eC e260
    rw [gR_s s1] at eC
    simp only [bsome] at eC
    rw [s2, wI_s t1 (by omega) (by rw [l1]; omega), Int.toNat_natCast] at eC
    refine .inl ⟨_, _, eC, ?_, RT_cre R c40 (by omega) lv (.inl ⟨by rw [hj]; exact cc, rfl, rfl⟩), fp_sI (.inl (by omega)), fp_sI (.inl rfl)⟩
    unfold c263
    refine bnd e260 ?_
    rw [if_neg (by omega), if_pos rfl, hw, e40, e405]
    rfl
end STP2
