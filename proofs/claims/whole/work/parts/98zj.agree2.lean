/-! worlds that agree in what they are made of -/
/-- world w' of h' has the kinds and members of world w of h -/
def agx (w w' : Int) (m : Nat) (h h' : hS) : Prop := ∀ k f : Int, 0 ≤ k → k < m → 0 ≤ f → f < 64 → ¬ (f = 2 ∨ f = 3 ∨ f = 4 ∨ (14 ≤ f ∧ f < 30) ∨ (35 ≤ f ∧ f < 39) ∨ 48 ≤ f) → wg h' w' k f = wg h w k f
section AGX
variable {hr hr' : hS} {m : Nat} {r : Int → Nat} {u n w w' : Int}
theorem fIx_x (a : agx w w' m hr hr') (W : WF hr w m r) (u0 : 0 ≤ u) (u1 : u < m) : fIx hr' w' u n = fIx hr w u n := by
  obtain ⟨-, -, w3, -, -⟩ := W.2.2 u u0 u1
  unfold fIx
  rw [a u 5 u0 u1 (by omega) (by omega) (by omega)]
  exact ix_congr (fun i hi => a u _ u0 u1 (by omega) (by omega) (by omega))
theorem sIx_x (a : agx w w' m hr hr') (W : WF hr w m r) (u0 : 0 ≤ u) (u1 : u < m) : sIx hr' w' u n = sIx hr w u n := by
  obtain ⟨-, -, -, w4, -⟩ := W.2.2 u u0 u1
  unfold sIx
  rw [a u 30 u0 u1 (by omega) (by omega) (by omega)]
  exact ix_congr (fun i hi => a u _ u0 u1 (by omega) (by omega) (by omega))
theorem aIx_x (a : agx w w' m hr hr') (W : WF hr w m r) (u0 : 0 ≤ u) (u1 : u < m) : aIx hr' w' u n = aIx hr w u n := by
  obtain ⟨-, -, -, -, w5⟩ := W.2.2 u u0 u1
  unfold aIx
  rw [a u 39 u0 u1 (by omega) (by omega) (by omega)]
  exact ix_congr (fun i hi => a u _ u0 u1 (by omega) (by omega) (by omega))
theorem hOw_x (a : agx w w' m hr hr') (W : WF hr w m r) (u0 : 0 ≤ u) (u1 : u < m) : hOw hr' w' u n = hOw hr w u n := by
  unfold hOw
  rw [fIx_x a W u0 u1, sIx_x a W u0 u1]
theorem clb_x {P P' : Int → Bool} (a : agx w w' m hr hr') (W : WF hr w m r) (h : ∀ u : Int, 0 ≤ u → u < m → P' u = P u) (f : Nat) (hu : u = -1 ∨ (0 ≤ u ∧ u < m)) : clb P' (fun u => wg hr' w' u 1) f u = clb P (fun u => wg hr w u 1) f u :=
  clb_eq (ok := fun u => 0 ≤ u ∧ u < m) (fun u hu => ⟨h u hu.1 hu.2, a u 1 hu.1 hu.2 (by omega) (by omega) (by omega), WF_up W hu⟩) f u hu
theorem fAt_x (a : agx w w' m hr hr') (W : WF hr w m r) (hu : u = -1 ∨ (0 ≤ u ∧ u < m)) : fAt hr' w' u n = fAt hr w u n := clb_x a W (fun u u0 u1 => by rw [fIx_x a W u0 u1]) 13 hu
theorem sAt_x (a : agx w w' m hr hr') (W : WF hr w m r) (hu : u = -1 ∨ (0 ≤ u ∧ u < m)) : sAt hr' w' u n = sAt hr w u n := clb_x a W (fun u u0 u1 => by rw [sIx_x a W u0 u1]) 13 hu
theorem aAt_x (a : agx w w' m hr hr') (W : WF hr w m r) (hu : u = -1 ∨ (0 ≤ u ∧ u < m)) : aAt hr' w' u n = aAt hr w u n := clb_x a W (fun u u0 u1 => by rw [aIx_x a W u0 u1]) 13 hu
theorem CF_x (a : agx w w' m hr hr') (W : WF hr w m r) (C : CF hr w m) : CF hr' w' m := by
  intro j j0 j1
  obtain ⟨c1, c2, c3, c4⟩ := C j j0 j1
  obtain ⟨-, -, w3, w4, -⟩ := W.2.2 j j0 j1
  refine ⟨fun x y hx hy h => ?_, fun x y hx hy h => ?_, fun n h => ?_, fun n h => ?_⟩
  · rw [a j 5 j0 j1 (by omega) (by omega) (by omega)] at hx hy
    rw [a j _ j0 j1 (by omega) (by omega) (by omega), a j _ j0 j1 (by omega) (by omega) (by omega)] at h
    exact c1 x y hx hy h
  · rw [a j 30 j0 j1 (by omega) (by omega) (by omega)] at hx hy
    rw [a j _ j0 j1 (by omega) (by omega) (by omega), a j _ j0 j1 (by omega) (by omega) (by omega)] at h
    exact c2 x y hx hy h
  · rw [fIx_x a W j0 j1] at h
    rw [sIx_x a W j0 j1]
    exact c3 n h
  · rw [hOw_x a W j0 j1] at h
    rw [a j 1 j0 j1 (by omega) (by omega) (by omega), clb_x a W (fun u u0 u1 => hOw_x a W u0 u1) 13 (WF_up W ⟨j0, j1⟩)]
    exact c4 n h
theorem WF_x (a : agx w w' m hr hr') (W : WF hr w m r) (em : wm hr' w' = wm hr w) : WF hr' w' m r := by
  refine ⟨by rw [em]; exact W.1, W.2.1, fun k k0 k1 => ?_⟩
  rw [a k 1 k0 k1 (by omega) (by omega) (by omega), a k 5 k0 k1 (by omega) (by omega) (by omega), a k 30 k0 k1 (by omega) (by omega) (by omega), a k 39 k0 k1 (by omega) (by omega) (by omega)]
  exact W.2.2 k k0 k1
end AGX
/-! the state in which acts run -/
/-- the pond p beside world 0, the creatures, the codes apart -/
def RT (hc hr : hS) (K : Nat → Int → Prop) (p m q : Nat) (r : Int → Nat) : Prop := SH hc ∧ PW hc hr K p 0 m r ∧ TB hc hr p 0 m ∧ CR hc hr p m q ∧ (p = 213 ∨ 448 ≤ p) ∧ ∀ x v, K x v → (448 ≤ x ∧ x < hN hc ∧ hT hc x = 1) ∧ ∀ j : Int, 0 ≤ j → j < m → x < kd hc p j ∨ kd hc p j + 13 ≤ x
/-- a name is looked up alike, for the creature that stands at a -/
def NVq (hc hr : hS) (a c : Nat) : Prop := ∀ n : Int, 0 ≤ n ∧ n < 40 → (∃ v : Int, c122 a n hc = c121 v hc ∧ ∀ (β : Type) (L : Int → Option β) (Z : Option β), ((c260 (c : Int) n hr).bind (fun v16 => if v16 = -1 then Z else if v16 = 0 then (aIs hr 405 1600 (wadd (wmul 40 (c : Int)) n)).bind L else if v16 = 2 then (aIs hr 406 1600 (wadd (wmul 40 (c : Int)) n)).bind L else (aIs hr 404 40 (c : Int)).bind (fun v20 => (c248 0 v20 n hr).bind (fun v21 => (aIs hr 404 40 (c : Int)).bind (fun v22 => (c248 0 v22 n hr).bind (fun v23 => (c208 0 v23 n hr).bind (fun v24 => (c199 0 v21 (wadd 35 v24) hr).bind L))))))) = L v) ∨ (c122 a n hc = c123 1001 hc ∧ c260 (c : Int) n hr = some (-1))
/-- the creature that stands at a, beside the other side's c -/
def C1a (hc hr : hS) (p m a c : Nat) : Prop := (0 ≤ hI hr 404 c ∧ hI hr 404 c < m ∧ hR hc a 2 = kd hc p (hI hr 404 c)) ∧ ∀ n : Nat, n < 40 → (fAt hr 0 (hI hr 404 c) n ≠ -1 → hI hc (a + 1) n = hI hr 405 (40 * c + n)) ∧ (hI hc (a + 2) n = 0 ∨ hI hc (a + 2) n = 1) ∧ hI hr 407 (40 * c + n) = hI hc (a + 2) n ∧ (hI hc (a + 2) n = 1 → hI hc (a + 3) n = hI hr 406 (40 * c + n))
section RTS
variable {hc hr hc' hr' : hS} {K : Nat → Int → Prop} {p m q : Nat} {r : Int → Nat}
theorem KD_o {h : hS} {k : Nat} (Q : KD h k) {o : Nat} (h1 : 1 ≤ o) (h12 : o ≤ 12) : hT h (k + o) ≠ 24 := by
  rcases (show o = 1 ∨ o = 2 ∨ o = 3 ∨ o = 4 ∨ o = 5 ∨ o = 6 ∨ o = 7 ∨ o = 8 ∨ o = 9 ∨ o = 10 ∨ o = 11 ∨ o = 12 by omega) with e | e | e | e | e | e | e | e | e | e | e | e <;> subst e
  · rw [(KD5 Q).2.1]; omega
  · rw [(KD6 Q).2.1]; omega
  · rw [(KD7 Q).2.1]; omega
  · rw [(KD9 Q).2.1]; omega
  · rw [(KD10 Q).2.1]; omega
  · rw [(KD12 Q).2.1]; omega
  · rw [(KD13 Q).2.1]; omega
  · rw [(KD14 Q).2.1]; omega
  · rw [(KD15 Q).2.1]; omega
  · rw [(KD16 Q).2.1]; omega
  · rw [(KD17 Q).2.1]; omega
  · rw [(KD18 Q).2.1]; omega
/-- two kinds don't lie over each other -/
theorem KD_d {h : hS} {k k' : Nat} (Q : KD h k) (Q' : KD h k') (n : k ≠ k') : k + 13 ≤ k' ∨ k' + 13 ≤ k := by
  by_cases c : k < k'
  · by_cases c2 : k + 13 ≤ k'
    · exact .inl c2
    · exfalso
      have := KD_o Q (o := k' - k) (by omega) (by omega)
      rw [show k + (k' - k) = k' by omega] at this
      exact this Q'.2.2.1
  · by_cases c2 : k' + 13 ≤ k
    · exact .inr c2
    · exfalso
      have := KD_o Q' (o := k - k') (by omega) (by omega)
      rw [show k' + (k - k') = k by omega] at this
      exact this Q.2.2.1
theorem kd_ne (P : PW hc hr K p 0 m r) {i j : Int} (i0 : 0 ≤ i) (i1 : i < m) (j0 : 0 ≤ j) (j1 : j < m) (n : i ≠ j) : kd hc p i + 13 ≤ kd hc p j ∨ kd hc p j + 13 ≤ kd hc p i := by
  have Q := P.2.2.1 i i0 i1
  have Q' := P.2.2.1 j j0 j1
  refine KD_d Q.1 Q'.1 (fun e => n (P.2.2.2 i j i0 i1 j0 j1 ?_))
  rw [← Q.2.1.1, ← Q'.2.1.1, e]
/-- cells of the runner alone are other -/
theorem RT_c (R : RT hc hr K p m q r) (a : chg (fun x => (20 ≤ x ∧ x ≤ 47) ∨ (375 ≤ x ∧ x < 395)) hc hc') (er : ∀ x j, (x = 400 ∨ (403 ≤ x ∧ x ≤ 407) ∨ (x = 395 ∧ j = 33)) → hI hr' x j = hI hr x j) : RT hc' hr' K p m q r := by
  obtain ⟨S, P, T, C, hp, D⟩ := R
  have ew : ∀ k f, wg hr' 0 k f = wg hr 0 k f := fun k f => er 400 _ (.inl rfl)
  have em : wm hr' 0 = wm hr 0 := er 400 _ (.inl rfl)
  have sp : same (pnd hc p) hc hc' := chg_same a (fun x hx => by
    rcases hx.1 with z | z | ⟨z, -⟩ <;> omega)
  have sc : same crc hc hc' := chg_same a (fun x hx => by unfold crc at hx; omega)
  have n := a.2.2.2.1
  refine ⟨SH_cg S (fun x j hx => (a.2.2.2.2.2 x (by omega) j).2) a.2.1 a.2.2.1 (fun x j h1 h2 _ => (a.2.2.2.2.2 x (by omega) j).2) (fun c hc40 => ⟨(a.2.2.2.2.2 _ (by omega) 0).1, (a.2.2.2.2.2 _ (by omega) 0).1⟩), PW_cg P sp (by omega) ew em (fun _ _ h => h), TB_cg P T sp ew, CR_cg P C sp sc (a.2.2.2.2.2 8 (by omega) 8).1 ew (fun x j h1 h2 => er x j (by omega)) (er 395 33 (by omega)), hp, fun x v hx => ?_⟩
  obtain ⟨⟨d1, d2, d3⟩, d4⟩ := D x v hx
  exact ⟨⟨d1, by omega, by rw [a.2.1]; exact d3⟩, fun j j0 j1 => by rw [kd_cg P sp]; exact d4 j j0 j1⟩
/-- a name is looked up by both, for the creature c -/
theorem NVg {a c c0 : Nat} (S : SHc hc a c0) (P : PW hc hr K p 0 m r) (T : TB hc hr p 0 m) (c40 : c < 40) (Q1 : C1a hc hr p m a c) : NVq hc hr a c := by
  intro n n0
  obtain ⟨s1, s2, s3, s4, ⟨t1, t2, t3⟩, ⟨l1, l2, l3⟩, -⟩ := S
  obtain ⟨⟨k0, k1, k2⟩, hv⟩ := Q1
  obtain ⟨N, rfl⟩ : ∃ N : Nat, n = (N : Int) := ⟨n.toNat, by omega⟩
  obtain ⟨y1, y2, y3, y4⟩ := hv N (by omega)
  obtain ⟨z1, ⟨z2, z3⟩, -⟩ := T _ k0 k1 N (by omega)
  have hm := P.1.2.1
  have e40 : wadd (wmul 40 (c : Int)) (N : Int) = ((40 * c + N : Nat) : Int) := by rw [wmul_e (by omega) (by omega), wadd_e (by omega) (by omega)]; omega
  generalize hj : hI hr 404 c = j at *
  have Q := P.2.2.1 j k0 k1
  have e404 : aIs hr 404 40 (c : Int) = some j := by rw [aIs_s (by omega) (by omega), Int.toNat_natCast, hj]
  have e405 : aIs hr 405 1600 ((40 * c + N : Nat) : Int) = some (hI hr 405 (40 * c + N)) := by rw [aIs_s (by omega) (by omega), Int.toNat_natCast]
  have e406 : aIs hr 406 1600 ((40 * c + N : Nat) : Int) = some (hI hr 406 (40 * c + N)) := by rw [aIs_s (by omega) (by omega), Int.toNat_natCast]
  have e407 : aIs hr 407 1600 ((40 * c + N : Nat) : Int) = some (hI hr 407 (40 * c + N)) := by rw [aIs_s (by omega) (by omega), Int.toNat_natCast]
  have e237 : c237 0 j (N : Int) hr = some (fAt hr 0 j N) := c237_w P.1 (by omega) (by omega) (.inr ⟨k0, k1⟩)
  have e248 : c248 0 j (N : Int) hr = some (sAt hr 0 j N) := c248_w P.1 (by omega) (by omega) (.inr ⟨k0, k1⟩)
  have e111 : c111 (kd hc p j) (N : Int) hc = some (kd hc p (sAt hr 0 j N)) := by
    rw [c111_e Q.1, if_pos n0, Int.toNat_natCast, z2]
  have e106 : c106 (kd hc p j) (N : Int) hc = some (if fAt hr 0 j N = -1 then 0 else 1) := by
    rw [c106_e Q.1, Int.toNat_natCast, z1]
    by_cases cc : fAt hr 0 j N = -1
    · rw [if_pos cc, if_neg (by simp)]
    · rw [if_neg cc, if_pos ⟨n0, by omega⟩]
  have e260 : c260 (c : Int) (N : Int) hr = some (if fAt hr 0 j N = -1 then (if sAt hr 0 j N = -1 then (if hI hr 407 (40 * c + N) = 0 then -1 else 2) else 1) else 0) := by
    unfold c260
    rw [e404]
    simp only [bsome]
    rw [e237]
    simp only [bsome]
    by_cases cc : fAt hr 0 j N = -1
    · rw [if_pos cc, if_pos cc, e248]
      simp only [bsome]
      by_cases cs : sAt hr 0 j N = -1
      · rw [if_pos cs, if_pos cs, e40, e407]
        simp only [bsome]
        by_cases cl : hI hr 407 (40 * c + N) = 0
        · rw [if_pos cl, if_pos cl]
        · rw [if_neg cl, if_neg cl]
      · rw [if_neg cs, if_neg cs]
    · rw [if_neg cc, if_neg cc]
  have eC : c122 a (N : Int) hc = if fAt hr 0 j N = -1 then (hnul (kd hc p (sAt hr 0 j N))).bind (fun b7 => if b7 = true then (c108 (N : Int) hc).bind (fun v8 => if v8 = 0 then c122_j86 hc else (gR hc a 16 4).bind (fun v11 => (aI hc v11 3 (N : Int)).bind (fun v12 => if v12 = 0 then c122_j86 hc else (gR hc a 16 5).bind (fun v14 => (aI hc v14 1 (N : Int)).bind (fun v15 => (c121 v15 hc).bind (fun h16 => some h16)))))) else (gR hc (kd hc p (sAt hr 0 j N)) 24 10).bind (fun v17 => (gR hc (kd hc p j) 24 16).bind (fun v18 => (aI hc v18 1 (N : Int)).bind (fun v19 => (aI hc v17 1 v19).bind (fun v20 => (c121 v20 hc).bind (fun h21 => some h21)))))) else (gR hc a 16 3).bind (fun v22 => (aI hc v22 1 (N : Int)).bind (fun v23 => (c121 v23 hc).bind (fun h24 => some h24))) := by
    unfold c122
    rw [gR_s s1]
    simp only [bsome]
    rw [k2, kT_s Q.1.2.2.1]
    simp only [bsome]
    rw [e111]
    simp only [bsome]
    rw [e106]
    simp only [bsome]
    by_cases cc : fAt hr 0 j N = -1
    · rw [if_pos cc, if_pos cc, if_pos rfl]
    · rw [if_neg cc, if_neg cc, if_neg (by omega)]
  have bs : ∀ o : Option hS, o.bind (fun h => some h) = o := fun o => by cases o <;> rfl
  by_cases cc : fAt hr 0 j N = -1
  · rw [if_pos cc] at eC e260
    by_cases cs : sAt hr 0 j N = -1
    · rw [if_pos cs] at e260
      rw [cs, kd_m, hnul_0] at eC
      simp only [bsome] at eC
      rw [if_pos trivial, c108_e, if_pos n0] at eC
      simp only [bsome] at eC
      rw [if_neg (show ¬ (1 : Int) = 0 by omega), gR_s s1] at eC
      simp only [bsome] at eC
      rw [s3, aI_s t2 (by omega) (by rw [l2]; omega), Int.toNat_natCast] at eC
      simp only [bsome] at eC
      by_cases cl : hI hc (a + 2) N = 0
      · rw [if_pos (by rw [y3]; exact cl)] at e260
        rw [if_pos cl] at eC
        refine .inr ⟨eC.trans ?_, e260⟩
        exact bs _
      · rw [if_neg (by rw [y3]; exact cl)] at e260
        rw [if_neg cl, gR_s s1] at eC
        simp only [bsome] at eC
        rw [s4, aI_s t3 (by omega) (by rw [l3]; omega), Int.toNat_natCast] at eC
        simp only [bsome] at eC
        rw [bs] at eC
        refine .inl ⟨_, eC, fun β L Z => ?_⟩
        rw [e260]
        simp only [bsome]
        rw [if_neg (by omega), if_neg (by omega), if_pos trivial, e40, e406]
        simp only [bsome]
        rw [y4 (by omega)]
    · rw [if_neg cs] at e260
      obtain ⟨⟨b0, b1⟩, b2⟩ := (sAt_b (n := (N : Int)) P.1 (.inr ⟨k0, k1⟩)).resolve_left cs
      have Qs := P.2.2.1 _ b0 b1
      obtain ⟨x1, x2, x3⟩ := sIx_lt P.1 b0 b1 b2
      obtain ⟨-, -, -, w4, -⟩ := P.1.2.2 _ b0 b1
      rw [hnul_8 (by have := Qs.1.1; omega)] at eC
      simp only [bsome] at eC
      rw [if_neg (by decide), gR_s Qs.1.2.2.1] at eC
      simp only [bsome] at eC
      rw [gR_s Q.1.2.2.1, (KD10 Qs.1).1, (KD16 Q.1).1] at eC
      simp only [bsome] at eC
      rw [aI_s (KD16 Q.1).2.1 (by omega) (by rw [(KD16 Q.1).2.2]; omega), Int.toNat_natCast, z3 cs] at eC
      simp only [bsome] at eC
      rw [aI_s (KD10 Qs.1).2.1 (by omega) (by rw [(KD10 Qs.1).2.2]; omega)] at eC
      simp only [bsome] at eC
      rw [bs] at eC
      refine .inl ⟨_, eC, fun β L Z => ?_⟩
      rw [e260]
      simp only [bsome]
      rw [if_neg (by omega), if_neg (by omega), if_neg (by omega), e404]
      simp only [bsome]
      rw [e248]
      simp only [bsome]
      rw [c208_w P.1 (by omega) (by omega) b0 b1]
      simp only [bsome]
      rw [wadd_e (by omega) (by omega), c199_e (by omega) (by omega) b0 (by omega) (by omega) (by omega)]
      simp only [bsome]
      have := (Qs.2.2.2.2.2.1.2 (sIx hr 0 (sAt hr 0 j N) N).toNat (by omega)).2.1
      rw [this, show (((sIx hr 0 (sAt hr 0 j N) N).toNat : Nat) : Int) = sIx hr 0 (sAt hr 0 j N) N by omega]
  · rw [if_neg cc] at eC e260
    rw [gR_s s1] at eC
    simp only [bsome] at eC
    rw [s2, aI_s t1 (by omega) (by rw [l1]; omega), Int.toNat_natCast] at eC
    simp only [bsome] at eC
    rw [bs] at eC
    refine .inl ⟨_, eC, fun β L Z => ?_⟩
    rw [e260]
    simp only [bsome]
    rw [if_neg (by omega), if_pos trivial, e40, e405]
    simp only [bsome]
    rw [y1 cc]
theorem NVr (R : RT hc hr K p m q r) {c : Nat} (c40 : c < 40) (lv : hI hc (215 + 4 * c) 1 = 1) {n : Int} (n0 : 0 ≤ n ∧ n < 40) : (∃ v : Int, c122 (215 + 4 * c) n hc = c121 v hc ∧ ∀ (β : Type) (L : Int → Option β) (Z : Option β), ((c260 (c : Int) n hr).bind (fun v16 => if v16 = -1 then Z else if v16 = 0 then (aIs hr 405 1600 (wadd (wmul 40 (c : Int)) n)).bind L else if v16 = 2 then (aIs hr 406 1600 (wadd (wmul 40 (c : Int)) n)).bind L else (aIs hr 404 40 (c : Int)).bind (fun v20 => (c248 0 v20 n hr).bind (fun v21 => (aIs hr 404 40 (c : Int)).bind (fun v22 => (c248 0 v22 n hr).bind (fun v23 => (c208 0 v23 n hr).bind (fun v24 => (c199 0 v21 (wadd 35 v24) hr).bind L))))))) = L v) ∨ (c122 (215 + 4 * c) n hc = c123 1001 hc ∧ c260 (c : Int) n hr = some (-1)) := NVg (R.1.1 c c40).2 R.2.1 R.2.2.1 c40 ((R.2.2.2.1.2.2.2 c c40).2.2.2 lv) n n0
end RTS
