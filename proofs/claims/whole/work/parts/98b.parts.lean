/-! the value of a member, the body of an act -/
section VBD
variable {n l p m d sl : Nat} {b : Nat → Int} {hc hr hc' hr' : hS}
theorem BS_of {k : Nat} {val : Int} (B : BX sl n b l p m d hc hr) (R : RD n b k hc' hr') (hk : l ≤ k) (f : fp (fun x j => x = 15 ∧ (j = 3 ∨ j = 10)) hc hc') (g : fj (sI hr 395 24 val) hr') : BX sl n b k p m d hc' hr' := by
  obtain ⟨-, ⟨F, N, t, l16⟩, ⟨b1, b2, b3⟩, ⟨b4, b5⟩, b6⟩ := B
  have eg : ∀ j, j ≠ 2 → j ≠ 3 → j ≠ 4 → j ≠ 5 → j ≠ 24 → hI hr' 395 j = hI hr 395 j := fun j h2 h3 h4 h5 h24 => by
    rw [g.2.2.1 395 j (by omega), hI_sI, if_neg (by omega)]
  refine ⟨R, ⟨?_, nmR_r (nmR_c N (f.2 15 2 (by omega)) (fun j => f.2 16 j (by omega))) (eg 7 (by omega) (by omega) (by omega) (by omega) (by omega)) (fun j => g.2.2.2 397 j (by omega)), ?_, ?_⟩, ⟨?_, ?_, ?_⟩, ⟨by omega, by omega⟩, ?_⟩
  · rw [eg 11 (by omega) (by omega) (by omega) (by omega) (by omega)]; exact F
  · show hc'.2.2.2.1 16 = 1
    rw [f.1]; exact t
  · refine ⟨?_, by rw [f.2 15 4 (by omega)]; exact l16.2.1, by rw [f.2 15 5 (by omega)]; exact l16.2.2⟩
    show hc'.2.2.2.2.1 16 = 40
    rw [f.1]; exact l16.1
  · rw [f.2 15 7 (by omega)]; exact b1
  · rw [eg 16 (by omega) (by omega) (by omega) (by omega) (by omega)]; exact b2
  · rw [eg 18 (by omega) (by omega) (by omega) (by omega) (by omega)]; exact b3
  · intro hs; rw [eg 20 (by omega) (by omega) (by omega) (by omega) (by omega), f.2 15 8 (by omega)]; exact b6 hs
def RV (sr : Int) (h : hS) : Option (Int × hS) := (some (sI h 395 24 (-1))).bind (fun h8 => if sr = 103 then some (1, h8) else (c202 61 h8).bind (fun v21 => if v21.1 = 0 then some (0, v21.2) else c221 v21.2))
theorem FR_num {val : Int} (g : fj (sI hr 395 24 val) hr') : FR m hr hr' := FR_tr (FR_sI (by omega)) (FR_fj g)
/-- the value behind a member's name, up to the ; behind it -/
theorem VAL {s : Int} (hs : s = 202 ∨ s = 203 ∨ s = 204) (B : BX sl n b l p m d hc hr) : (∃ (k : Nat) (hc1 hr1 : hS) (val : Int), c62 s (sI hc 15 10 (-1)) = (c58 59 hc1).bind (fun v => (kB v.1).bind fun _ => some (v.1, v.2)) ∧ RV (s - 100) hr = some (1, hr1) ∧ hI hc1 15 10 = val ∧ hI hr1 395 24 = val ∧ BX sl n b k p m d hc1 hr1 ∧ l ≤ k ∧ FC p hc hc1 ∧ FR m hr hr1) ∨ (∃ (hc1 hr1 : hS), c62 s (sI hc 15 10 (-1)) = some (0, hc1) ∧ RV (s - 100) hr = some (0, hr1) ∧ FC p hc hc1 ∧ FR m hr hr1 ∧ FL hc1 hr1) := by
  have B0 : BX sl n b l p m d (sI hc 15 10 (-1)) (sI hr 395 24 (-1)) := BS_r (BS_c B rfl (fun x j hx => by rw [hI_sI, if_neg (by omega)]) (by rw [hI_sI, if_neg (by omega)]; exact B.2.2.1.1) B.2.2.2.1.1) (fun x j hx => by rw [hI_sI, if_neg (by omega)]) (fun _ _ _ => rfl) (by rw [hI_sI, if_neg (by omega)]; exact B.2.2.1.2.1) (by rw [hI_sI, if_neg (by omega)]; exact B.2.2.1.2.2) B.2.2.2.1.2
  have f0 : FC p hc (sI hc 15 10 (-1)) := FC_sI (by omega)
  have g0 : FR m hr (sI hr 395 24 (-1)) := FR_sI (by omega)
  have e10 : hI (sI hc 15 10 (-1)) 15 10 = -1 := by rw [hI_sI, if_pos ⟨rfl, rfl⟩]
  have e24 : hI (sI hr 395 24 (-1)) 395 24 = -1 := by rw [hI_sI, if_pos ⟨rfl, rfl⟩]
  unfold c62 RV
  simp only [bsome]
  generalize sI hc 15 10 (-1) = h0 at B0 f0 e10 ⊢
  generalize sI hr 395 24 (-1) = t0 at B0 g0 e24 ⊢
  by_cases c : s = 203
  · rw [if_pos c, if_pos (by omega)]
    exact .inl ⟨l, h0, t0, -1, rfl, rfl, e10, e24, B0, Nat.le_refl _, f0, g0⟩
  · rw [if_neg c, if_neg (by omega)]
    obtain ⟨hc2, hr2, fc2, fr2, ⟨e1, e2, B2, -, -⟩ | ⟨e1, e2, e3⟩⟩ := BS_ps B0 (c := 61) rfl
    · rw [e1, e2]
      simp only [bsome]
      rw [if_neg (show ¬ (1 : Int) = 0 by omega), if_neg (show ¬ (1 : Int) = 0 by omega)]
      rcases num_e B2.1 B2.2.1.1 with ⟨val, k, hc3, hr3, k1, k2, k3, k4, k5, k6, k7, k8⟩ | ⟨a, hc3, hr3, k1, k2, k3, k4, k5, k6, k7, k8⟩
      · refine .inl ⟨k, hc3, hr3, val, k1, k2, k3, k4, BS_of B2 k5 (by omega) k6 k7, by omega, FC_tr f0 (FC_tr fc2 (FC_fp k6 (fun x j hx => by omega))), FR_tr g0 (FR_tr fr2 (FR_num k7))⟩
      · refine .inr ⟨hc3, hr3, k1, k2, FC_tr f0 (FC_tr fc2 (FC_fp k7 (fun x j hx => by omega))), FR_tr g0 (FR_tr fr2 (FR_tr (FR_tr (FR_sI (by omega)) (FR_sI (by omega))) (FR_fj k8))), 1, a, by omega, k3, k4, k5, k6, ?_, by rw [k7.2 15 7 (by omega), B2.2.2.1.1]; omega⟩
        refine nmR_r (nmR_c B2.2.1.2.1 (k7.2 15 2 (by omega)) (fun j => k7.2 16 j (by omega))) ?_ (fun j => ?_)
        · rw [k8.2.2.1 395 7 (by omega), hI_sI, if_neg (by omega), hI_sI, if_neg (by omega)]
        · exact k8.2.2.2 397 j (by omega)
    · rw [e1, e2]
      simp only [bsome]
      exact .inr ⟨hc2, hr2, rfl, rfl, FC_tr f0 fc2, FR_tr g0 fr2, e3⟩
/-- the code is copied into a row of its own -/
theorem c74_e {q : Nat} (t17 : hT hc 17 = 1) (l17 : hL hc 17 = 4000) (hq : q < 4000) (hN8 : 18 ≤ hN hc) : ∃ h, c74 17 (q : Int) hc = some (hN hc, h) ∧ hN h = hN hc + 1 ∧ hM h = hM hc + q ∧ FZ (hN hc) hc h ∧ hT h (hN hc) = 1 ∧ hL h (hN hc) = q ∧ ∀ j, j < q → hI h (hN hc) j = hI hc 17 j := by
  have t1 : hT (mkH hc 1 q) 17 = 1 := by rw [hT_mk, if_neg (by omega)]; exact t17
  have l1 : hL (mkH hc 1 q) 17 = 4000 := by rw [hL_mk, if_neg (by omega)]; exact l17
  have t2 : hT (mkH hc 1 q) (hN hc) = 1 := by rw [hT_mk, if_pos rfl]
  have l2 : hL (mkH hc 1 q) (hN hc) = q := by rw [hL_mk, if_pos rfl]
  have hw : wmin 4000 (q : Int) = (q : Int) := by
    rw [wmin_e (rgn 4000 rfl) (rg_of (by omega) (by omega)), if_pos (by omega)]
  refine ⟨sCI (mkH hc 1 q) 17 0 (hN hc) 0 q, ?_, rfl, rfl, ⟨⟨Nat.le_succ _, Nat.le_add_right _ _⟩, fun x hx => ⟨fun j => ?_, fun j => ?_, ?_, ?_⟩⟩, t2, l2, fun j hj => ?_⟩
  · unfold c74
    rw [lA_s t17, l17]
    simp only [bsome]
    rw [if_neg (by omega), show nA hc 1 (q : Int) = some (mkH hc 1 q) from by unfold nA; rw [if_pos (by omega), Int.toNat_natCast]]
    simp only [bsome]
    rw [lA_s t1, l1]
    simp only [bsome]
    rw [show (((4000 : Nat) : Int)) = 4000 from rfl, hw]
    have e : cpI (mkH hc 1 q) 17 (hN hc) 1 0 0 (q : Int) = some (sCI (mkH hc 1 q) 17 0 (hN hc) 0 q) := by
      unfold cpI
      rw [if_pos ⟨⟨t1, t2, by omega, by omega⟩, by omega, by rw [l1]; omega, by rw [l2]; omega, .inl rfl⟩, Int.toNat_natCast]
      rfl
    rw [e]
    rfl
  · show (if x = hN hc ∧ 0 ≤ j ∧ j < 0 + q then _ else hI (mkH hc 1 q) x j) = _
    rw [if_neg (by omega), hI_mk, if_neg (by omega)]
  · show hR (mkH hc 1 q) x j = _
    rw [hR_mk, if_neg (by omega)]
  · show hT (mkH hc 1 q) x = _
    rw [hT_mk, if_neg (by omega)]
  · show hL (mkH hc 1 q) x = _
    rw [hL_mk, if_neg (by omega)]
  · show (if hN hc = hN hc ∧ 0 ≤ j ∧ j < 0 + q then hI (mkH hc 1 q) 17 (j - 0 + 0) else _) = _
    rw [if_pos ⟨rfl, by omega, by omega⟩, hI_mk, if_neg (by omega)]
    rfl
theorem B0_use {h t : hS} (B : BS n b l 0 m 0 h t) (hm : m ≤ l) : JJ 0 m h t (fun hc' hr' => ∃ l', BQ n b l 0 m 0 (hI h 15 8) l' hc' hr') (g63 120 63 [0] h) (g210 120 210 [1] t) := B0 l 0 m h t B hm
/-- the body of an act -/
theorem BODY (B : BX sl n b l p m d hc hr) (hm : m ≤ l) (t17 : hT hc 17 = 1) (l17 : hL hc 17 = 4000) (hN8 : 18 ≤ hN hc) : (∃ (l' m' : Nat) (C : List Int) (h1 h2 h3 t1 : hS), g63 120 63 [0] (sI (sI hc 15 7 0) 15 8 0) = some (1, h1) ∧ g210 120 210 [1] (sI (sI hr 395 20 0) 395 18 0) = some (1, t1) ∧ c65 0 h1 = some h2 ∧ c74 17 (hI h2 15 7) h2 = some (hN hc, h3) ∧ BS n b l' (C.length + 1) m' 0 h3 t1 ∧ (C.length + 2 * l + 4 ≤ 2 * l' ∧ m' + l + 2 ≤ m + l' ∧ m ≤ m') ∧ FK (hN hc) hc h3 ∧ (hN h3 = hN hc + 1 ∧ hM h3 = hM hc + (C.length + 1)) ∧ (∀ x, 18 ≤ x → x < hN hc → sm hc h3 x) ∧ FR m hr t1 ∧ hT h3 (hN hc) = 1 ∧ hL h3 (hN hc) = C.length + 1 ∧ (∀ (i : Nat) (z : Int), (C ++ [0])[i]? = some z → hI h3 (hN hc) i = z) ∧ BK (nd t1) m 13 m' 0 (hI t1 395 21) C) ∨ (∃ h1 t1 : hS, g63 120 63 [0] (sI (sI hc 15 7 0) 15 8 0) = some (0, h1) ∧ g210 120 210 [1] (sI (sI hr 395 20 0) 395 18 0) = some (0, t1) ∧ FK (hN hc) hc h1 ∧ FR m hr t1 ∧ FL h1 t1 ∧ hN h1 = hN hc ∧ hM h1 = hM hc) := by
  have B0 : BS n b l 0 m 0 (sI (sI hc 15 7 0) 15 8 0) (sI (sI hr 395 20 0) 395 18 0) := by
    obtain ⟨R, ⟨F, N, t, l16⟩, ⟨b1, b2, b3⟩, ⟨b4, b5⟩, b6⟩ := B
    refine ⟨RD_cgr (RD_cgc R (fun x j hx => by rw [hI_sI, if_neg (by omega), hI_sI, if_neg (by omega)])) (fun x j hx => by rw [hI_sI, if_neg (by omega), hI_sI, if_neg (by omega)]) (fun _ _ _ => rfl), ⟨?_, nmR_r (nmR_c N ?_ (fun j => ?_)) ?_ (fun _ => rfl), t, ⟨l16.1, by rw [hI_sI, if_neg (by omega), hI_sI, if_neg (by omega)]; exact l16.2.1, by rw [hI_sI, if_neg (by omega), hI_sI, if_neg (by omega)]; exact l16.2.2⟩⟩, ⟨?_, ?_, ?_⟩, ⟨by omega, b5⟩, fun _ => ⟨?_, ?_, ?_⟩⟩
    · rw [hI_sI, if_neg (by omega), hI_sI, if_neg (by omega)]; exact F
    · rw [hI_sI, if_neg (by omega), hI_sI, if_neg (by omega)]
    · rw [hI_sI, if_neg (by omega), hI_sI, if_neg (by omega)]
    · rw [hI_sI, if_neg (by omega), hI_sI, if_neg (by omega)]
    · rw [hI_sI, if_neg (by omega), hI_sI, if_pos ⟨rfl, rfl⟩]; rfl
    · rw [hI_sI, if_neg (by omega), hI_sI, if_neg (by omega)]; exact b2
    · rw [hI_sI, if_pos ⟨rfl, rfl⟩]; rfl
    · rw [hI_sI, if_neg (by omega), hI_sI, if_pos ⟨rfl, rfl⟩, hI_sI, if_pos ⟨rfl, rfl⟩]
    · rw [hI_sI, if_pos ⟨rfl, rfl⟩]; omega
    · rw [hI_sI, if_pos ⟨rfl, rfl⟩]; omega
  have k0 : FK (hN hc) hc (sI (sI hc 15 7 0) 15 8 0) := ⟨⟨Nat.le_refl _, Nat.le_refl _⟩, fun x hx => ⟨rfl, rfl, fun _ => rfl, fun j q => by rw [hI_sI, if_neg (by omega), hI_sI, if_neg (by omega)]⟩⟩
  have s0 : ∀ x, 18 ≤ x → sm hc (sI (sI hc 15 7 0) 15 8 0) x := fun x hx => ⟨fun j => by rw [hI_sI, if_neg (by omega), hI_sI, if_neg (by omega)], fun _ => rfl, rfl, rfl⟩
  have g0 : FR m hr (sI (sI hr 395 20 0) 395 18 0) := FR_tr (FR_sI (by omega)) (FR_sI (by omega))
  have n0 : hN (sI (sI hc 15 7 0) 15 8 0) = hN hc := rfl
  have m0 : hM (sI (sI hc 15 7 0) 15 8 0) = hM hc := rfl
  have t0 : hT (sI (sI hc 15 7 0) 15 8 0) 17 = 1 := t17
  have l0 : hL (sI (sI hc 15 7 0) 15 8 0) 17 = 4000 := l17
  generalize sI (sI hc 15 7 0) 15 8 0 = hA at B0 k0 s0 n0 m0 t0 l0 ⊢
  generalize sI (sI hr 395 20 0) 395 18 0 = tA at B0 g0 ⊢
  obtain ⟨h1, t1, f1, r1, ⟨e1, e2, l', m', C, B1, ⟨c1, c2, c3⟩, c4, A1, K1⟩ | ⟨e1, e2, e3⟩⟩ := B0_use B0 hm
  · obtain ⟨w1, B2⟩ := BS_w (v := 0) B1 (by omega)
    have rm := BS_room B2
    have f2 : FC 0 hA (sI (sI h1 17 (0 + C.length) 0) 15 7 ((0 + C.length + 1 : Nat) : Int)) := FC_tr f1 (FC_tr (FC_sI (by omega)) (FC_sI (by omega)))
    have A2 : cdA (sI (sI h1 17 (0 + C.length) 0) 15 7 ((0 + C.length + 1 : Nat) : Int)) 0 (C ++ [0]) := cdA_sn A1 rfl
    have p2 := B2.2.2.1.1
    generalize sI (sI h1 17 (0 + C.length) 0) 15 7 ((0 + C.length + 1 : Nat) : Int) = h2 at w1 B2 f2 A2 p2
    obtain ⟨fn, fm⟩ := FC_nm f2
    have k2 := FK_tr k0 (FK_FC (N0 := hN hc) f2)
    obtain ⟨h3, u1, u2, u3, u4, u5, u6, u7⟩ := c74_e (hc := h2) (q := 0 + C.length + 1) (by rw [(k2.2 17 (by omega)).1]; exact t17) (by rw [(k2.2 17 (by omega)).2.1]; exact l17) (by omega) (by omega)
    have en : hN h2 = hN hc := by rw [fn, n0]
    rw [en] at u1 u2 u4 u5 u6 u7
    refine .inl ⟨l', m', C, h1, h2, h3, t1, e1, e2, w1, by rw [p2]; exact u1, ?_, ⟨by omega, by omega, c3⟩, FK_tr k2 (FK_FZ u4), ⟨u2, by rw [u3, fm, m0]; omega⟩, fun x h18 hx => sm_tr (s0 x h18) (sm_tr (FC_x f2 x h18) (u4.2 x hx)), FR_tr g0 r1, u5, by rw [u6]; omega, fun i z hz => ?_, K1⟩
    · have := BS_z B2 u4 hN8
      rw [show 0 + C.length + 1 = C.length + 1 by omega] at this
      exact this
    · have hi : i < (C ++ [0]).length := by
        by_cases c : i < (C ++ [0]).length
        · exact c
        · rw [List.getElem?_eq_none (by omega)] at hz; cases hz
      simp at hi
      rw [u7 i (by omega)]
      have := A2 i z hz
      rw [Nat.zero_add] at this
      exact this
  · exact .inr ⟨h1, t1, e1, e2, FK_tr k0 (FK_FC f1), FR_tr g0 r1, e3, by rw [(FC_nm f1).1, n0], by rw [(FC_nm f1).2, m0]⟩
end VBD
