/-! patch: both alike -/
section PTE
variable {hc hr hc' hr' : hS}
/-- the patch is put behind the others -/
theorem c95_e {S κ : Nat} (hk : hI hc 48 4 = (κ : Int)) (h6 : κ < 6) (h448 : 448 ≤ hN hc) : ∃ h', c95 S hc = some ((κ : Int), h') ∧ (hN h' = hN hc + 1 ∧ hM h' = hM hc + 2) ∧ (∀ x j, hI h' x j = if x = 48 ∧ j = 4 then ((κ + 1 : Nat) : Int) else if x = hN hc then 0 else hI hc x j) ∧ (∀ x j, hR h' x j = if x = 50 ∧ j = κ then hN hc else if x = hN hc then (if j = 0 then S else 0) else hR hc x j) ∧ (∀ x, hT h' x = if x = hN hc then 26 else hT hc x) ∧ (∀ x, hL h' x = if x = hN hc then 2 else hL hc x) := by
  have t3 : hT (mkH hc 26 2) (hN hc) = 26 := by rw [hT_mk, if_pos rfl]
  have e96 : c96 (hN hc) S (mkH hc 26 2) = some (sR (sI (mkH hc 26 2) (hN hc) 1 0) (hN hc) 0 S) := by
    unfold c96
    rw [k8_s (by omega)]
    simp only [bsome]
    rw [pI_s t3]
    simp only [bsome]
    rw [pR_s (h := sI (mkH hc 26 2) (hN hc) 1 0) (x := hN hc) (t := 26) t3]
    rfl
  refine ⟨sI (sR (sR (sI (mkH hc 26 2) (hN hc) 1 0) (hN hc) 0 S) 50 κ (hN hc)) 48 4 ((κ + 1 : Nat) : Int), ?_, ⟨rfl, rfl⟩, fun x j => ?_, fun x j => ?_, fun x => ?_, fun x => ?_⟩
  · have i48 : hI (sR (sI (mkH hc 26 2) (hN hc) 1 0) (hN hc) 0 S) 48 4 = (κ : Int) := by
      rw [hI_sR, hI_sI, if_neg (by omega), hI_mk, if_neg (by omega)]
      exact hk
    unfold c95 c93
    rw [hk, if_pos (show (κ : Int) < 6 by omega)]
    simp only [bsome]
    rw [if_pos trivial, k8_s (by omega)]
    simp only [bsome]
    rw [e96]
    simp only [bsome]
    have k48 : hI (mkH hc 26 2) 48 4 = (κ : Int) := by rw [hI_mk, if_neg (by omega)]; exact hk
    rw [show wRs (sR (sI (mkH hc 26 2) (hN hc) 1 0) (hN hc) 0 S) 50 6 26 (κ : Int) (hN hc) = some (sR (sR (sI (mkH hc 26 2) (hN hc) 1 0) (hN hc) 0 S) 50 (κ : Int).toNat (hN hc)) from if_pos ⟨⟨by omega, by omega⟩, .inr t3⟩, Int.toNat_natCast]
    simp only [bsome]
    rw [hI_sR, i48, wadd_n (by omega), hI_sI, if_pos ⟨rfl, rfl⟩, wsub_e (by omega) (by omega)]
    rw [show ((κ + 1 : Nat) : Int) - 1 = (κ : Int) by omega]
  · rw [hI_sI, hI_sR, hI_sR, hI_sI, hI_mk]
    by_cases c : x = 48 ∧ j = 4
    · rw [if_pos c, if_pos c]
    · rw [if_neg c, if_neg c]
      by_cases c2 : x = hN hc
      · rw [if_pos c2]
        split <;> rfl
      · rw [if_neg c2, if_neg (fun z => c2 z.1)]
  · rw [hR_sI, hR_sR, hR_sR, hR_sI, hR_mk]
    by_cases c : x = 50 ∧ j = κ
    · rw [if_pos c, if_pos c]
    · rw [if_neg c, if_neg c]
      by_cases c2 : x = hN hc
      · by_cases c3 : j = 0
        · rw [if_pos (show x = hN hc ∧ j = 0 from ⟨c2, c3⟩), if_pos c2, if_pos c3]
        · rw [if_neg (show ¬ (x = hN hc ∧ j = 0) from fun z => c3 z.2), if_pos c2, if_pos c2, if_neg c3]
      · rw [if_neg (show ¬ (x = hN hc ∧ j = 0) from fun z => c2 z.1), if_neg c2, if_neg c2]
  · show hT (mkH hc 26 2) x = _
    rw [hT_mk]
  · show hL (mkH hc 26 2) x = _
    rw [hL_mk]
/-- what a new patch leaves -/
def PXq (hc hr hc' hr' : hS) (κ : Nat) : Prop := (448 ≤ hR hc' 50 κ ∧ hN hc ≤ hR hc' 50 κ ∧ hR hc' 50 κ < hN hc' ∧ hT hc' (hR hc' 50 κ) = 26 ∧ hI hc' (hR hc' 50 κ) 1 = 0) ∧ hI hr' 402 κ = 0 ∧ PK1 hc' hr' (hN hc) κ ∧ (hI hc' 48 4 = ((κ + 1 : Nat) : Int) ∧ hI hr' 395 25 = ((κ + 1 : Nat) : Int))
  ∧ ((hN hc ≤ hN hc' ∧ hM hc ≤ hM hc') ∧ ∀ x, x < hN hc → hT hc' x = hT hc x ∧ hL hc' x = hL hc x ∧ (∀ j, ¬ ((x = 15 ∧ (j = 11 ∨ j = 12)) ∨ (x = 50 ∧ j = κ)) → hR hc' x j = hR hc x j) ∧ ∀ j, ¬ (x = 11 ∨ x = 12 ∨ x = 13 ∨ x = 16 ∨ x = 17 ∨ (x = 9 ∧ (j = 5 ∨ j = 1)) ∨ (x = 15 ∧ 2 ≤ j ∧ j ≤ 10) ∨ (x = 48 ∧ j = 4)) → hI hc' x j = hI hc x j)
  ∧ (hr'.2.1 = hr.2.1 ∧ hr'.2.2.2 = hr.2.2.2 ∧ (∀ x j, ¬ ((x = 399 ∧ (42000 ≤ j ∨ (6000 * (κ + 1) ≤ j ∧ j < 6000 * (κ + 1) + 6000))) ∨ (x = 400 ∧ 769 ≤ j ∧ j < 1538) ∨ ((x = 401 ∨ x = 402) ∧ j = κ) ∨ (x = 395 ∧ ((1 ≤ j ∧ j ≤ 5) ∨ j = 7 ∨ j = 9 ∨ (11 ≤ j ∧ j ≤ 14) ∨ (16 ≤ j ∧ j ≤ 22) ∨ j = 24 ∨ j = 25))) → hI hr' x j = hI hr x j) ∧ (∀ x j, ¬ (x = 397 ∨ x = 398 ∨ (x = 395 ∧ j = 10)) → hJ hr' x j = hJ hr x j))
theorem LSt_up {N0 N1 S A q : Nat} {xs : List Nat} (L : LSt hc N0 S xs A q) (e : N1 ≤ N0) : LSt hc N1 S xs A q := by
  obtain ⟨⟨a1, a2⟩, b, c, d⟩ := L
  refine ⟨⟨by omega, a2⟩, b, ?_, fun i x hx => ?_⟩
  · rcases c with c | c
    · exact .inl c
    · exact .inr ⟨by omega, c.2⟩
  · obtain ⟨d1, d2, d3⟩ := d i x hx
    exact ⟨d1, by omega, d3⟩
/-- patch answers alike, and leaves both alike -/
theorem patch_e {κ : Nat} (Q : RQ hc hr) (E6 : hT hc 6 = 19 ∧ hL hc 6 = 0) (F : fltR hc hr) (k1 : hI hc 48 4 = (κ : Int)) (k2 : hI hr 395 25 = (κ : Int)) (k6 : κ ≤ 6) : ∃ (v : Int) (hc' hr' : hS), c92 hc = some (v, hc') ∧ c227 hr = some (v, hr') ∧ (tpR hc' hr' ∧ (hI hr' 395 9 = 0 ∨ lrn hr') ∧ nmR hc' hr' ∧ fltR hc' hr' ∧ 0 ≤ hI hc' 15 7) ∧ ((v = -1 ∧ FX hc hc' ∧ FY2 hr hr') ∨ (κ < 6 ∧ v = (κ : Int) ∧ PXq hc hr hc' hr' κ)) ∧ hN hc' ≤ hN hc + 1165 ∧ hM hc' ≤ hM hc + 13000 := by
  have h448 := Q.2.2.2.2.2.2.2
  by_cases c : κ = 6
  · -- six are kept
    obtain ⟨TP, -, H, N, -, -, q7, -⟩ := Q
    have e92 : c92 hc = some (-1, sI (sI (sI hc 9 1 0) 15 4 0) 15 5 (-1)) := by
      unfold c92 c93 c94 c43
      rw [k1, if_neg (by omega)]
      simp only [bsome]
      rw [if_neg (by omega)]
    have e227 : c227 hr = some (-1, sI (sI (sI (sI hr 395 11 0) 395 13 0) 395 14 (-1)) 395 1 0) := by
      unfold c227
      rw [k2, if_pos (by omega)]
      refine bnd rfl ?_
      refine bnd c224_e ?_
      have e11 : hI (sI hr 395 11 0) 395 11 = 0 := by rw [hI_sI, if_pos ⟨rfl, rfl⟩]
      rw [e11, if_pos rfl]
    refine ⟨-1, _, _, e92, e227, ⟨⟨?_, ?_, fun i hi => ?_⟩, ?_, ?_, ⟨?_, ?_⟩, ?_⟩, .inl ⟨rfl, ⟨⟨Nat.le_refl _, Nat.le_refl _⟩, fun x hx => ⟨rfl, rfl, fun _ _ => rfl, fun j hj => ?_⟩⟩, ⟨rfl, rfl, fun x j hx => ?_, fun _ _ _ => rfl⟩⟩, Nat.le_add_right _ _, Nat.le_add_right _ _⟩
    · rw [hI_sI, if_neg (by omega), hI_sI, if_neg (by omega), hI_sI, if_pos ⟨rfl, rfl⟩, hI_sI, if_pos ⟨rfl, rfl⟩]
    · rw [hI_sI, if_neg (by omega), hI_sI, if_neg (by omega), hI_sI, if_pos ⟨rfl, rfl⟩]
      omega
    · rw [hI_sI, if_neg (by omega), hI_sI, if_neg (by omega), hI_sI, if_pos ⟨rfl, rfl⟩] at hi
      omega
    · rcases H with H | H
      · refine .inl ?_
        rw [hI_sI, if_neg (by omega), hI_sI, if_neg (by omega), hI_sI, if_neg (by omega), hI_sI, if_neg (by omega)]
        exact H
      · refine .inr ⟨?_, H.2⟩
        rw [hI_sI, if_neg (by omega), hI_sI, if_neg (by omega), hI_sI, if_neg (by omega), hI_sI, if_neg (by omega)]
        exact H.1
    · refine nmR_r (nmR_c N ?_ (fun j => ?_)) ?_ (fun _ => rfl)
      · rw [hI_sI, if_neg (by omega), hI_sI, if_neg (by omega), hI_sI, if_neg (by omega)]
      · rw [hI_sI, if_neg (by omega), hI_sI, if_neg (by omega), hI_sI, if_neg (by omega)]
      · rw [hI_sI, if_neg (by omega), hI_sI, if_neg (by omega), hI_sI, if_neg (by omega), hI_sI, if_neg (by omega)]
    · rw [hI_sI, if_neg (by omega), hI_sI, if_pos ⟨rfl, rfl⟩, hI_sI, if_neg (by omega), hI_sI, if_neg (by omega), hI_sI, if_pos ⟨rfl, rfl⟩]
    · rw [hI_sI, if_pos ⟨rfl, rfl⟩, hI_sI, if_neg (by omega), hI_sI, if_pos ⟨rfl, rfl⟩]
    · rw [hI_sI, if_neg (by omega), hI_sI, if_neg (by omega), hI_sI, if_neg (by omega)]
      exact q7
    · rw [hI_sI, if_neg (by omega), hI_sI, if_neg (by omega), hI_sI, if_neg (by omega)]
    · rw [hI_sI, if_neg (by omega), hI_sI, if_neg (by omega), hI_sI, if_neg (by omega), hI_sI, if_neg (by omega)]
  · have h6 : κ < 6 := by omega
    obtain ⟨x, hr1, v3, y, n, b, hn, e42, a1, a2, a3, E⟩ := patch_r Q E6
    have e92 : c92 hc = (c42 0 hc).bind (fun v3 => if v3.1 = 0 then some ((-1), v3.2) else (c95 (hR v3.2 15 12) v3.2).bind (fun v5 => some (v5.1, v5.2))) := by
      unfold c92 c93
      rw [k1, if_pos (show (κ : Int) < 6 by omega)]
      refine bnd rfl ?_
      exact if_pos rfl
    have e227 : c227 hr = (c224 y.2).bind (fun h10 => if y.1 = 0 then some ((-1), h10) else (c225 (wadd (hI h10 395 25) 1) h10).bind (fun h12 => (wIs h12 401 6 (hI h12 395 25) (wadd (wmul 1200 (wadd (hI h12 395 25) 1)) (hI v3.2 395 22))).bind (fun h13 => (wIs h13 402 6 (hI h13 395 25) 0).bind (fun h14 => (some (sI h14 395 25 (wadd (hI h14 395 25) 1))).bind (fun h15 => some ((wsub (hI h15 395 25) 1), h15)))))) := by
      unfold c227
      rw [k2, if_neg (by omega)]
      refine bnd a1 ?_
      refine bnd a2 ?_
      exact bnd a3 rfl
    rw [e42] at e92
    rcases E with ⟨hc1, hr2, z1, z2, z3, z4, z5, z6, z7⟩ | ⟨hc1, hr2, l', m', us, L, z1, z2, z3, z4, z5, z6⟩
    · rw [z1] at e92
      rw [z2] at e227
      obtain ⟨w1, w2, w3, w4, w5⟩ := tells_EN z5.1 z6 z7
      exact ⟨-1, hc1, _, e92.trans rfl, e227.trans (bnd c224_e (if_pos rfl)), ⟨w1, .inr w2, w3, w4, w5⟩, .inl ⟨rfl, z3, tells_FY z4⟩, z5.2.1, z5.2.2⟩
    · rw [z1] at e92
      rw [z2] at e227
      obtain ⟨P, hL, K1, hm, CS⟩ := z5
      obtain ⟨p1, p2, p3, p4, p5⟩ := PB_l P
      have prm := PB_rm P
      obtain ⟨-, r12, -⟩ := PB_t17 P
      have kk1 : hI hc1 48 4 = (κ : Int) := by rw [(z3.2 48 (by omega)).2.2.2 4 (by omega)]; exact k1
      obtain ⟨q, sl, A, Qr, B, -, LL, -, -, -, rm, wt⟩ := id P
      obtain ⟨BR, ⟨e11, Nm, -, -, e4, e5⟩, ⟨e7, e16, -⟩, -⟩ := B
      have Lr : lrn hr2 := BR.2.2.2.2.2
      obtain ⟨h', b1, ⟨b2, b3⟩, b4, b5, b6, b7⟩ := c95_e (S := hN hc) kk1 h6 (by omega)
      have e92' : c92 hc = some ((κ : Int), h') := by
        rw [e92]
        refine bnd rfl ?_
        refine (if_neg (show ¬ (1 : Int) = 0 by omega)).trans ?_
        show (c95 (hR hc1 15 12) hc1).bind _ = _
        rw [r12]
        exact bnd b1 rfl
      -- the other side
      obtain ⟨g1, eg1⟩ : ∃ g1, g1 = sI (sI (sI hr2 395 13 (hI hr2 395 11)) 395 14 (if hI hr2 395 11 = 0 then -1 else hI hr2 395 12)) 395 1 0 := ⟨_, rfl⟩
      have i1 : ∀ x j, hI g1 x j = if x = 395 ∧ j = 1 then 0 else if x = 395 ∧ j = 14 then -1 else if x = 395 ∧ j = 13 then 0 else hI hr2 x j := fun x j => by
        rw [eg1, hI_sI, hI_sI, hI_sI, e11, if_pos rfl]
      have o1 : g1.2 = hr2.2 := by rw [eg1]; rfl
      have kr1 : hI g1 395 25 = (κ : Int) := by
        rw [i1, if_neg (by omega), if_neg (by omega), if_neg (by omega), z4.2.2.1 395 25 (by omega)]
        exact k2
      have m16 : hI g1 395 16 = (m' : Int) := by rw [i1, if_neg (by omega), if_neg (by omega), if_neg (by omega)]; exact e16
      obtain ⟨g2, c1, c2, c3⟩ := c225_e (h := g1) (t := κ + 1) (m := m') (by omega) (by omega) m16
      have kr2 : hI g2 395 25 = (κ : Int) := by rw [c2.2 395 25 (by omega)]; exact kr1
      obtain ⟨f, hf⟩ : ∃ f : Nat, hI v3.2 395 22 = (f : Int) ∧ f ∈ L := by
        cases L with
        | nil => exact absurd rfl hL
        | cons f r => exact ⟨f, K1.1, List.mem_cons_self⟩
      have hfm := hm f hf.2
      obtain ⟨g3, eg3⟩ : ∃ g3, g3 = sI (sI (sI g2 401 κ (1200 * ((κ : Int) + 1) + (f : Int))) 402 κ 0) 395 25 ((κ + 1 : Nat) : Int) := ⟨_, rfl⟩
      have e227' : c227 hr = some ((κ : Int), g3) := by
        refine e227.trans ?_
        refine bnd (c224_e.trans (congrArg some eg1.symm)) ?_
        refine (if_neg (show ¬ (1 : Int) = 0 by omega)).trans ?_
        rw [kr1, wadd_n (by omega)]
        refine bnd c1 ?_
        rw [kr2, hf.1, wadd_n (by omega), wmul_e (by omega) (by omega), wadd_e (by omega) (by omega), wIs_s (by omega) (by omega), Int.toNat_natCast]
        refine bnd rfl ?_
        rw [hI_sI, if_neg (by omega), kr2, wIs_s (by omega) (by omega), Int.toNat_natCast]
        refine bnd rfl ?_
        rw [hI_sI, if_neg (by omega), hI_sI, if_neg (by omega), kr2, wadd_n (by omega)]
        refine bnd rfl ?_
        rw [hI_sI, if_pos ⟨rfl, rfl⟩, wsub_e (by omega) (by omega), eg3]
        rw [show ((κ + 1 : Nat) : Int) - 1 = (κ : Int) by omega, show (1200 : Int) * ((κ + 1 : Nat) : Int) + (f : Int) = 1200 * ((κ : Int) + 1) + (f : Int) by omega]
      have i3 : ∀ x j, hI g3 x j = if x = 395 ∧ j = 25 then ((κ + 1 : Nat) : Int) else if x = 402 ∧ j = κ then 0 else if x = 401 ∧ j = κ then 1200 * ((κ : Int) + 1) + (f : Int) else hI g2 x j := fun x j => by
        rw [eg3, hI_sI, hI_sI, hI_sI]
      have j3 : g3.2 = hr2.2 := by
        rw [← o1, ← c2.1, eg3]
        rfl
      have eJ : ∀ x j, hJ g3 x j = hJ hr2 x j := fun x j => by
        show g3.2.2.1 x j = hr2.2.2.1 x j
        rw [j3]
      have low : ∀ x j, x ≠ 399 → x ≠ 401 → x ≠ 402 → ¬ (x = 395 ∧ (j = 25 ∨ j = 1 ∨ j = 13 ∨ j = 14)) → hI g3 x j = hI hr2 x j := fun x j h1 h2 h3 h4 => by
        rw [i3, if_neg (by omega), if_neg (by omega), if_neg (by omega), c2.2 x j (by omega), i1, if_neg (by omega), if_neg (by omega), if_neg (by omega)]
      have nt : ∀ i, i < m' → ∀ j, j < 5 → ntx g3 (κ + 1) i j = nd hr2 i j := fun i hi j hj => by
        have y1 : ntx g3 (κ + 1) i j = ntx g2 (κ + 1) i j := by
          unfold ntx
          rw [i3, if_neg (by omega), if_neg (by omega), if_neg (by omega)]
        have y2 : nd g1 i j = nd hr2 i j := by
          unfold nd
          rw [i1, if_neg (by omega), if_neg (by omega), if_neg (by omega)]
        exact y1.trans ((c3 i hi j hj).trans y2)
      have sA : ∀ x, x < hN hc1 → x ≠ 48 → x ≠ 50 → sm hc1 h' x := fun x hx h1 h2 => ⟨fun j => by rw [b4, if_neg (by omega), if_neg (by omega)], fun j => by rw [b5, if_neg (by omega), if_neg (by omega)], by rw [b6, if_neg (by omega)], by rw [b7, if_neg (by omega)]⟩
      have kpp : KP hc1 h' := ⟨by omega, fun y y1 y2 _ _ => sA y y2 (by omega) (by omega)⟩
      have twn := tkW_n (n := n) (b := b) (l := l') hn
      have lowU : ∀ x ∈ us, hN hc ≤ x ∧ x < hN hc1 := fun x hx => ⟨(p4 x hx).1, (p4 x hx).2.1⟩
      have eP : hR h' 50 κ = hN hc1 := by rw [b5, if_pos ⟨rfl, rfl⟩]
      have LL2 : LSt h' (hN hc) (hN hc) us A Qr := by
        refine LSt_c LL (by omega) (sA (hN hc) LL.1.2.1 (by omega) (by omega)) ?_ (fun y hy => ?_)
        · rcases LL.2.2.1 with z | z
          · exact sA A (by omega) (by omega) (by omega)
          · exact sA A (by omega) (by omega) (by omega)
        · have := lowU y hy
          exact (sA y (by omega) (by omega) (by omega)).2.2.1
      have PK : PK1 h' g3 (hN hc) κ := by
        refine ⟨h448, hN hc, A, Qr, us, L, f, ?_, LL2, ?_, ?_, fun j hj => by have := hm j hj; omega, ?_, by omega, ?_⟩
        · rw [eP, b5, if_neg (by omega), if_pos rfl, if_pos rfl]
        · rw [i3, if_neg (by omega), if_neg (by omega), if_pos ⟨rfl, rfl⟩]
        · rw [← hf.1]
          exact LK_cg K1 (fun j hj => nt j (hm j hj) 4 (by omega))
        · refine CHS_im (fun c j zs hj hzs q => CH_up (CH_c q (fun t ht u hu => nt t (by have := hm j hj; omega) u (by omega)) (fun t _ ht u hu => nt t (by have := hm j hj; omega) u hu) (fun u hu => nt j (hm j hj) u (by omega)) kpp h448 (fun x hx => lowU x (hzs x hx))) (Nat.le_refl _) (Nat.le_refl _)) CS
        · have e0 : ∀ s, kc h' s us = kc hc1 s us := fun s => kc_cg us (fun x hx => (sA x (lowU x hx).2 (by have := lowU x hx; omega) (by have := lowU x hx; omega)).1 0)
          rw [e0, e0]
          omega
      refine ⟨(κ : Int), h', g3, e92', e227', ⟨⟨?_, ?_, fun i hi => ?_⟩, .inr ⟨?_, fun i hi => ?_⟩, ?_, ⟨?_, ?_⟩, ?_⟩, .inr ⟨h6, rfl, ⟨by omega, by omega, by omega, ?_, ?_⟩, ?_, PK, ⟨?_, ?_⟩, ⟨⟨by omega, by have := z3.1.2; omega⟩, fun x hx => ⟨?_, ?_, fun j hj => ?_, fun j hj => ?_⟩⟩, ⟨?_, ?_, fun x j hx => ?_, fun x j hx => ?_⟩⟩, by omega, by omega⟩
      · rw [b4, if_neg (by omega), if_neg (by omega), z6, i3, if_neg (by omega), if_neg (by omega), if_neg (by omega), c2.2 395 1 (by omega), i1, if_pos ⟨rfl, rfl⟩]
      · rw [b4, if_neg (by omega), if_neg (by omega), z6]; omega
      · rw [b4, if_neg (by omega), if_neg (by omega), z6] at hi; omega
      · rw [low 395 9 (by omega) (by omega) (by omega) (by omega)]; exact Lr.1
      · rw [eJ]; exact Lr.2 i hi
      · exact nmR_r (nmR_c Nm (by rw [b4, if_neg (by omega), if_neg (by omega)]) (fun j => by rw [b4, if_neg (by omega), if_neg (by omega)])) (low 395 7 (by omega) (by omega) (by omega) (by omega)) (fun j => eJ 397 j)
      · rw [b4, if_neg (by omega), if_neg (by omega), e4, i3, if_neg (by omega), if_neg (by omega), if_neg (by omega), c2.2 395 13 (by omega), i1, if_neg (by omega), if_neg (by omega), if_pos ⟨rfl, rfl⟩]
      · rw [b4, if_neg (by omega), if_neg (by omega), e5, i3, if_neg (by omega), if_neg (by omega), if_neg (by omega), c2.2 395 14 (by omega), i1, if_neg (by omega), if_pos ⟨rfl, rfl⟩]
      · rw [b4, if_neg (by omega), if_neg (by omega), e7]; omega
      · rw [eP, b6, if_pos rfl]
      · rw [eP, b4, if_neg (by omega), if_pos rfl]
      · rw [i3, if_neg (by omega), if_pos ⟨rfl, rfl⟩]
      · rw [b4, if_pos ⟨rfl, rfl⟩]
      · rw [i3, if_pos ⟨rfl, rfl⟩]
      · rw [b6, if_neg (by omega)]; exact (z3.2 x hx).1
      · rw [b7, if_neg (by omega)]; exact (z3.2 x hx).2.1
      · rw [b5, if_neg (by omega), if_neg (by omega)]; exact (z3.2 x hx).2.2.1 j (by omega)
      · rw [b4, if_neg (by omega), if_neg (by omega)]; exact (z3.2 x hx).2.2.2 j (by omega)
      · rw [j3]; exact z4.1
      · rw [j3]; exact z4.2.1
      · rw [i3, if_neg (by omega), if_neg (by omega), if_neg (by omega), c2.2 x j (by omega), i1, if_neg (by omega), if_neg (by omega), if_neg (by omega)]
        exact z4.2.2.1 x j (by omega)
      · rw [eJ]; exact z4.2.2.2 x j hx
end PTE
