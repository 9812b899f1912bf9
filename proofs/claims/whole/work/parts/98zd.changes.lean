/-! patches: a change, alike -/
section CHG
variable {n l m N0 M0 q sl : Nat} {b : Nat → Int} {w : Int} {hc hr : hS} {us : List Nat}
theorem PB_r4 {v : Int} (P : PBt n b N0 M0 l w m us hc hr) : PBt n b N0 M0 l w m us hc (sI hr 395 24 v) := by
  obtain ⟨q0, sl0, A, Q, B0, hm0, r⟩ := P
  exact ⟨q0, sl0, A, Q, BS_r B0 (fun x j hx => by rw [hI_sI, if_neg (by omega)]) (fun _ _ _ => rfl) (by rw [hI_sI, if_neg (by omega)]; exact B0.2.2.1.2.1) (by rw [hI_sI, if_neg (by omega)]; exact B0.2.2.1.2.2) (by omega), hm0, r⟩
/-- under a name, or not -/
theorem UN (P : PBt n b N0 M0 l w m us hc hr) : (∃ s, c39 hc = some s ∧ s ≠ 201 ∧ c229 hr = some (1, sI hr 395 24 (-1)) ∧ PBt n b N0 M0 l w m us hc (sI hr 395 24 (-1))) ∨ (c39 hc = some 201 ∧ ∃ (v : Int) (hc1 hc2 hr2 : hS), sI hc 15 3 (wadd (hI hc 15 3) 1) = hc1 ∧ c45 hc1 = some (v, hc2) ∧ FC 0 hc hc2 ∧ FR m hr hr2 ∧ (((0 ≤ v ∧ v < 40) ∧ c229 hr = some (1, hr2) ∧ hI hr2 395 24 = v ∧ PBt n b N0 M0 (l + 2) (w - 2) m us hc2 hr2) ∨ (v = -1 ∧ c229 hr = some (0, hr2) ∧ FLR N0 M0 hc2 hr2))) := by
  have P0 := PB_r4 (v := -1) P
  obtain ⟨s, v0, pa, q2, q3, q4, h1, -⟩ := PB_at P0
  have wm := mtc q2
  have f0 : FR m hr (sI hr 395 24 (-1)) := FR_sI (by omega)
  have e : c229 hr = if hI (sI hr 395 24 (-1)) 395 3 = 101 then (c188 (sI hr 395 24 (-1))).bind (fun h3 => (c196 h3).bind (fun v4 => if v4.1 = 0 then some (0, v4.2) else (some (sI v4.2 395 24 (hI v4.2 395 17))).bind (fun h6 => some (1, h6)))) else some (1, sI hr 395 24 (-1)) := rfl
  rw [q4] at e
  by_cases c : s = 201
  · rw [if_pos (by omega)] at e
    obtain ⟨a0, hr1, a1, a2, P1⟩ := PB_adv (w' := w - 1) P0 (h1 (by omega)) (by have := tkW_1 (n := n) (b := b) (l := l) (PB_l P).2.2.2.2; omega)
    rw [a1] at e
    simp only [bsome] at e
    obtain ⟨f, v, hc2, hr2, g1, g2, fc2, fr2, g⟩ := PB_nm P1
    rw [g2] at e
    simp only [bsome] at e
    have fcA : FC 0 hc hc2 := FC_tr (FC_sI (by omega)) fc2
    have frA : FR m hr hr2 := FR_tr f0 (FR_tr (FR_fj a2) fr2)
    rcases g with ⟨rfl, v1, v2, P2, hl2⟩ | ⟨rfl, rfl, L1⟩
    · rw [if_neg (show ¬ (1 : Int) = 0 by omega), v2] at e
      refine .inr ⟨by rw [q3, c], v, _, hc2, sI hr2 395 24 v, rfl, by rw [a0]; exact g1, fcA, FR_tr frA (FR_sI (by omega)), .inl ⟨v1, e, by rw [hI_sI, if_pos ⟨rfl, rfl⟩], PB_w (PB_r4 P2) (by omega)⟩⟩
    · rw [if_pos rfl] at e
      exact .inr ⟨by rw [q3, c], -1, _, hc2, hr2, rfl, by rw [a0]; exact g1, fcA, frA, .inr ⟨rfl, e, L1⟩⟩
  · rw [if_neg (by omega)] at e
    exact .inl ⟨s, q3, c, e, P0⟩
/-- what a change leaves -/
def CQ (n : Nat) (b : Nat → Int) (N0 M0 l m : Nat) (us : List Nat) (hc hr hc' hr' : hS) : Prop := ∃ (l' m' : Nat) (ys : List Nat) (i : Nat), l + 2 ≤ l' ∧ PBt n b N0 M0 l' 0 m' (us ++ ys) hc' hr' ∧ KP hc hc' ∧ (∀ t, t < m → ∀ j, j < 5 → nd hr' t j = nd hr t j) ∧ (m ≤ i ∧ i < m') ∧ hI hr' 395 22 = (i : Int) ∧ nd hr' i 4 = -1 ∧ CHg (nd hr') hc' N0 m (hI hc 15 9) i ys ∧ (∀ x ∈ ys, N0 ≤ x ∧ x < hN hc')
/-- what is above a new kind is known: the kind, with its members -/
theorem KIe {v a : Int} {lA : Nat} {hcA hrA : hS} (P : PBt n b N0 M0 l 0 m us hc hr) (PA : PBt n b N0 M0 lA w m us hcA hrA) (hl : l + 2 ≤ lA) (ht : (tkW n b l : Int) + 5 ≤ (tkW n b lA : Int)) (fc : FC 0 hc hcA) (fr : FR m hr hrA) (v0 : 0 ≤ v ∧ v < 40) (ha : nmo a) (e24 : hI hrA 395 24 = a) : JK N0 M0 hcA hrA (CQ n b N0 M0 l m us hc hr) (c44_j142 v a hcA) ((c230 0 hrA).bind (fun v29 => if v29.1 = 0 then some (0, v29.2) else (c218 40 v (hI hrA 395 24) (hI v29.2 395 21) v29.2).bind (fun v31 => (some (sI v31.2 395 22 v31.1)).bind (fun h32 => some (1, h32))))) := by
  obtain ⟨hl0, hN0, hm, hx0, hlt⟩ := PB_l P
  obtain ⟨qq, sl, A, Q, BA, hmA, -⟩ := id PA
  have F0 : FK N0 hc hcA := FK_FC fc
  have nA := FC_nm fc
  have p9 : hI (mkH hcA 22 6) 15 9 = hI hc 15 9 := by rw [hI_mk, if_neg (by omega)]; exact FC_9 fc
  obtain ⟨h5, h6, y1, y2, y3, y3', y4, P6, y5, y6, y7, y8, y9, y10⟩ := PB_add (s := 200) (k := v) (nm := -1) (o := a) (cd := 0) (w' := 2) P BA hmA hl F0 (SA_FC fc) ⟨by omega, by omega⟩ (by rw [if_pos rfl]; omega)
  unfold c44_j142
  simp only [bsome]
  rw [k8_s (by omega), p9]
  simp only [bsome]
  rw [y1]
  simp only [bsome]
  rw [y3', hnul_0]
  simp only [bsome]
  rw [if_pos trivial, y2, kT_s y3]
  simp only [bsome]
  rw [y4]
  simp only [bsome]
  unfold c44_j205 c230
  refine JK_re y10 FW_rf ?_
  obtain ⟨hc7, hr7, f7, g7, ⟨e1, e2, P7, e7, j7⟩ | ⟨e1, e2, L7⟩⟩ := PB_ps P6 (c := 123) rfl
  · rw [e1, e2]
    simp only [bsome]
    rw [if_neg (show ¬ (1 : Int) = 0 by omega), if_neg (show ¬ (1 : Int) = 0 by omega)]
    have eC : ((lp (fun s => c44_b219 v 0 s.1 s.2) hF0 (0, hc7)).bind (fun r23 => xs r23 (fun x23 => (c58 125 x23).bind (fun v24 => (kB v24.1).bind (fun u25 => some (v24.1, v24.2)))) (fun o23 => some o23))) = seFx (c59 v 0) hc7 := rfl
    have eR : ((lp (fun s => c230_b15 0 s.1 s.2.1 s.2.2) hF0 ((-1), (-1), hr7)).bind (fun r12 => xs r12 (fun x12 => (c188 x12.2).bind (fun h13 => some (1, sI h13 395 21 x12.1))) (fun o12 => some o12))) = seGx (c204 (-1)) hr7 := rfl
    rw [eC, eR]
    refine JK_re f7 g7 ?_
    obtain ⟨hc8, hr8, f8, g8, ⟨x1, x2, l', m', ys, L, f, ⟨z1, z1'⟩, P8, z2, z3, z4, z5, z6, z7, z8, z9, z10⟩ | ⟨x1, x2, L8⟩⟩ := SEV (kn := v) (e := 0) (F := c59 v 0) (G := c204 (-1)) (fun l m w us hc hr P => RMp P) P7 (by omega)
    · rw [x1, x2]
      simp only [bsome]
      rw [if_neg (show ¬ (1 : Int) = 0 by omega)]
      obtain ⟨q8, sl8, A8, Q8, B8, hm8, r8⟩ := id P8
      obtain ⟨t2, n1, B9, g2, ⟨d0, d1, d2, d3, d4⟩, e22, -⟩ := BS_nt (s := 40) (x := v) (y := hI hrA 395 24) (z := hI hr8 395 21) (t := 22) (.inr rfl) B8 (by omega)
      rw [n1]
      simp only [bsome]
      have hN6 := y9
      have k78 : KP h6 hc8 := KP_tr (KP_FC (by rw [e7]; exact FC_sI (p := 0) (by omega))) z2
      have nj : ∀ t, t < m' → ∀ j, j < 5 → nd (sI t2 395 22 (m' : Int)) t j = nd hr8 t j := fun t ht j hj => nd_FR g2 ht hj
      have nm7 : ∀ t j, nd hr7 t j = nd hrA t j := fun t j => j7.2.2.1 399 _ (by omega)
      have e9 : hI hc7 15 9 = hI hc 15 9 := by
        rw [e7, hI_sI, if_neg (by omega)]
        exact (y6.2 15 (by omega)).2.2.2 9 (by omega)
      rw [e9] at z9
      refine JK_ok f8 (FW_tr g8 (FW_FR g2)) ⟨l', m' + 1, [hN hcA] ++ ys, m', by omega, ?_, KP_tr y7 k78, fun t ht j hj => by rw [nj t (by omega) j hj, z3 t ht j hj, nm7, nd_FR fr ht hj], ⟨z4, by omega⟩, e22, d4, ⟨by rw [d1]; exact v0, hN hcA, ys, rfl, .inl ⟨d0, by rw [d2, e24]; exact ha, ?_, L, ?_, ?_, ?_⟩⟩, ?_⟩
      · rw [← List.append_assoc]
        exact ⟨q8, sl8, A8, Q8, B9, by omega, r8.1, r8.2.1, r8.2.2.1, r8.2.2.2.1, r8.2.2.2.2.1, by have := r8.2.2.2.2.2; omega⟩
      · rw [d1, d2, e24]
        exact SPc_h y5 (KP_sm k78 (by omega) y9.2 y5.1 (by omega) (by omega))
      · rw [d3, z5]
        exact LK_cg z6 (fun j hj => nj j (z7 j hj).2 4 (by omega))
      · intro j hj
        exact ⟨z7 j hj, by rw [nj j (z7 j hj).2 0 (by omega)]; exact z8 rfl j hj⟩
      · rw [d1]
        exact MES_im (fun j x' hj hx q => ME_n q (fun t ht u hu => nj t (by have := z7 j hj; omega) u (by omega)) (fun t _ ht u hu => nj t (by have := z7 j hj; omega) u hu) (fun u hu => nj j (z7 j hj).2 u (by omega))) z9
      · intro x hx
        rcases List.mem_append.mp hx with hx | hx
        · rw [List.mem_singleton.mp hx]
          have := k78.1
          omega
        · exact z10 x hx
    · rw [x1, x2]
      simp only [bsome]
      exact JK_no f8 g8 L8
  · rw [e1, e2]
    simp only [bsome]
    exact JK_no f7 g7 L7
end CHG
