/-! patches: every change, alike -/
section CHF
variable {n l m N0 M0 q sl : Nat} {b : Nat → Int} {w : Int} {hc hr : hS} {us : List Nat}
/-- the first two tokens of a change -/
theorem HDn {Q : hS → hS → Prop} {K L : hS → Int × hS → Option (Int × hS)} {s v0 wt : Int} {a : Nat} (P : PBt n b N0 M0 l 0 m us hc hr) (e : (TK n b)[l]? = some (s, a, v0)) (h1 : l + 1 < (TK n b).length) (hwt : wt = if s = 200 ∨ s = 217 then -5 else -2) (g : ∀ (v : Int) (hc1 hc2 hr1 hr2 : hS), FC 0 hc hc2 → FR m hr hr2 → (0 ≤ v ∧ v < 40) → hI hr2 395 17 = v → PBt n b N0 M0 (l + 2) wt m us hc2 hr2 → (tkW n b l : Int) - wt ≤ (tkW n b (l + 2) : Int) → JK N0 M0 hc2 hr2 Q (K hc1 (v, hc2)) (L hr1 (1, hr2))) : JK N0 M0 hc hr Q ((some (sI hc 15 3 (wadd (hI hc 15 3) 1))).bind (fun h1 => (c45 h1).bind (fun v2 => if v2.1 = -1 then some (0, v2.2) else K h1 v2))) ((c188 hr).bind (fun h2 => (c196 h2).bind (fun v3 => if v3.1 = 0 then some (0, v3.2) else L h2 v3))) := by
  have tw := tkW_s e
  obtain ⟨a0, hr1, a1, a2, P1⟩ := PB_adv (w' := wt + 1) P h1 (by rw [tw, hwt]; split <;> omega)
  rw [a0, a1]
  simp only [bsome]
  have fc1 : FC 0 hc (sI hc 15 3 ((l + 1 : Nat) : Int)) := FC_sI (by omega)
  obtain ⟨f, v, hc2, hr2, g1, g2, fc2, fr2, g3⟩ := PB_nm P1
  rw [g1, g2]
  simp only [bsome]
  have fcA := FC_tr fc1 fc2
  have frA : FR m hr hr2 := FR_tr (FR_fj a2) fr2
  refine JK_re (FK_FC fcA) (FW_FR frA) ?_
  rcases g3 with ⟨rfl, v1, v2, P2, hl2⟩ | ⟨rfl, rfl, L1⟩
  · rw [if_neg (show ¬ v = -1 by omega), if_neg (show ¬ (1 : Int) = 0 by omega)]
    refine g v _ hc2 hr1 hr2 fcA frA v1 v2 (PB_w P2 (by omega)) ?_
    have t2 := tkW_1 (n := n) (b := b) (l := l + 1) (by omega)
    rw [show l + 2 = l + 1 + 1 by omega]
    rw [hwt]
    split at tw <;> rename_i c
    · rw [if_pos c]; omega
    · rw [if_neg c]; omega
  · rw [if_pos rfl, if_pos rfl]
    exact JK_no FK_rf FW_rf L1
/-- a change of a kind, behind its name -/
theorem CGe {v : Int} {hcA hrA : hS} (P : PBt n b N0 M0 l 0 m us hc hr) (PA : PBt n b N0 M0 (l + 2) (-2) m us hcA hrA) (ht : (tkW n b l : Int) + 2 ≤ (tkW n b (l + 2) : Int)) (fc : FC 0 hc hcA) (fr : FR m hr hrA) (v0 : 0 ≤ v ∧ v < 40) : JK N0 M0 hcA hrA (CQ n b N0 M0 l m us hc hr) ((c58 123 hcA).bind (fun v4 => if v4.1 = 0 then some (0, v4.2) else (some (mkH v4.2 22 6)).bind (fun h6 => (k8 (hN v4.2)).bind (fun u8 => (c48 (hN v4.2) 216 (hI h6 15 9) v (-1) (-1) 0 h6).bind (fun h7 => (kT h7 (hR v4.2 15 12) 8).bind (fun u10 => (c49 (hR v4.2 15 12) (hN v4.2) h7).bind (fun v9 => seFx (edF v) v9.2))))))) ((c230 1 hrA).bind (fun v29 => if v29.1 = 0 then some (0, v29.2) else (c218 41 v 0 (hI v29.2 395 21) v29.2).bind (fun v31 => (some (sI v31.2 395 22 v31.1)).bind (fun h32 => some (1, h32))))) := by
  obtain ⟨hl0, hN0, hm, hx0, hlt⟩ := PB_l P
  unfold c230
  obtain ⟨hc3, hr3, f3, g3, ⟨e1, e2, P3, e3, j3⟩ | ⟨e1, e2, L3⟩⟩ := PB_ps PA (c := 123) rfl
  · rw [e1, e2]
    simp only [bsome]
    rw [if_neg (show ¬ (1 : Int) = 0 by omega), if_neg (show ¬ (1 : Int) = 0 by omega)]
    have fc3 : FC 0 hc hc3 := FC_tr fc (by rw [e3]; exact FC_sI (by omega))
    obtain ⟨qq, sl, A, Q, B3, hm3, -⟩ := id P3
    have n3 := FC_nm fc3
    have p9 : hI (mkH hc3 22 6) 15 9 = hI hc 15 9 := by rw [hI_mk, if_neg (by omega)]; exact FC_9 fc3
    have r12 : hR hc3 15 12 = N0 := (PB_t17 P3).2.1
    have tw3 := tkW_1 (n := n) (b := b) (l := l + 2) (by have := B3.1.2.2.1; omega)
    obtain ⟨h5, h6, y1, y2, y3, y3', y4, P6, y5, y6, y7, y8, y9, y10⟩ := PB_add (s := 216) (k := v) (nm := -1) (o := -1) (cd := 0) (w' := 0) P B3 (by omega) (by omega) (FK_FC fc3) (SA_FC fc3) ⟨by omega, by omega⟩ (by rw [if_neg (by omega), if_neg (by omega)]; omega)
    refine JK_re f3 g3 ?_
    rw [k8_s (by omega), p9, r12]
    simp only [bsome]
    rw [y1]
    simp only [bsome]
    rw [kT_s y3]
    simp only [bsome]
    rw [y4]
    simp only [bsome]
    have eR : ((lp (fun s => c230_b15 1 s.1 s.2.1 s.2.2) hF0 ((-1), (-1), hr3)).bind (fun r12 => xs r12 (fun x12 => (c188 x12.2).bind (fun h13 => some (1, sI h13 395 21 x12.1))) (fun o12 => some o12))) = seGx c231 hr3 := rfl
    rw [eR]
    refine JK_re y10 FW_rf ?_
    obtain ⟨hc8, hr8, f8, g8, ⟨x1, x2, l', m', ys, L, f, ⟨z1, z1'⟩, P8, z2, z3, z4, z5, z6, z7, z8, z9, z10⟩ | ⟨x1, x2, L8⟩⟩ := SEV (kn := v) (e := 1) (F := edF v) (G := c231) (fun l m w us hc hr P => EDM P) P6 (by omega)
    · rw [x1, x2]
      simp only [bsome]
      rw [if_neg (show ¬ (1 : Int) = 0 by omega)]
      obtain ⟨q8, sl8, A8, Q8, B8, hm8, r8⟩ := id P8
      obtain ⟨t2, n1, B9, g2, ⟨d0, d1, d2, d3, d4⟩, e22, -⟩ := BS_nt (s := 41) (x := v) (y := 0) (z := hI hr8 395 21) (t := 22) (.inr rfl) B8 (by omega)
      rw [n1]
      simp only [bsome]
      have nj : ∀ t, t < m' → ∀ j, j < 5 → nd (sI t2 395 22 (m' : Int)) t j = nd hr8 t j := fun t ht j hj => nd_FR g2 ht hj
      have nm3 : ∀ t j, nd hr3 t j = nd hrA t j := fun t j => j3.2.2.1 399 _ (by omega)
      have e9 : hI h6 15 9 = hI hc 15 9 := (y6.2 15 (by omega)).2.2.2 9 (by omega)
      rw [e9] at z9
      refine JK_ok f8 (FW_tr g8 (FW_FR g2)) ⟨l', m' + 1, [hN hc3] ++ ys, m', by omega, ?_, KP_tr y7 z2, fun t ht j hj => by rw [nj t (by omega) j hj, z3 t ht j hj, nm3, nd_FR fr ht hj], ⟨z4, by omega⟩, e22, d4, ⟨by rw [d1]; exact v0, hN hc3, ys, rfl, .inr (.inl ⟨d0, ?_, L, ?_, ?_, ?_⟩)⟩, ?_⟩
      · rw [← List.append_assoc]
        exact ⟨q8, sl8, A8, Q8, B9, by omega, r8.1, r8.2.1, r8.2.2.1, r8.2.2.2.1, r8.2.2.2.2.1, by have := r8.2.2.2.2.2; omega⟩
      · rw [d1]
        exact SPc_h y5 (KP_sm z2 (by omega) y9.2 y5.1 (by omega) (by omega))
      · rw [d3, z5]
        exact LK_cg z6 (fun j hj => nj j (z7 j hj).2 4 (by omega))
      · intro j hj
        exact z7 j hj
      · rw [d1]
        exact MES_im (fun j x' hj hx q => ME_n q (fun t ht u hu => nj t (by have := z7 j hj; omega) u (by omega)) (fun t _ ht u hu => nj t (by have := z7 j hj; omega) u hu) (fun u hu => nj j (z7 j hj).2 u (by omega))) z9
      · intro x hx
        rcases List.mem_append.mp hx with hx | hx
        · rw [List.mem_singleton.mp hx]
          have := z2.1
          omega
        · exact z10 x hx
    · rw [x1, x2]
      simp only [bsome]
      exact JK_no f8 g8 L8
  · rw [e1, e2]
    simp only [bsome]
    exact JK_no f3 g3 L3
/-- a step alone is a change -/
theorem ED_ch {s o sN a b' v : Int} {cd l' q' m' sl' : Nat} {h3 t1 : hS} (P : PBt n b N0 M0 l 0 m us hc hr) (B : BX sl' n b l' q' m' 0 h3 t1) (hm : m' + 1 ≤ l') (hm2 : m ≤ m') (hl : l + 2 ≤ l') (F : FK N0 hc h3) (S : SAt hc h3) (fr : FR m hr t1) (rm : hN h3 ≤ hN hc + 1 ∧ hM h3 + 2 * l ≤ hM hc + 2 * l') (hw : (tkW n b l : Int) + (if s = 200 then 7 else if s = 217 then 6 else 0) ≤ (tkW n b l' : Int) + 1) (v0 : 0 ≤ v ∧ v < 40) (ha : a = v) (g : ∀ hc' hr', KP h3 hc' → (∀ t, t < m' → ∀ j, j < 5 → nd hr' t j = nd t1 t j) → (nd hr' m' 0 = sN ∧ nd hr' m' 1 = v ∧ nd hr' m' 2 = b') → SPc hc' (hN h3) s (hI hc 15 9) v (-1) o cd → (nd hr' m' 0 = 42 ∧ SPc hc' (hN h3) 217 (hI hc 15 9) (nd hr' m' 1) (-1) (-1) 0) ∨ (nd hr' m' 0 = 43 ∧ nmo (nd hr' m' 2) ∧ SPc hc' (hN h3) 218 (hI hc 15 9) (nd hr' m' 1) (-1) (nd hr' m' 2) 0) ∨ (nd hr' m' 0 = 44 ∧ ∃ cd : Nat, SPc hc' (hN h3) 221 (hI hc 15 9) (nd hr' m' 1) (-1) (-1) cd ∧ RUc (nd hr') hc' N0 m' cd (nd hr' m' 2))) : JK N0 M0 h3 t1 (CQ n b N0 M0 l m us hc hr) (c85_j91 N0 (hN h3) (hN h3) s v (-1) o cd (mkH h3 22 6)) ((c218 sN a b' 0 t1).bind (fun v28 => (some (sI v28.2 395 22 v28.1)).bind (fun h29 => (c202 59 h29).bind (fun v30 => (kB v30.1).bind (fun u31 => some (v30.1, v30.2)))))) := by
  refine JK_im (ED_end (s := s) (k := v) (nm := -1) (o := o) (cd := cd) (sN := sN) (a := a) (b' := b') (w' := 1) P B hm hl F S rm (by omega)) (fun hc' hr' _ _ ⟨P7, sp, kp, nn, ⟨d0, d1, d2, d4⟩, e22, y9⟩ => ?_)
  refine ⟨l' + 1, m' + 1, [hN h3], m', by omega, PB_w P7 (by omega), KP_tr (KP_SA S F.1.1) kp, fun t ht j hj => by rw [nn t (by omega) j hj, nd_FR fr ht hj], ⟨hm2, by omega⟩, e22, d4, ⟨by rw [d1, ha]; exact v0, hN h3, [], rfl, .inr (.inr ⟨rfl, g hc' hr' kp nn ⟨d0, by rw [d1, ha], d2⟩ sp⟩)⟩, fun x hx => ?_⟩
  rw [List.mem_singleton.mp hx]
  exact y9
end CHF
