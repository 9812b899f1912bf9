/-! whole blocks -/
section BLS
variable {n : Nat} {b : Nat → Int} {l p m d fc fr : Nat} {hc hr hc' hr' : hS}
theorem own_01 : own d = if d = 0 then 1 else 0 := rfl
theorem SPm (IH : d < 12 → BP n b fc fr (d + 1)) (hd : d ≤ 12) : SP n b (fc + 2) (fr + 2) d := by
  intro l p m hc hr B hp hm
  rw [g63_64, g210_211]
  obtain ⟨s, v, q2, q3, q4, h1, -⟩ := BS_at B
  have w := mtc q2
  unfold c64 c211
  refine JJ_l q3 ?_
  rw [q4]
  by_cases can : s = 1 ∨ (206 ≤ s ∧ s ≤ 212)
  · have eL : (if s = 1 then c64_j34 (g63 (fc + 1)) (d : Int) s hc else if s < 206 then c64_j24 hc else if s ≤ 212 then c64_j34 (g63 (fc + 1)) (d : Int) s hc else c64_j24 hc) = c64_j34 (g63 (fc + 1)) (d : Int) s hc := by
      by_cases z : s = 1
      · rw [if_pos z]
      · rw [if_neg z, if_neg (by omega), if_pos (by omega)]
    have eR : (if mt s = 2 then c211_j21 (g210 (fr + 1)) (own d) (mt s) hr else (c191 (mt s) 106 112 hr).bind (fun v50 => if v50 = 0 then c211_j26 (g210 (fr + 1)) 0 (own d) (mt s) hr else c211_j21 (g210 (fr + 1)) (own d) (mt s) hr)) = c211_j26 (g210 (fr + 1)) 1 (own d) (mt s) hr := by
      by_cases z : mt s = 2
      · rw [if_pos z]; rfl
      · rw [if_neg z, c191_e, if_pos (by omega)]
        rfl
    rw [eL, eR]
    unfold c64_j34 c211_j26
    rw [if_neg (show ¬ (1 : Int) = 0 by omega)]
    have main : (s = 211 → d = 0) → JJ p m hc hr (fun hc' hr' => ∃ l', SQ n b l p m d (hI hc 15 8) l' hc' hr') (c64_j55 (g63 (fc + 1)) (d : Int) s hc) (c211_j53 (g210 (fr + 1)) (mt s) hr) := by
      intro hrd
      unfold c64_j55 c211_j53
      have b6 := B.2.2.2.2 rfl
      by_cases k : hI hc 15 8 < 60
      · obtain ⟨t1, t2, B1⟩ := BS_ct B k
        obtain ⟨w1, B2⟩ := BS_w (v := 253) B1 (by omega)
        have fcA : FC p hc (sI (sI (sI hc 15 8 (hI hc 15 8 + 1)) 17 p 253) 15 7 ((p + 1 : Nat) : Int)) := FC_tr (FC_ct B) (FC_tr (FC_sI (by omega)) (FC_sI (by omega)))
        have frA : FR m hr (sI hr 395 20 (hI hc 15 8 + 1)) := FR_20
        have hc8 : hI hc 15 8 < hI (sI (sI (sI hc 15 8 (hI hc 15 8 + 1)) 17 p 253) 15 7 ((p + 1 : Nat) : Int)) 15 8 := by
          rw [hI_sI, if_neg (by omega), hI_sI, if_neg (by omega), hI_sI, if_pos ⟨rfl, rfl⟩]
          omega
        have cA : cdA (sI (sI (sI hc 15 8 (hI hc 15 8 + 1)) 17 p 253) 15 7 ((p + 1 : Nat) : Int)) p [253] := cdA_one
        rw [if_pos k, if_neg (show ¬ hI hr 395 20 = 60 by omega), t1, t2]
        simp only [bsome]
        rw [w1]
        simp only [bsome]
        generalize sI (sI (sI hc 15 8 (hI hc 15 8 + 1)) 17 p 253) 15 7 ((p + 1 : Nat) : Int) = hc1 at B2 fcA hc8 cA ⊢
        generalize sI hr 395 20 (hI hc 15 8 + 1) = hr1 at B2 frA ⊢
        generalize hI hc 15 8 = c at hc8 ⊢
        refine JJ_re fcA frA ?_ (Nat.le_refl _) (Nat.le_refl _)
        by_cases z12 : s = 212
        · rw [if_neg (show ¬ (1 : Int) = s by omega), if_neg (show ¬ (206 : Int) = s by omega), if_neg (show ¬ (207 : Int) = s by omega), if_pos (show (212 : Int) = s by omega), if_pos (show mt s = 112 by omega), g63_66, g210_212]
          exact JJ_kl (JJ_kr (SM_if IH B2 hp hm hd (h1 (by omega)) hc8 cA))
        · rw [if_neg (show ¬ mt s = 112 by omega)]
          by_cases z1 : s = 1
          · rw [if_pos (show (1 : Int) = s by omega), if_pos (show mt s = 2 by omega)]
            exact SM_set B2 hp hm hd hc8 cA
          · obtain ⟨a0, hr2, a1, a2, B3⟩ := BS_adv B2 (h1 (by omega))
            have hc8' : c < hI (sI hc1 15 3 ((l + 1 : Nat) : Int)) 15 8 := by rw [hI_sI, if_neg (by omega)]; exact hc8
            have cA' : cdA (sI hc1 15 3 ((l + 1 : Nat) : Int)) p [253] := cdA_cg cA (fun j hj => by rw [hI_sI, if_neg (by omega)])
            have fcB : FC p hc1 (sI hc1 15 3 ((l + 1 : Nat) : Int)) := FC_sI (by omega)
            rw [if_neg (show ¬ (1 : Int) = s by omega), if_neg (show ¬ mt s = 2 by omega), a1]
            simp only [bsome]
            by_cases z6 : s = 206
            · rw [if_pos (show (206 : Int) = s by omega), if_pos (show mt s = 106 by omega)]
              unfold c64_j190
              rw [a0]
              simp only [bsome]
              refine JJ_re fcB (FR_fj a2) ?_ (Nat.le_refl _) (Nat.le_refl _)
              exact SM_give (sN := 21) (.inl ⟨z6, by omega, rfl⟩) B3 hp hm hd hc8' cA'
            · rw [if_neg (show ¬ (206 : Int) = s by omega), if_neg (show ¬ mt s = 106 by omega)]
              by_cases z7 : s = 207
              · rw [if_pos (show (207 : Int) = s by omega), if_pos (show mt s = 107 by omega)]
                unfold c64_j190
                rw [a0]
                simp only [bsome]
                refine JJ_re fcB (FR_fj a2) ?_ (Nat.le_refl _) (Nat.le_refl _)
                exact SM_give (sN := 22) (.inr ⟨z7, by omega, rfl⟩) B3 hp hm hd hc8' cA'
              · rw [if_neg (show ¬ (207 : Int) = s by omega), if_neg (show ¬ (212 : Int) = s by omega), if_neg (show ¬ mt s = 107 by omega)]
                unfold c73
                rw [a0]
                simp only [bsome]
                refine JJ_re fcB (FR_fj a2) ?_ (Nat.le_refl _) (Nat.le_refl _)
                by_cases z9 : s = 209
                · rw [if_neg (show ¬ s = 210 by omega), if_pos (show mt s = 109 by omega), z9]
                  exact SM_do B3 hp hm hc8' cA'
                · rw [if_neg (show ¬ mt s = 109 by omega)]
                  by_cases z10 : s = 210
                  · rw [if_pos z10, if_pos (show mt s = 110 by omega), z10]
                    exact SM_send B3 hp hm hc8' cA'
                  · rw [if_neg z10, if_neg (show ¬ mt s = 110 by omega), c73_up z9 z10]
                    by_cases z8 : s = 208
                    · rw [if_pos (show mt s = 108 by omega)]
                      exact SM_up (.inl ⟨z8, rfl⟩) B3 hp hm hc8' cA'
                    · rw [if_neg (show ¬ mt s = 108 by omega)]
                      exact SM_up (.inr ⟨by omega, rfl, hrd (by omega)⟩) B3 hp hm hc8' cA'
      · rw [if_neg k, if_pos (show hI hr 395 20 = 60 by omega)]
        obtain ⟨x, y, g1, g2, g3, g4, g5⟩ := BS_no (c := 3) B (by omega)
        rw [g1, g2]
        exact JJ_no g3 g4 g5
    by_cases z : s = 211
    · rw [if_pos z, if_pos (show mt s = 111 by omega)]
      by_cases z0 : d = 0
      · rw [if_pos (show (d : Int) ≤ 0 by omega), own_01, if_pos z0, if_neg (show ¬ (1 : Int) = 0 by omega)]
        rw [own_01, if_pos z0] at *
        exact main (fun _ => z0)
      · rw [if_neg (show ¬ (d : Int) ≤ 0 by omega), own_01, if_neg z0, if_pos rfl]
        obtain ⟨x, y, g1, g2, g3, g4, g5⟩ := BS_no (c := 2) B (by omega)
        rw [g1, g2]
        exact JJ_no g3 g4 g5
    · rw [if_neg z, if_neg (show ¬ mt s = 111 by omega)]
      exact main (fun h => absurd h z)
  · have eL : (if s = 1 then c64_j34 (g63 (fc + 1)) (d : Int) s hc else if s < 206 then c64_j24 hc else if s ≤ 212 then c64_j34 (g63 (fc + 1)) (d : Int) s hc else c64_j24 hc) = c64_j24 hc := by
      rw [if_neg (by omega)]
      by_cases z : s < 206
      · rw [if_pos z]
      · rw [if_neg z, if_neg (by omega)]
    have eR : (if mt s = 2 then c211_j21 (g210 (fr + 1)) (own d) (mt s) hr else (c191 (mt s) 106 112 hr).bind (fun v50 => if v50 = 0 then c211_j26 (g210 (fr + 1)) 0 (own d) (mt s) hr else c211_j21 (g210 (fr + 1)) (own d) (mt s) hr)) = c211_j26 (g210 (fr + 1)) 0 (own d) (mt s) hr := by
      rw [if_neg (by omega), c191_e, if_neg (by omega)]
      rfl
    rw [eL, eR]
    unfold c64_j24 c211_j26
    rw [if_pos rfl]
    obtain ⟨x, y, g1, g2, g3, g4, g5⟩ := BS_no (c := 1) B (by omega)
    rw [g1, g2]
    exact JJ_no g3 g4 g5
/-- a block half read: its statements so far -/
def HB (n : Nat) (b : Nat → Int) (l p m d : Nat) (c : Int) (i q : Nat) (hd tl : Int) (hc hr : hS) : Prop := ∃ (m' : Nat) (C : List Int) (L : List Nat), BS n b q (p + C.length) m' d hc hr ∧ (C.length + 2 * l + 2 ≤ 2 * q ∧ m' + l + 1 ≤ m + q ∧ m ≤ m') ∧ c + (i : Int) ≤ hI hc 15 8 ∧ cdA hc p C ∧ LK (nd hr) L hd ∧ (∀ j ∈ L, m ≤ j ∧ j < m') ∧ BL (fun q i S => SS (nd hr) (BK (nd hr) m (12 - d)) (12 - d = 12) q i S) L p C ∧ ((L = [] ∧ hd = -1) ∨ ∃ (L0 : List Nat) (u : Nat), L = L0 ++ [u] ∧ tl = (u : Int) ∧ hd ≠ -1 ∧ ∀ j ∈ L0, j < u)
theorem c219_e {u i : Nat} (hu : u < 1200) : c219 (u : Int) (i : Int) hr = some (sI hr 399 (5 * (8400 + u) + 4) (i : Int)) := by
  unfold c219
  rw [wadd_e (x := 8400) (by omega) (by omega), wmul_e (by omega) (by omega), wadd_e (by omega) (by omega), wIs_s (by omega) (by omega)]
  simp only [bsome]
  rw [show (5 * (8400 + (u : Int)) + 4).toNat = 5 * (8400 + u) + 4 by omega]
/-- one statement more, its node linked behind the last one -/
theorem HB_one {c : Int} {i q q' m0 : Nat} {hd tl : Int} {h t h1 t1 : hS} {C : List Int} {L : List Nat} (hb : C.length + 2 * l + 2 ≤ 2 * q ∧ m0 + l + 1 ≤ m + q ∧ m ≤ m0) (hc0 : c + (i : Int) ≤ hI h 15 8) (hA : cdA h p C) (hL : LK (nd t) L hd) (hM : ∀ j ∈ L, m ≤ j ∧ j < m0) (hB : BL (fun q i S => SS (nd t) (BK (nd t) m (12 - d)) (12 - d = 12) q i S) L p C) (hT : (L = [] ∧ hd = -1) ∨ ∃ (L0 : List Nat) (u : Nat), L = L0 ++ [u] ∧ tl = (u : Int) ∧ hd ≠ -1 ∧ ∀ j ∈ L0, j < u) (f1 : FC (p + C.length) h h1) (f2 : FR m0 t t1) (Q : SQ n b q (p + C.length) m0 d (hI h 15 8) q' h1 t1) :
    (hd = -1 → HB n b l p m d c (i + 1) q' (hI t1 395 22) (hI t1 395 22) h1 t1) ∧ (hd ≠ -1 → ∃ t2, c219 tl (hI t1 395 22) t1 = some t2 ∧ hI t2 395 22 = hI t1 395 22 ∧ FR m t1 t2 ∧ HB n b l p m d c (i + 1) q' hd (hI t1 395 22) h1 t2) ∧ q < q' := by
  obtain ⟨m2, i2, S, B2, ⟨c1, c2, c3, c4, c5⟩, c6, A2, t2, n2, S2⟩ := Q
  have aA : cdA h1 p (C ++ S) := cdA_app (cdA_cg hA (fun j hj => f1.1.2 17 j (by omega))) A2
  have en : ∀ t' j, t' < m0 → j < 5 → nd t1 t' j = nd t t' j := fun t' j ht hj => nd_FR f2 ht hj
  have bnd : (C ++ S).length + 2 * l + 2 ≤ 2 * q' ∧ m2 + l + 1 ≤ m + q' ∧ m ≤ m2 := by
    rw [List.length_append]
    omega
  have B2' : BS n b q' (p + (C ++ S).length) m2 d h1 t1 := by
    rw [List.length_append, ← Nat.add_assoc]
    exact B2
  have c8 : c + ((i + 1 : Nat) : Int) ≤ hI h1 15 8 := by omega
  have hM2 : ∀ j ∈ L ++ [i2], m ≤ j ∧ j < m2 := by
    intro j hj
    rcases List.mem_append.mp hj with hj | hj
    · have := hM j hj
      omega
    · rw [List.mem_singleton] at hj
      omega
  refine ⟨fun e => ?_, fun e => ?_, c5⟩
  · have hL0 : L = [] := by
      rcases hT with ⟨w, -⟩ | ⟨L0, u, -, -, w, -⟩
      · exact w
      · exact absurd e w
    subst hL0
    have hC : C = [] := hB
    subst hC
    refine ⟨m2, [] ++ S, [] ++ [i2], B2', bnd, c8, aA, (show LK (nd t1) [i2] (hI t1 395 22) from ⟨t2, n2⟩), hM2, ?_, .inr ⟨[], i2, rfl, t2, by omega, fun j hj => by simp at hj⟩⟩
    refine BL_sn (C := []) rfl (SS_cg S2 (fun _ _ _ _ => rfl) (fun _ _ => rfl) (fun q f C hB => BK_lo (by omega) hB))
  · obtain ⟨L0, u, rfl, rfl, hd1, hu⟩ : ∃ (L0 : List Nat) (u : Nat), L = L0 ++ [u] ∧ tl = (u : Int) ∧ hd ≠ -1 ∧ ∀ j ∈ L0, j < u := by
      rcases hT with ⟨-, w⟩ | w
      · exact absurd w e
      · exact w
    have hum := hM u (by simp)
    have rm := BS_room B2
    rw [t2]
    have eN : ∀ t' j, ¬ (t' = u ∧ j = 4) → j < 5 → nd (sI t1 399 (5 * (8400 + u) + 4) (i2 : Int)) t' j = nd t1 t' j := fun t' j hn hj => by
      unfold nd
      rw [hI_sI, if_neg (by omega)]
    have eU : nd (sI t1 399 (5 * (8400 + u) + 4) (i2 : Int)) u 4 = (i2 : Int) := by
      unfold nd
      rw [hI_sI, if_pos ⟨rfl, rfl⟩]
    refine ⟨_, c219_e (by omega), by rw [hI_sI, if_neg (by omega)]; exact t2, FR_fp (S := fun x j => x = 399 ∧ j = 5 * (8400 + u) + 4) (fp_sI ⟨rfl, rfl⟩) (fun x j hx => by omega), ?_⟩
    refine ⟨m2, C ++ S, L0 ++ [u] ++ [i2], BS_r B2' (fun x j hx => by rw [hI_sI, if_neg (by omega)]) (fun _ _ _ => rfl) (by rw [hI_sI, if_neg (by omega)]; exact B2'.2.2.1.2.1) (by rw [hI_sI, if_neg (by omega)]; exact B2'.2.2.1.2.2) B2'.2.2.2.1.2, bnd, c8, aA, LK_sn (N := nd t) hL (fun j hj => by have := hu j hj; omega) (fun j hj => ?_) eU ?_, hM2, BL_sn (BL_im hB (fun q j S hj hS => ?_)) ?_, .inr ⟨L0 ++ [u], i2, rfl, rfl, hd1, fun j hj => ?_⟩⟩
    · have := hu j hj
      rw [eN j 4 (by omega) (by omega), en j 4 (by omega) (by omega)]
    · rw [eN i2 4 (by omega) (by omega)]
      exact n2
    · have hj1 : j ≤ u := by
        rcases List.mem_append.mp hj with hj | hj
        · have := hu j hj
          omega
        · rw [List.mem_singleton] at hj
          omega
      refine SS_cg hS (fun t' ht i hi => ?_) (fun i hi => ?_) (fun q f C hB => BK_c1 hB (fun t' ht i hi => ?_))
      · rw [eN t' i (by omega) (by omega), en t' i (by omega) (by omega)]
      · rw [eN j i (by omega) (by omega), en j i (by omega) (by omega)]
      · rw [eN t' i (by omega) hi, en t' i (by omega) hi]
    · refine SS_cg S2 (fun t' ht i hi => eN t' i (by omega) (by omega)) (fun i hi => eN i2 i (by omega) (by omega)) (fun q f C hB => BK_lo (lo := m0) (by omega) (BK_cg hB (fun t' ht i hi => eN t' i (by omega) (by omega)) (fun t' t0 ht i hi => eN t' i (by omega) hi)))
    · have := hM j hj
      omega
theorem BPm (IH : SP n b fc fr d) (hd : d ≤ 12) : BP n b (fc + 1) (fr + 1) d := by
  intro l p m hc hr B hm
  have hl := TK_len (n := n) (b := b)
  have hnn := B.1.2.2.2.2.1.2.1
  have hpl := B.2.2.2.1
  rw [g63_63, g210_210]
  unfold c63 c210
  refine JJ_b (BS_ps B (c := 123) rfl) (Nat.le_refl _) (Nat.le_refl _) (fun hc1 hr1 f1 r1 Q1 => ?_)
  obtain ⟨B1, rfl, j1⟩ := Q1
  have e15 : hI (sI hc 15 3 ((l + 1 : Nat) : Int)) 15 8 = hI hc 15 8 := by rw [hI_sI, if_neg (by omega)]
  generalize hI hc 15 8 = c at e15 ⊢
  generalize sI hc 15 3 ((l + 1 : Nat) : Int) = hc1 at B1 f1 e15 ⊢
  have key := lp_two (f := fun s : Int × hS => c63_b13 (g63 fc) (d : Int) s.1 s.2) (g := fun s : Int × Int × hS => c210_b15 (g210 fr) (own d) s.1 s.2.1 s.2.2)
    (fun k s t => ∃ (i q : Nat), s.1 = (i : Int) ∧ HB n b l p m d c i q t.1 t.2.1 s.2 t.2.2 ∧ FC p hc1 s.2 ∧ FR m hr1 t.2.2 ∧ k + q = 1002)
    (fun x y => FC p hc1 x ∧ FR m hr1 y.2 ∧ ∃ i q tl, HB n b l p m d c i q y.1 tl x y.2 ∧ c39 x = some 125) (fun x y => FC p hc1 x ∧ FR m hr1 y ∧ FL x y) ?_ hF0 (1001 - l) (0, hc1) (-1, -1, hr1) ?_ (hF0_lt (by omega))
  · show JJ p m hc1 hr1 _ ((lp (fun s => c63_b13 (g63 fc) (d : Int) s.1 s.2) hF0 (0, hc1)).bind _) ((lp (fun s => c210_b15 (g210 fr) (own d) s.1 s.2.1 s.2.2) hF0 (-1, -1, hr1)).bind _)
    rcases key with ⟨x, ⟨hd', y⟩, e1, e2, e3, e4, i, q, tl, ⟨m', C, L, BB, ⟨b1, b2, b3⟩, b4, b5, b6, b7, b8, -⟩, e6⟩ | ⟨x, y, e1, e2, e3, e4, e5⟩
    · rw [e1, e2]
      have e4 : FR m hr1 y := e4
      have BB : BS n b q (p + C.length) m' d x y := BB
      obtain ⟨s, v, q2, q3, q4, h1, -⟩ := BS_at BB
      have hs : s = 125 := by rw [e6] at q3; exact (Option.some.inj q3).symm
      obtain ⟨a0, y2, a1, a2, B3⟩ := BS_adv BB (h1 (by omega))
      show JJ p m hc1 hr1 _ ((c58 125 x).bind _) ((c188 y).bind _)
      rw [a1]
      unfold c58
      rw [e6]
      simp only [bsome]
      rw [if_pos trivial, a0]
      simp only [bsome]
      have fcZ : FC p hc1 (sI x 15 3 ((q + 1 : Nat) : Int)) := FC_tr e3 (FC_sI (by omega))
      have frZ : FR m hr1 (sI y2 395 21 hd') := FR_tr e4 (FR_tr (FR_fj a2) (FR_sI (by omega)))
      have en : ∀ t' j, nd (sI y2 395 21 hd') t' j = nd y t' j := fun t' j => by
        unfold nd
        rw [hI_sI, if_neg (by omega)]
        exact a2.2.2.1 399 _ (by omega)
      refine JJ_ok fcZ frZ ⟨q + 1, m', C, BS_r B3 (fun x j hx => by rw [hI_sI, if_neg (by omega)]) (fun _ _ _ => rfl) (by rw [hI_sI, if_neg (by omega)]; exact B3.2.2.1.2.1) (by rw [hI_sI, if_neg (by omega)]; exact B3.2.2.1.2.2) B3.2.2.2.1.2, ⟨by omega, by omega, b3⟩, ?_, cdA_cg b5 (fun j hj => by rw [hI_sI, if_neg (by omega)]), ?_⟩
      · rw [hI_sI, if_neg (by omega)]
        have b4 : c + (i : Int) ≤ hI x 15 8 := b4
        omega
      · rw [show hI (sI y2 395 21 hd') 395 21 = hd' by rw [hI_sI, if_pos ⟨rfl, rfl⟩], show 13 - d = 12 - d + 1 by omega]
        have b6 : LK (nd y) L hd' := b6
        have b8 : BL (fun q i S => SS (nd y) (BK (nd y) m (12 - d)) (12 - d = 12) q i S) L p C := b8
        exact ⟨L, LK_cg b6 (fun i _ => en i 4), b7, BL_im b8 (fun q j S _ hS => SS_cg hS (fun t' _ i _ => en t' i) (fun i _ => en j i) (fun q f C hB => BK_c1 hB (fun t' _ i _ => en t' i)))⟩
    · rw [e1, e2]
      exact JJ_no e3 e4 e5
  · rintro k ⟨i0, h⟩ ⟨hd0, tl, t⟩ ⟨i, q, hi, H, g1, g2, hk⟩
    have hi : i0 = (i : Int) := hi
    subst hi
    have H : HB n b l p m d c i q hd0 tl h t := H
    have g1 : FC p hc1 h := g1
    have g2 : FR m hr1 t := g2
    have H' := H
    obtain ⟨m0, C, L, BB, hb, b4, b5, b6, b7, b8, b9⟩ := H
    obtain ⟨s, v, q2, q3, q4, h1, -⟩ := BS_at BB
    have hcount := BB.2.2.2.2 rfl
    have hc0 : 0 ≤ c := by have := B1.2.2.2.2 rfl; omega
    have rm := BS_room BB
    show (∃ x y, c63_b13 (g63 fc) (d : Int) (i : Int) h = _ ∧ c210_b15 (g210 fr) (own d) hd0 tl t = _ ∧ _) ∨ (∃ hc hr, c63_b13 (g63 fc) (d : Int) (i : Int) h = _ ∧ c210_b15 (g210 fr) (own d) hd0 tl t = _ ∧ _) ∨ (∃ k' s' t', c63_b13 (g63 fc) (d : Int) (i : Int) h = _ ∧ c210_b15 (g210 fr) (own d) hd0 tl t = _ ∧ _)
    unfold c63_b13 c210_b15
    rw [if_neg (show ¬ (60 : Int) < (i : Int) by omega), q3, c203_e q2 q4 (c := 125) rfl]
    simp only [bsome]
    by_cases z : s = 125
    · rw [if_pos z, if_pos z, if_neg (show ¬ (1 : Int) = 0 by omega)]
      exact .inl ⟨_, _, rfl, rfl, g1, g2, i, q, tl, H', by rw [q3, z]⟩
    · rw [if_neg z, if_neg z, if_pos rfl]
      obtain ⟨h2, t2, f2, r2, ⟨e1, e2, q', Q⟩ | ⟨e1, e2, e3⟩⟩ := IH _ _ _ _ _ BB (by omega) (by omega)
      · rw [e1, e2]
        simp only [bsome]
        rw [if_neg (show ¬ (1 : Int) = 0 by omega), if_neg (show ¬ (1 : Int) = 0 by omega)]
        have hq' : q' ≤ 1000 := by
          obtain ⟨_, _, _, BQ, -⟩ := Q
          exact (BS_room BQ).2.1
        obtain ⟨o1, o2, o3⟩ := HB_one (c := c) (i := i) hb b4 b5 b6 b7 b8 b9 f2 r2 Q
        have fz : FC p hc1 h2 := FC_tr g1 (FC_mn f2 (by omega))
        have rz : FR m hr1 t2 := FR_tr g2 (FR_mn r2 (by omega))
        refine .inr (.inr ?_)
        by_cases w : hd0 = -1
        · rw [if_pos w]
          exact ⟨1002 - q', (((i + 1 : Nat) : Int), h2), _, by rw [wadd_n (by omega)], rfl, by omega, i + 1, q', rfl, o1 w, fz, rz, by omega⟩
        · obtain ⟨t3, u1, u2, u3, u4⟩ := o2 w
          rw [if_neg w, u1]
          simp only [bsome]
          unfold c210_j56
          rw [u2]
          exact ⟨1002 - q', (((i + 1 : Nat) : Int), h2), _, by rw [wadd_n (by omega)], rfl, by omega, i + 1, q', rfl, u4, fz, FR_tr rz u3, by omega⟩
      · rw [e1, e2]
        simp only [bsome]
        exact .inr (.inl ⟨_, _, rfl, rfl, FC_tr g1 (FC_mn f2 (by omega)), FR_tr g2 (FR_mn r2 (by omega)), e3⟩)
  · refine ⟨0, l + 1, rfl, ⟨m, [], [], B1, ⟨by show 0 + 2 * l + 2 ≤ 2 * (l + 1); omega, by omega, Nat.le_refl _⟩, ?_, cdA_nil, rfl, fun j hj => by simp at hj, rfl, .inl ⟨rfl, rfl⟩⟩, FC_rf, FR_rf, ?_⟩
    · show c + ((0 : Nat) : Int) ≤ hI hc1 15 8
      omega
    · have := BS_room B1
      omega
/-- every block -/
theorem BPa : ∀ (e d : Nat), d + e = 12 → ∀ fc fr, 3 * e + 3 ≤ fc → 3 * e + 3 ≤ fr → BP n b fc fr d
  | 0, d, hd, fc, fr, hc, hr => by
    obtain ⟨fc, rfl⟩ : ∃ q, fc = q + 2 + 1 := ⟨fc - 3, by omega⟩
    obtain ⟨fr, rfl⟩ : ∃ q, fr = q + 2 + 1 := ⟨fr - 3, by omega⟩
    exact BPm (SPm (fun z => by omega) (by omega)) (by omega)
  | e + 1, d, hd, fc, fr, hc, hr => by
    obtain ⟨fc, rfl⟩ : ∃ q, fc = q + 2 + 1 := ⟨fc - 3, by omega⟩
    obtain ⟨fr, rfl⟩ : ∃ q, fr = q + 2 + 1 := ⟨fr - 3, by omega⟩
    exact BPm (SPm (fun z => BPa e (d + 1) (by omega) fc fr (by omega) (by omega)) (by omega)) (by omega)
theorem B0 : BP n b 120 120 0 := BPa 12 0 rfl 120 120 (by omega) (by omega)
end BLS
