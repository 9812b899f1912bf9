/-! statements -/
section STQ
variable {n : Nat} {b : Nat → Int} {l p m d fc fr : Nat} {hc hr hc' hr' : hS}
theorem SM_e2 {c : Int} {l' m1 cl : Nat} {C : List Int} (hcl : C.length = cl) (B : BS n b l' (p + cl) (m1 + 1) d hc hr) (h1 : cl + 2 * l ≤ 2 * l' + 2) (h2 : m1 + l ≤ m + l') (h3 : m ≤ m1) (h4 : l ≤ l') (h5 : c < hI hc 15 8) (h6 : cdA hc p C) (h7 : hI hr 395 22 = (m1 : Int)) (h8 : nd hr m1 4 = -1) (h9 : SS (nd hr) (BK (nd hr) m (12 - d)) (12 - d = 12) p m1 C) : JJ p m hc hr (fun hc' hr' => ∃ l', SQ n b l p m d c l' hc' hr') (c64_j129 hc) ((c202 59 hr).bind fun v => (kB v.1).bind fun _ => some (v.1, v.2)) := by
  subst hcl
  exact SM_end B h1 h2 h3 h4 h5 h6 h7 h8 h9
/-- give E ; fail E ; -/
theorem SM_give {c s sr sN : Int} (hs : (s = 206 ∧ sr = 106 ∧ sN = 21) ∨ (s = 207 ∧ sr = 107 ∧ sN = 22)) (B : BS n b (l + 1) (p + 1) m d hc hr) (hp : p ≤ 2 * l + 2) (hm : m ≤ l) (hd : d ≤ 12) (hc8 : c < hI hc 15 8) (hA : cdA hc p [253]) : JJ p m hc hr (fun hc' hr' => ∃ l', SQ n b l p m d c l' hc' hr') ((g67 120 67 [0, (d : Int)] hc).bind (fun v20 => if v20.1 = 0 then some (0, v20.2) else (c65 s v20.2).bind (fun h22 => (c58 59 h22).bind (fun v23 => (kB v23.1).bind (fun u24 => some (v23.1, v23.2)))))) (c211_j167 sr hr) := by
  unfold c211_j167
  obtain ⟨hc3, hr3, fc3, fr3, ⟨x1, x2, l3, m3, i, A, B3, ⟨c1, c2, c3, c4⟩, A3, t3, i3, E3⟩ | ⟨x1, x2, x3⟩⟩ := X0 hd _ _ _ _ _ B (by omega) (by omega)
  · have x1 : g67 120 67 [0, (d : Int)] hc = some (1, hc3) := x1
    rw [x1, x2]
    simp only [bsome]
    rw [if_neg (show ¬ (1 : Int) = 0 by omega), if_neg (show ¬ (1 : Int) = 0 by omega)]
    obtain ⟨w1, B4⟩ := BS_w (v := s) B3 (by omega)
    obtain ⟨hr5, n1, B6, f6, ⟨n2, n3, n4, n5, n6⟩, n7, -⟩ := BS_nt (s := sN) (x := (i : Int)) (y := 0) (z := 0) (t := 22) (.inr rfl) B4 (by omega)
    have eR : (if sr = 106 then c211_j191 21 hr3 else c211_j191 22 hr3) = (c202 59 (sI hr5 395 22 (m3 : Int))).bind (fun v15 => (kB v15.1).bind (fun u16 => some (v15.1, v15.2))) := by
      have e : (if sr = 106 then c211_j191 21 hr3 else c211_j191 22 hr3) = c211_j191 sN hr3 := by
        rcases hs with ⟨-, h1, h2⟩ | ⟨-, h1, h2⟩
        · rw [if_pos h1, h2]
        · rw [if_neg (by omega), h2]
      rw [e]
      unfold c211_j191 c211_j303
      rw [t3, n1]
      rfl
    rw [w1, eR]
    simp only [bsome]
    have fcB : FC p hc (sI (sI hc3 17 (p + 1 + A.length) s) 15 7 ((p + 1 + A.length + 1 : Nat) : Int)) := FC_tr (FC_mn fc3 (by omega)) (FC_tr (FC_sI (by omega)) (FC_sI (by omega)))
    have frB : FR m hr (sI hr5 395 22 (m3 : Int)) := FR_tr fr3 (FR_mn f6 (by omega))
    have cA : cdA hc3 p ([253] ++ A) := cdA_app (cdA_cg hA (fun j hj => by
      have hj : j < p + 1 := hj
      rw [fc3.1.2 17 j (by omega)])) A3
    refine JJ_re fcB frB (SM_enk (l' := l3) (m1 := m3) (C := [253] ++ A ++ [s]) ?_ ?_ (by omega) (by omega) (by omega) (Int.lt_of_lt_of_le hc8 fcB.2) (cdA_sn cA (by simp; omega)) n7 n6 ?_) (by omega) (by omega)
    · have e9 : p + (([253] ++ A ++ [s]) : List Int).length = p + 1 + A.length + 1 := by simp; omega
      rw [e9]
      exact B6
    · simp
      omega
    · exact .inr (.inl ⟨i, A, s, by rw [n2]; omega, n3, by omega, EX_cg E3 (fun t ht j hj => nd_FR f6 (by omega) (by omega)), rfl⟩)
  · have x1 : g67 120 67 [0, (d : Int)] hc = some (0, hc3) := x1
    rw [x1, x2]
    simp only [bsome]
    exact JJ_no (FC_mn fc3 (by omega)) fr3 x3
/-- above ; rest ; -/
theorem SM_up {c s sN : Int} (hs : (s = 208 ∧ sN = 23) ∨ (s = 211 ∧ sN = 26 ∧ d = 0)) (B : BS n b (l + 1) (p + 1) m d hc hr) (hp : p ≤ 2 * l + 2) (hm : m ≤ l) (hc8 : c < hI hc 15 8) (hA : cdA hc p [253]) : JJ p m hc hr (fun hc' hr' => ∃ l', SQ n b l p m d c l' hc' hr') (((c65 s hc).bind (fun h18 => some ((1 : Int), h18))).bind (fun v9 => if v9.1 = 0 then some (0, v9.2) else c64_j129 v9.2)) (c211_j294 sN hr) := by
  unfold c211_j294 c211_j303
  obtain ⟨w1, B4⟩ := BS_w (v := s) B (by omega)
  obtain ⟨hr5, n1, B6, f6, ⟨n2, n3, n4, n5, n6⟩, n7, -⟩ := BS_nt (s := sN) (x := 0) (y := 0) (z := 0) (t := 22) (.inr rfl) B4 (by omega)
  rw [w1, n1]
  simp only [bsome]
  rw [if_neg (show ¬ (1 : Int) = 0 by omega)]
  have fcB : FC p hc (sI (sI hc 17 (p + 1) s) 15 7 ((p + 1 + 1 : Nat) : Int)) := FC_tr (FC_sI (by omega)) (FC_sI (by omega))
  refine JJ_re fcB f6 (SM_e2 (l' := l + 1) (m1 := m) (cl := 2) (C := [253] ++ [s]) rfl B6 (by omega) (by omega) (by omega) (by omega) (Int.lt_of_lt_of_le hc8 fcB.2) (cdA_sn hA rfl) n7 n6 ?_) (by omega) (by omega)
  rcases hs with ⟨rfl, rfl⟩ | ⟨rfl, rfl, hd0⟩
  · exact .inr (.inr (.inl ⟨n2, rfl⟩))
  · exact .inr (.inr (.inr (.inl ⟨n2, rfl, by omega⟩)))
/-- what the class does with a statement of one word -/
theorem c73_up {s : Int} (h1 : s ≠ 209) (h2 : s ≠ 210) {h : hS} : c73_j39 s h = (c65 s h).bind (fun h18 => some ((1 : Int), h18)) := by
  unfold c73_j39
  refine congrArg _ (funext fun h3 => ?_)
  rw [if_neg h1, if_neg h2]
/-- do NAME ; -/
theorem SM_do {c : Int} (B : BS n b (l + 1) (p + 1) m d hc hr) (hp : p ≤ 2 * l + 2) (hm : m ≤ l) (hc8 : c < hI hc 15 8) (hA : cdA hc p [253]) : JJ p m hc hr (fun hc' hr' => ∃ l', SQ n b l p m d c l' hc' hr') ((c73_j39 209 hc).bind (fun v9 => if v9.1 = 0 then some (0, v9.2) else c64_j129 v9.2)) (c211_j218 109 hr) := by
  obtain ⟨w1, B2⟩ := BS_w (v := 209) B (by omega)
  obtain ⟨f, v, hc1, hr1, g1, g2, fc1, fr1, g⟩ := BS_nm B2
  unfold c73_j39 c211_j218
  rw [w1, g2]
  simp only [bsome]
  rw [if_pos trivial]
  unfold c73_j58
  rw [g1]
  simp only [bsome]
  have fcA := FC_tr (FC_sI (p := p) (h := hc) (x := 17) (i := p + 1) (v := 209) (by omega)) (FC_sI (x := 15) (i := 7) (v := ((p + 1 + 1 : Nat) : Int)) (by omega))
  have cA := cdA_sn (z := ((p + 1 + 1 : Nat) : Int)) (v := 209) (q := p + 1) hA rfl
  generalize sI (sI hc 17 (p + 1) 209) 15 7 ((p + 1 + 1 : Nat) : Int) = hc2 at fcA cA B2 g1 fc1 g ⊢
  rcases g with ⟨rfl, v1, v2, B3, f1, f2⟩ | ⟨rfl, rfl, L1, e7⟩
  · obtain ⟨w2, B5⟩ := BS_w (v := v) B3 (by omega)
    obtain ⟨hr5, n1, B6, f6, ⟨n2, n3, n4, n5, n6⟩, n7, -⟩ := BS_nt (s := 24) (x := v) (y := v) (z := 0) (t := 22) (.inr rfl) B5 (by omega)
    rw [w2]
    simp only [bsome]
    rw [if_neg (show ¬ v = -1 by omega), if_neg (show ¬ (1 : Int) = 0 by omega), if_neg (show ¬ (109 : Int) = 110 by omega)]
    unfold c211_j248 c211_j263 c211_j303
    rw [if_pos (show (109 : Int) = 109 from rfl), v2, n1]
    simp only [bsome]
    rw [if_neg (show ¬ (1 : Int) = 0 by omega)]
    have fcB := FC_tr fcA (FC_tr (FC_mn fc1 (show p ≤ p + 1 + 1 by omega)) (FC_tr (FC_sI (p := p) (h := hc1) (x := 17) (i := p + 1 + 1) (v := v) (by omega)) (FC_sI (x := 15) (i := 7) (v := ((p + 1 + 1 + 1 : Nat) : Int)) (by omega))))
    have cB : cdA hc1 p ([253] ++ [209]) := cdA_cg cA (fun j hj => f1.2 17 j (by omega))
    refine JJ_re fcB (FR_tr fr1 f6) (SM_e2 (l' := l + 1 + 1) (m1 := m) (cl := 3) (C := [253] ++ [209] ++ [v]) rfl B6 (by omega) (by omega) (by omega) (by omega) (Int.lt_of_lt_of_le hc8 fcB.2) (cdA_sn cB rfl) n7 n6 ?_) (by omega) (by omega)
    exact .inr (.inr (.inr (.inr (.inl ⟨n2, by rw [n3]; exact v1, by rw [n3]⟩))))
  · have w2 := c65_e (v := -1) e7 (by have := B2.2.2.2.1.1; have := B2.1.2.2.1; have := TK_len (n := n) (b := b); have := B2.1.2.2.2.2.1.2.1; omega)
    rw [w2]
    simp only [bsome]
    rw [if_pos trivial]
    exact JJ_no (FC_tr fcA (FC_tr (FC_mn fc1 (by omega)) (FC_tr (FC_sI (by omega)) (FC_sI (by omega))))) fr1 (FL_w L1)
/-- send NAME NAME ; -/
theorem SM_send {c : Int} (B : BS n b (l + 1) (p + 1) m d hc hr) (hp : p ≤ 2 * l + 2) (hm : m ≤ l) (hc8 : c < hI hc 15 8) (hA : cdA hc p [253]) : JJ p m hc hr (fun hc' hr' => ∃ l', SQ n b l p m d c l' hc' hr') (((c45 hc).bind (fun v9 => if v9.1 = (-1) then some (0, v9.2) else (c65 1 v9.2).bind (fun h11 => (c65 v9.1 h11).bind (fun h12 => c73_j39 210 h12)))).bind (fun v9 => if v9.1 = 0 then some (0, v9.2) else c64_j129 v9.2)) (c211_j218 110 hr) := by
  obtain ⟨f, v, hc1, hr1, g1, g2, fc1, fr1, g⟩ := BS_nm B
  unfold c211_j218
  rw [g1, g2]
  simp only [bsome]
  rcases g with ⟨rfl, v1, v2, B1, f1, f2⟩ | ⟨rfl, rfl, L1, e7⟩
  · rw [if_neg (show ¬ v = -1 by omega), if_neg (show ¬ (1 : Int) = 0 by omega), if_pos trivial]
    obtain ⟨w1, B2⟩ := BS_w (v := 1) B1 (by omega)
    obtain ⟨w2, B3⟩ := BS_w (v := v) B2 (by omega)
    rw [w1]
    simp only [bsome]
    rw [w2]
    simp only [bsome]
    obtain ⟨w3, B4⟩ := BS_w (v := 210) B3 (by omega)
    obtain ⟨f', u, hc4, hr4, g1', g2', fc4, fr4, g'⟩ := BS_nm B4
    unfold c73_j39
    rw [w3, g2', v2]
    simp only [bsome]
    rw [if_neg (show ¬ (210 : Int) = 209 by omega), if_pos trivial]
    unfold c73_j58
    rw [g1']
    simp only [bsome]
    have fcA := FC_tr (FC_mn fc1 (show p ≤ p + 1 by omega)) (FC_tr (FC_tr (FC_sI (p := p) (h := hc1) (x := 17) (i := p + 1) (v := 1) (by omega)) (FC_sI (x := 15) (i := 7) (v := ((p + 1 + 1 : Nat) : Int)) (by omega))) (FC_tr (FC_tr (FC_sI (x := 17) (i := p + 1 + 1) (v := v) (by omega)) (FC_sI (x := 15) (i := 7) (v := ((p + 1 + 1 + 1 : Nat) : Int)) (by omega))) (FC_tr (FC_sI (x := 17) (i := p + 1 + 1 + 1) (v := 210) (by omega)) (FC_sI (x := 15) (i := 7) (v := ((p + 1 + 1 + 1 + 1 : Nat) : Int)) (by omega)))))
    have cA : cdA hc1 p [253] := cdA_cg hA (fun j hj => by
      have hj : j < p + 1 := hj
      rw [f1.2 17 j (by omega)])
    have cC := cdA_sn (z := ((p + 1 + 1 + 1 + 1 : Nat) : Int)) (v := 210) (q := p + 1 + 1 + 1) (cdA_sn (z := ((p + 1 + 1 + 1 : Nat) : Int)) (v := v) (q := p + 1 + 1) (cdA_sn (z := ((p + 1 + 1 : Nat) : Int)) (v := 1) (q := p + 1) cA rfl) rfl) rfl
    rcases g' with ⟨rfl, u1, u2, B5, f3, f4⟩ | ⟨rfl, rfl, L1, e7⟩
    · obtain ⟨w4, B6⟩ := BS_w (v := u) B5 (by omega)
      obtain ⟨hr5, n1, B7, f7, ⟨n2, n3, n4, n5, n6⟩, n7, -⟩ := BS_nt (s := 25) (x := v) (y := u) (z := 0) (t := 22) (.inr rfl) B6 (by omega)
      rw [w4]
      simp only [bsome]
      rw [if_neg (show ¬ u = -1 by omega), if_neg (show ¬ (1 : Int) = 0 by omega)]
      unfold c211_j248 c211_j263 c211_j303
      rw [if_neg (show ¬ (110 : Int) = 109 by omega), u2, n1]
      simp only [bsome]
      rw [if_neg (show ¬ (1 : Int) = 0 by omega)]
      have fcB := FC_tr fcA (FC_tr (FC_mn fc4 (show p ≤ p + 1 + 1 + 1 + 1 by omega)) (FC_tr (FC_sI (p := p) (h := hc4) (x := 17) (i := p + 1 + 1 + 1 + 1) (v := u) (by omega)) (FC_sI (x := 15) (i := 7) (v := ((p + 1 + 1 + 1 + 1 + 1 : Nat) : Int)) (by omega))))
      have cB : cdA hc4 p ([253] ++ [1] ++ [v] ++ [210]) := cdA_cg cC (fun j hj => f3.2 17 j (by omega))
      refine JJ_re fcB (FR_tr fr1 (FR_tr fr4 f7)) (SM_e2 (l' := l + 1 + 1 + 1) (m1 := m) (cl := 5) (C := [253] ++ [1] ++ [v] ++ [210] ++ [u]) rfl B7 (by omega) (by omega) (by omega) (by omega) (Int.lt_of_lt_of_le hc8 fcB.2) (cdA_sn cB rfl) n7 n6 ?_) (by omega) (by omega)
      exact .inr (.inr (.inr (.inr (.inr (.inl ⟨n2, by rw [n3]; exact v1, by rw [n4]; exact u1, by rw [n3, n4]⟩)))))
    · have w4 := c65_e (v := -1) e7 (by have := B4.2.2.2.1.1; have := B4.1.2.2.1; have := TK_len (n := n) (b := b); have := B4.1.2.2.2.2.1.2.1; omega)
      rw [w4]
      simp only [bsome]
      rw [if_pos trivial]
      exact JJ_no (FC_tr fcA (FC_tr (FC_mn fc4 (by omega)) (FC_tr (FC_sI (by omega)) (FC_sI (by omega))))) (FR_tr fr1 fr4) (FL_w L1)
  · rw [if_pos rfl]
    simp only [bsome]
    exact JJ_no (FC_mn fc1 (by omega)) fr1 L1
end STQ
