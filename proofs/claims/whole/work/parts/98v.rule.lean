/-! a rule: one expression, its code copied -/
section RUL
variable {sl n : Nat} {b : Nat → Int} {l p m d : Nat} {hc hr : hS}
theorem X0_use {h t : hS} (B : BX 1 n b l 0 m 0 h t) (hm : m ≤ l) : JJ 0 m h t (fun hc' hr' => ∃ l', XQe 1 n b l 0 m 0 53 l' hc' hr') (g67 120 67 [0, 0] h) (g214 120 214 [] t) := X0e (by omega) l 0 m h t B (by omega) hm
theorem RULE (B : BX sl n b l p m d hc hr) (hm : m ≤ l) (t17 : hT hc 17 = 1) (l17 : hL hc 17 = 4000) (hN8 : 18 ≤ hN hc) : (∃ (l' m' i : Nat) (C : List Int) (h3 t1 : hS), c86 hc = some (hN hc, h3) ∧ g214 120 214 [] (sI hr 395 18 0) = some (1, t1) ∧ BX 1 n b l' (C.length + 1) m' 0 h3 t1 ∧ (C.length + 2 * l ≤ 2 * l' ∧ m' + l ≤ m + l' ∧ m < m' ∧ l < l') ∧ FK (hN hc) hc h3 ∧ (hN h3 = hN hc + 1 ∧ hM h3 = hM hc + (C.length + 1)) ∧ (∀ x, 18 ≤ x → x < hN hc → sm hc h3 x) ∧ FR m hr t1 ∧ hT h3 (hN hc) = 1 ∧ hL h3 (hN hc) = C.length + 1 ∧ (∀ (i : Nat) (z : Int), (C ++ [206])[i]? = some z → hI h3 (hN hc) i = z) ∧ hI t1 395 19 = (i : Int) ∧ i < m' ∧ EX (nd t1) (i + 1) 53 i C) ∨ (∃ h1 t1 : hS, c86 hc = some (0, h1) ∧ g214 120 214 [] (sI hr 395 18 0) = some (0, t1) ∧ FK (hN hc) hc h1 ∧ FR m hr t1 ∧ FL h1 t1 ∧ hN h1 = hN hc ∧ hM h1 = hM hc) := by
  have B0 : BX 1 n b l 0 m 0 (sI hc 15 7 0) (sI hr 395 18 0) := by
    obtain ⟨R, ⟨F, N, t, l16⟩, ⟨b1, b2, b3⟩, ⟨b4, b5⟩, b6⟩ := B
    refine ⟨RD_cgr (RD_cgc R (fun x j hx => by rw [hI_sI, if_neg (by omega)])) (fun x j hx => by rw [hI_sI, if_neg (by omega)]) (fun _ _ _ => rfl), ⟨?_, nmR_r (nmR_c N ?_ (fun j => ?_)) ?_ (fun _ => rfl), t, ⟨l16.1, by rw [hI_sI, if_neg (by omega)]; exact l16.2.1, by rw [hI_sI, if_neg (by omega)]; exact l16.2.2⟩⟩, ⟨?_, ?_, ?_⟩, ⟨by omega, b5⟩, fun h => absurd h (by omega)⟩
    · rw [hI_sI, if_neg (by omega)]; exact F
    · rw [hI_sI, if_neg (by omega)]
    · rw [hI_sI, if_neg (by omega)]
    · rw [hI_sI, if_neg (by omega)]
    · rw [hI_sI, if_pos ⟨rfl, rfl⟩]; rfl
    · rw [hI_sI, if_neg (by omega)]; exact b2
    · rw [hI_sI, if_pos ⟨rfl, rfl⟩]; rfl
  have k0 : FK (hN hc) hc (sI hc 15 7 0) := ⟨⟨Nat.le_refl _, Nat.le_refl _⟩, fun x hx => ⟨rfl, rfl, fun _ => rfl, fun j q => by rw [hI_sI, if_neg (by omega)]⟩⟩
  have s0 : ∀ x, 18 ≤ x → sm hc (sI hc 15 7 0) x := fun x hx => ⟨fun j => by rw [hI_sI, if_neg (by omega)], fun _ => rfl, rfl, rfl⟩
  have g0 : FR m hr (sI hr 395 18 0) := FR_sI (by omega)
  have n0 : hN (sI hc 15 7 0) = hN hc := rfl
  have m0 : hM (sI hc 15 7 0) = hM hc := rfl
  have c86e : c86 hc = (g67 120 67 [0, 0] (sI hc 15 7 0)).bind (fun v2 => if v2.1 = 0 then some (0, v2.2) else (c65 206 v2.2).bind (fun h4 => (c74 17 (hI h4 15 7) h4).bind (fun v5 => some (v5.1, v5.2)))) := rfl
  rw [c86e]
  generalize sI hc 15 7 0 = hA at B0 k0 s0 n0 m0 ⊢
  generalize sI hr 395 18 0 = tA at B0 g0 ⊢
  obtain ⟨h1, t1, f1, r1, ⟨e1, e2, l', m', i, C, B1, ⟨c1, c2, c3, c4⟩, A1, i1, i2, E1⟩ | ⟨e1, e2, e3⟩⟩ := X0_use B0 hm
  · obtain ⟨w1, B2⟩ := BX_w (v := 206) B1 (by omega)
    have rm1 := TK_len (n := n) (b := b)
    have rm2 := B1.1.2.2.1
    have rm3 := B1.1.2.2.2.2.1.2.1
    have rm4 := B1.2.2.2.1.1
    have f2 : FC 0 hA (sI (sI h1 17 (0 + C.length) 206) 15 7 ((0 + C.length + 1 : Nat) : Int)) := FC_tr f1 (FC_tr (FC_sI (by omega)) (FC_sI (by omega)))
    have A2 : cdA (sI (sI h1 17 (0 + C.length) 206) 15 7 ((0 + C.length + 1 : Nat) : Int)) 0 (C ++ [206]) := cdA_sn A1 rfl
    have p2 := B2.2.2.1.1
    generalize sI (sI h1 17 (0 + C.length) 206) 15 7 ((0 + C.length + 1 : Nat) : Int) = h2 at w1 B2 f2 A2 p2
    obtain ⟨fn, fm⟩ := FC_nm f2
    have k2 := FK_tr k0 (FK_FC (N0 := hN hc) f2)
    obtain ⟨h3, u1, u2, u3, u4, u5, u6, u7⟩ := c74_e (hc := h2) (q := 0 + C.length + 1) (by rw [(k2.2 17 (by omega)).1]; exact t17) (by rw [(k2.2 17 (by omega)).2.1]; exact l17) (by omega) (by omega)
    have en : hN h2 = hN hc := by rw [fn, n0]
    rw [en] at u1 u2 u4 u5 u6 u7
    refine .inl ⟨l', m', i, C, h3, t1, ?_, e2, ?_, ⟨by omega, by omega, c3, c4⟩, FK_tr k2 (FK_FZ u4), ⟨u2, by rw [u3, fm, m0]; omega⟩, fun x h18 hx => sm_tr (s0 x h18) (sm_tr (FC_x f2 x h18) (u4.2 x hx)), FR_tr g0 r1, u5, by rw [u6]; omega, fun i z hz => ?_, i1, i2, E1⟩
    · refine bnd e1 ?_
      refine (if_neg (show ¬ (1 : Int) = 0 by omega)).trans ?_
      refine bnd w1 ?_
      rw [p2, u1]
      rfl
    · have := BS_z B2 u4 hN8
      rw [show 0 + C.length + 1 = C.length + 1 by omega] at this
      exact this
    · have hi : i < (C ++ [206]).length := by
        by_cases c : i < (C ++ [206]).length
        · exact c
        · rw [List.getElem?_eq_none (by omega)] at hz; cases hz
      simp at hi
      rw [u7 i (by omega)]
      have := A2 i z hz
      rw [Nat.zero_add] at this
      exact this
  · exact .inr ⟨h1, t1, bnd e1 (if_pos rfl), e2, FK_tr k0 (FK_FC f1), FR_tr g0 r1, e3, by rw [(FC_nm f1).1, n0], by rw [(FC_nm f1).2, m0]⟩
end RUL
