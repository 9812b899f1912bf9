/-! an expression is worked out alike (2) -/
section EVB
variable {tx F x c d p m qq a0 : Nat} {K : Nat → Int → Prop} {r : Int → Nat}
theorem okE_tr {q L L' n n' : Nat} {h h1 h2 : hS} {v v' : Int} (a : okE F q L n h h1 v) (b : okE F (q + L) L' n' h1 h2 v') (hn : n' ≤ n) (hn2 : n ≤ n' ∨ True) : okE F q (L + L') n' h h2 v' := by
  obtain ⟨a1, a2, a3, a4, a5, a6, a7⟩ := a
  obtain ⟨b1, b2, b3, b4, b5, b6, b7⟩ := b
  exact ⟨ceF_tr a1 b1, by rw [b2, Nat.add_assoc], b3, b4, fun j hj => by rw [b5 j hj, a5 j (by omega)], b6, by rw [b7, a7]⟩
theorem EVL (ht : tx ≤ 6) : ∀ (k : Nat) {s i : Nat} {C : List Int} {q n nc f : Nat} {h t : hS}, EX (ntx t tx) k s i C → XCg h t F x a0 c d → (∀ (j : Nat) (v : Int), C[j]? = some v → hI h x (q + j) = v) → q + C.length ≤ hL h x → hI h F 4 = (q : Int) → hI h 22 5 = (n : Int) → n + s ≤ 64 → hI h 22 7 = -1 → hI t 395 54 = (nc : Int) → nc + i < 1200 → 2 * s ≤ f → DVq tx F q C.length n nc f d i h t
  | 0, _, _, _, _, _, _, _, _, _, E, _, _, _, _, _, _, _, _, _, _ => False.elim E
  | k + 1, s, i, C, q, n, nc, f, h, t, E, X, cd, hL', hq, hn, h64, h7, e54, hnc, hf => by
    have hi : i < 1200 := by omega
    have s1 := E.1
    obtain ⟨f0, rfl⟩ : ∃ f0, f = f0 + 1 := ⟨f - 1, by omega⟩
    have FC := X.1
    have hF := FC.2.2.2.2.2
    have hF22 : F ≠ 22 := by omega
    obtain ⟨-, E | E | E | E | ⟨e0, a, A, ea, hai, EA, rfl⟩ | ⟨a, c', A, B, op, ea, eb, hai, hci, ho, EA, EB, rfl⟩⟩ := E
    · exact EV_lf X ht cd hL' hq hn (by omega) h7 e54 hi (.inl E)
    · exact EV_lf X ht cd hL' hq hn (by omega) h7 e54 hi (.inr (.inl E))
    · exact EV_lf X ht cd hL' hq hn (by omega) h7 e54 hi (.inr (.inr (.inl E)))
    · exact EV_lf X ht cd hL' hq hn (by omega) h7 e54 hi (.inr (.inr (.inr E)))
    · -- minus
      have s2 : 2 ≤ s := by
        match k, EA with
        | 0, EA => exact False.elim EA
        | k + 1, EA => have := EA.1; omega
      obtain ⟨f1, rfl⟩ : ∃ f1, f0 = f1 + 1 := ⟨f0 - 1, by omega⟩
      rw [List.length_append] at hL'
      have hL1 : q + A.length + 1 ≤ hL h x := by have : [252].length = 1 := rfl; simp at hL'; omega
      have IH := EVL ht k (f := f1) EA X (fun j v hj => cd j v (by rw [List.getElem?_append_left]; exact hj; (by_cases z : j < A.length; exact z; rw [List.getElem?_eq_none (by omega)] at hj; cases hj))) (by omega) hq hn (by omega) h7 e54 (by omega) (by omega)
      have IC := DV_C IH e54 (by omega)
      have e258 : ∀ o, c258 (g258 f1) (gn tx a) (d : Int) t = some o → c259 (g258 (f1 + 1)) (gn tx i) (d : Int) t = (if o.1 = 0 then some (0, o.2) else (some (sI o.2 395 52 (wneg (hI o.2 395 52)))).bind (fun h14 => some (1, h14))) := fun o e => by
        unfold c259
        refine bnd (c256_e (f := 0) ht hi (by omega)) ?_
        refine bnd (show aIs t 408 21 (d : Int) = some (c : Int) by obtain ⟨-, -, d1, d2, -⟩ := X; rw [aIs_s (by omega) (by omega), Int.toNat_natCast, d2]) ?_
        rw [if_neg (by omega), if_neg (by omega), if_neg (by omega), if_neg (by omega)]
        refine bnd (c257_e (f := 1) ht hi (by omega) ea (by omega)) ?_
        rw [g258_8, e]
        rfl
      refine ⟨gn tx i, t, ?_⟩
      rcases IC with ⟨t', h1, kk, v, b1, b2, b3, b4, b5, b6, b7, b8⟩ | ⟨t', h1, kk, e, b1, b2, b3, b4, b5, b6, b7⟩
      · have FC1 := FCT_ce FC b3.1
        have cq : hI h1 x (q + A.length) = 252 := by
          rw [FCT_x FC b3.1]
          refine cd A.length 252 ?_
          rw [List.getElem?_append_right (Nat.le_refl _), Nat.sub_self]
          rfl
        obtain ⟨h2, w1, w2⟩ := neg_s FC1 b3.2.1 (by rw [FCT_L b3.1]; omega) cq b3.2.2.1 (by omega) b3.2.2.2.2.2.1 b3.2.2.2.1
        refine ⟨(1, sI t' 395 52 (wneg v)), 0, Nat.zero_le _, b8_leaf ht hi (by omega), ?_, .inl ⟨sI t' 395 52 (wneg v), h2, kk + 1, wneg v, by rw [List.length_append]; show kk + 1 ≤ A.length + 1; omega, runE_tr b2 (runE_one w1 b3.2.2.2.2.2.1 w2.1 hF22), ?_, fe_tr b4 (fe_sI (by omega)), by rw [hI_sI, if_pos ⟨rfl, rfl⟩], by rw [hI_sI, if_neg (by omega)]; exact b6, by rw [hI_sI, if_neg (by omega)]; exact b7, fun fr hfr N => rfl⟩⟩
        · rw [g258_9, e258 _ b8, if_neg (by omega), b5]
          rfl
        · rw [List.length_append]
          exact okE_tr b3 w2 (Nat.le_refl _) (.inr trivial)
      · refine ⟨(0, t'), 0, Nat.zero_le _, b8_leaf ht hi (by omega), ?_, .inr ⟨t', h1, kk, e, by rw [List.length_append]; show kk ≤ A.length + 1; omega, b2, b3, b4, b5, fun fr hfr N => b62_0⟩⟩
        rw [g258_9, e258 _ b7, if_pos rfl]
    · -- two joined
      have hs0 : 10 ≤ ntx t tx i 0 := by unfold opR at ho; omega
      have s2 : 2 ≤ s := by
        match k, EB with
        | 0, EB => exact False.elim EB
        | k + 1, EB => have := EB.1; omega
      rw [List.length_append, List.length_append] at hL'
      have hL1 : q + A.length + B.length + 1 ≤ hL h x := by simp at hL'; omega
      obtain ⟨t2, et2⟩ : ∃ t2, t2 = sI (sI t 417 nc (gn tx i)) 395 54 ((nc + 1 : Nat) : Int) := ⟨_, rfl⟩
      have fe2 : fe nc t t2 := by rw [et2]; exact fp_tr (fp_sI (.inr ⟨rfl, Nat.le_refl _⟩)) (fp_sI (.inl ⟨rfl, by omega⟩))
      have e54' : hI t2 395 54 = ((nc + 1 : Nat) : Int) := by rw [et2, hI_sI, if_pos ⟨rfl, rfl⟩]
      have e39' : hI t2 395 39 = hI t 395 39 := by rw [et2, hI_sI, if_neg (by omega), hI_sI, if_neg (by omega)]
      have e417 : hI t2 417 nc = gn tx i := by rw [et2, hI_sI, if_neg (by omega), hI_sI, if_pos ⟨rfl, rfl⟩]
      have b8i : c258_b8 (gn tx i) t = some (.inl (gn tx a, t2)) := by
        unfold c258_b8
        refine bnd (c256_e (f := 0) ht hi (by omega)) ?_
        rw [if_neg (by omega), e54, wIs_s (by omega) (by omega), Int.toNat_natCast]
        refine bnd rfl ?_
        rw [hI_sI, if_neg (by omega), e54, wadd_n (by omega), ← et2]
        refine bnd rfl ?_
        refine bnd (c257_e (t := t2) (f := 1) ht hi (by omega) (a := a) (by rw [ntx_fe fe2]; exact ea) (by omega)) ?_
        rfl
      have EA2 : EX (ntx t2 tx) k s a A := EX_cg EA (fun u _ j _ => ntx_fe fe2 tx u j)
      obtain ⟨z, t1, v7, j, hj, e1, e2, g⟩ := EVL ht k (nc := nc + 1) (f := f0 + 1) EA2 (XG_c X ceF_rf fe2) (fun j v hj => cd j v (by rw [List.getElem?_append_left]; exact hj; (by_cases z : j < A.length; exact z; rw [List.getElem?_eq_none (by omega)] at hj; cases hj))) (by omega) hq hn h64 h7 e54' (by omega) hf
      have down : ∀ N, i < N → lp (fun s => c258_b8 s.1 s.2) N (gn tx i, t) = some (z, t1) := fun N hN => by
        obtain ⟨N', rfl⟩ : ∃ N', N = N' + 1 := ⟨N - 1, by omega⟩
        rw [lp_n (s' := (gn tx a, t2)) b8i]
        exact e1 N' (by omega)
      rcases g with ⟨ta, h1, kk, va, b1, b2, b3, b4, b5, b6, b7, b8⟩ | ⟨ta, h1, kk, e, b1, b2, b3, b4, b5, b6⟩
      · have FC1 := FCT_ce FC b3.1
        have XA : XCg h1 ta F x a0 c d := XG_c X b3.1 (fe_tr fe2 (fe_mn b4 (by omega)))
        have nta : ∀ u j, ntx ta tx u j = ntx t tx u j := fun u j => by rw [ntx_fe b4, ntx_fe fe2]
        have EB2 : EX (ntx ta tx) k (s - 1) c' B := EX_cg EB (fun u _ j _ => nta u j)
        have IH := EVL ht k (q := q + A.length) (n := n + 1) (nc := nc + 1) (f := f0) EB2 XA (fun j v hj => by
          rw [FCT_x FC b3.1, Nat.add_assoc]
          refine cd (A.length + j) v ?_
          rw [List.getElem?_append_right (by omega), Nat.add_sub_cancel_left, List.getElem?_append_left]
          · exact hj
          · by_cases z : j < B.length
            · exact z
            · rw [List.getElem?_eq_none (by omega)] at hj; cases hj) (by rw [FCT_L b3.1]; omega) b3.2.1 b3.2.2.1 (by omega) b3.2.2.2.2.2.1 b6 (by omega) (by omega)
        have IC := DV_C IH b6 (by omega)
        have a417 : hI ta 417 nc = gn tx i := by rw [b4.2 417 nc (by omega)]; exact e417
        have b62 : ∀ fr : Nat, fr ≤ nc → ∀ o, c258 (g258 f0) (gn tx c') (d : Int) ta = some o → c258_b62 (g258 (f0 + 1)) (d : Int) (fr : Int) 1 ta = (if o.1 = 0 then c258_j141 o.1 va (gn tx i) o.2 else (c256 (gn tx i) 0 o.2).bind (fun v19 => if v19 = 13 then if (hI o.2 395 52) = 0 then (c261 1002 o.2).bind (fun v22 => c258_j141 v22.1 va (gn tx i) v22.2) else c258_j141 o.1 va (gn tx i) o.2 else c258_j141 o.1 va (gn tx i) o.2)) := fun fr hfr o eo => by
          unfold c258_b62
          rw [if_neg (by omega), b6, if_neg (by omega), wsub_e (by omega) (by omega), aIs_s (by omega) (by omega), show (((nc + 1 : Nat) : Int) - 1).toNat = nc by omega, a417]
          refine bnd rfl ?_
          refine bnd (c257_e (t := ta) (f := 2) ht hi (by omega) (a := c') (by rw [nta]; exact eb) (by omega)) ?_
          rw [g258_8, b5]
          exact bnd eo rfl
        have j141 : ∀ (ok : Int) (T : hS), hI T 395 54 = ((nc + 1 : Nat) : Int) → ok = 0 → c258_j141 ok va (gn tx i) T = some (.inl (0, sI T 395 54 (nc : Int))) := fun ok T e hok => by
          unfold c258_j141 c258_j166
          rw [if_pos hok, e, wsub_e (by omega) (by omega), hok, show ((nc + 1 : Nat) : Int) - 1 = (nc : Int) by omega]
          rfl
        rcases IC with ⟨tc, h2, kk2, vb, c1, c2, c3, c4, c5, c6, c7, c8⟩ | ⟨tc, h2, kk2, e, c1, c2, c3, c4, c5, c6, c7⟩
        · have FC2 := FCT_ce FC1 c3.1
          have ntc : ntx tc tx i 0 = ntx t tx i 0 := by rw [ntx_fe c4, nta]
          have cq : hI h2 x (q + A.length + B.length) = op := by
            rw [FCT_x FC1 c3.1, FCT_x FC b3.1, Nat.add_assoc]
            refine cd (A.length + B.length) op ?_
            rw [List.getElem?_append_right (by omega), Nat.add_sub_cancel_left, List.getElem?_append_right (Nat.le_refl _), Nat.sub_self]
            rfl
          have w25 : hI h2 25 n = va := by rw [c3.2.2.2.2.1 n (by omega)]; exact b3.2.2.2.1
          have fall : fe nc t tc := fe_tr fe2 (fe_tr (fe_mn b4 (by omega)) (fe_mn c4 (by omega)))
          rcases op_st (hr := tc) ho FC2 c3.2.1 (by rw [FCT_L c3.1, FCT_L b3.1]; omega) cq c3.2.2.1 (by omega) c3.2.2.2.2.2.1 w25 c3.2.2.2.1 with ⟨⟨y1, y2⟩, h3, w1, w2⟩ | ⟨y, v, h3, w0, w1, w2⟩
          · refine ⟨z, t1, v7, j + 1, by omega, down, e2, .inr ⟨sI (sI tc 395 39 1002) 395 54 (nc : Int), h3, kk + kk2 + 1, 1002, by rw [List.length_append, List.length_append]; show kk + kk2 + 1 ≤ A.length + (B.length + 1); omega, runE_tr (runE_tr b2 c2) (runE_one w1 c3.2.2.2.2.2.1 w2.1 hF22), ⟨ceF_tr b3.1 (ceF_tr c3.1 w2.1), w2.2⟩, fe_tr fall (fe_tr (fe_sI (by omega)) (fe_sI (by omega))), by rw [hI_sI, if_neg (by omega), hI_sI, if_pos ⟨rfl, rfl⟩], fun fr hfr N => ?_⟩⟩
            rw [show N + (j + 1) + 1 = (N + 2) + j by omega, b8 fr (by omega) (N + 2)]
            rw [lp_n (s' := ((0 : Int), sI (sI tc 395 39 1002) 395 54 (nc : Int))) (n := N + 1)]
            · exact b62_0
            · show c258_b62 (g258 (f0 + 1)) (d : Int) (fr : Int) 1 ta = _
              rw [b62 fr hfr _ c8, if_neg (by omega)]
              refine bnd (c256_e (f := 0) ht hi (by omega)) ?_
              rw [ntc, if_pos y1, if_pos (by rw [c5]; exact y2)]
              refine bnd rfl ?_
              exact j141 0 _ (by rw [hI_sI, if_neg (by omega)]; exact c6) rfl
          · refine ⟨z, t1, v7, j + 1, by omega, down, e2, .inl ⟨sI (sI tc 395 52 v) 395 54 (nc : Int), h3, kk + kk2 + 1, v, by rw [List.length_append, List.length_append]; show kk + kk2 + 1 ≤ A.length + (B.length + 1); omega, runE_tr (runE_tr b2 c2) (runE_one w1 c3.2.2.2.2.2.1 w2.1 hF22), ?_, fe_tr fall (fe_tr (fe_sI (by omega)) (fe_sI (by omega))), by rw [hI_sI, if_neg (by omega), hI_sI, if_pos ⟨rfl, rfl⟩], by rw [hI_sI, if_pos ⟨rfl, rfl⟩], by rw [hI_sI, if_neg (by omega), hI_sI, if_neg (by omega), c7, b7, e39'], fun fr hfr N => ?_⟩⟩
            · rw [List.length_append, List.length_append]
              show okE F q (A.length + (B.length + 1)) n h h3 v
              exact ⟨ceF_tr b3.1 (ceF_tr c3.1 w2.1), by rw [w2.2.1, show q + A.length + B.length + 1 = q + (A.length + (B.length + 1)) by omega], w2.2.2.1, w2.2.2.2.1, fun j hj => by rw [w2.2.2.2.2.1 j hj, c3.2.2.2.2.1 j (by omega), b3.2.2.2.2.1 j hj], w2.2.2.2.2.2.1, by rw [w2.2.2.2.2.2.2, c3.2.2.2.2.2.2, b3.2.2.2.2.2.2]⟩
            · rw [show N + (j + 1) = (N + 1) + j by omega, b8 fr (by omega) (N + 1)]
              rw [lp_n (s' := ((1 : Int), sI (sI tc 395 52 v) 395 54 (nc : Int))) (n := N)]
              show c258_b62 (g258 (f0 + 1)) (d : Int) (fr : Int) 1 ta = _
              rw [b62 fr hfr _ c8, if_neg (by omega)]
              refine bnd (c256_e (f := 0) ht hi (by omega)) ?_
              have ej : c258_j141 1 va (gn tx i) tc = some (.inl (1, sI (sI tc 395 52 v) 395 54 (nc : Int))) := by
                unfold c258_j141 c258_j166
                rw [if_neg (by omega)]
                refine bnd (c256_e (f := 0) ht hi (by omega)) ?_
                rw [ntc, c5]
                refine bnd w0 ?_
                refine bnd rfl ?_
                rw [hI_sI, if_neg (by omega), c6, wsub_e (by omega) (by omega), show ((nc + 1 : Nat) : Int) - 1 = (nc : Int) by omega]
                rfl
              rw [ntc]
              by_cases y1 : ntx t tx i 0 = 13
              · rw [if_pos y1, if_neg (by rw [c5]; exact fun y2 => y ⟨y1, y2⟩)]
                exact ej
              · rw [if_neg y1]
                exact ej
        · refine ⟨z, t1, v7, j + 1, by omega, down, e2, .inr ⟨sI tc 395 54 (nc : Int), h2, kk + kk2, e, by rw [List.length_append, List.length_append]; omega, runE_tr b2 c2, ⟨ceF_tr b3.1 c3.1, c3.2⟩, fe_tr fe2 (fe_tr (fe_mn b4 (by omega)) (fe_tr (fe_mn c4 (by omega)) (fe_sI (by omega)))), by rw [hI_sI, if_neg (by omega)]; exact c5, fun fr hfr N => ?_⟩⟩
          rw [show N + (j + 1) + 1 = (N + 2) + j by omega, b8 fr (by omega) (N + 2)]
          rw [lp_n (s' := ((0 : Int), sI tc 395 54 (nc : Int))) (n := N + 1)]
          · exact b62_0
          · show c258_b62 (g258 (f0 + 1)) (d : Int) (fr : Int) 1 ta = _
            rw [b62 fr hfr _ c7, if_pos rfl]
            exact j141 0 _ c6 rfl
      · refine ⟨z, t1, v7, j, by omega, down, e2, .inr ⟨ta, h1, kk, e, by rw [List.length_append]; omega, b2, b3, fe_tr fe2 (fe_mn b4 (by omega)), b5, fun fr hfr N => b6 fr (by omega) N⟩⟩
end EVB
