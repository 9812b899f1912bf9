/-! read as functions: laid by wip/whole/shallow.py -/
def c84_j136 (l2 : Int) (h : hS) : Option ((Int × hS) ⊕ ((hS) ⊕ (Int × hS))) :=
  some (.inl ((wadd l2 1), h))
theorem t84_j136 {d : Nat} (hd : 245 ≤ d) {l2 : Int} {l1 : Int} {z3 : Option hO} {z4 : Option hO} {h : hS} {w : mmW} {o : (Int × hS) ⊕ ((hS) ⊕ (Int × hS))} {Q : mmO → Prop} (rl2 : rg l2) (A : Abs h w) (e : c84_j136 l2 h = some o) (kb : ∀ (s_0 : Int) (s_1 : hS), o = .inl (s_0, s_1) → ∀ w', ∀ (y3 y4 : Option hO), rg s_0 → Abs s_1 w' → hG d 84 59 [some (vr 15), some (vi l1), some (vi s_0), y3, y4] [] w' Q) (ke : ∀ (x_0 : hS), o = .inr (.inl (x_0)) → ∀ w', ∀ (y2 y3 y4 : Option hO), Abs x_0 w' → hG d 84 142 [some (vr 15), some (vi l1), y2, y3, y4] [] w' Q) (kr : ∀ (v1 : Int) (h1 : hS), o = .inr (.inr (v1, h1)) → ∀ w', rg v1 → Abs h1 w' → Q (some (.int (Int32.ofInt v1)), w')) : hG d 84 136 [some (vr 15), some (vi l1), some (vi l2), z3, z4] [] w Q := by
  unfold c84_j136 at e
  refine hg_run 2 (pc' := 59) (ls' := [some (vr 15), some (vi l1), some (vi (wadd l2 1)), z3, z4]) (st' := []) rfl ?_
  cases e
  exact kb (wadd l2 1) h rfl _ _ _ (rg_add _ _) A
def c84_j106 (s0 : Int) (l1 : Int) (l2 : Int) (l3 : Int) (h : hS) : Option ((Int × hS) ⊕ ((hS) ⊕ (Int × hS))) :=
  if s0 = 0 then
  (c59 l1 0 h).bind (fun v17 =>
  if v17.1 = 0 then
  some (.inr (.inr (0, v17.2)))
  else
  c84_j136 l2 v17.2)
  else
  (c85 l1 l3 h).bind (fun v19 =>
  if v19.1 = 0 then
  some (.inr (.inr (0, v19.2)))
  else
  c84_j136 l2 v19.2)
theorem t84_j106 {d : Nat} (hd : 245 ≤ d) {s0 : Int} {l1 : Int} {l2 : Int} {l3 : Int} {z4 : Option hO} {h : hS} {w : mmW} {o : (Int × hS) ⊕ ((hS) ⊕ (Int × hS))} {Q : mmO → Prop} (rs0 : rg s0) (rl1 : rg l1) (rl2 : rg l2) (rl3 : rg l3) (A : Abs h w) (e : c84_j106 s0 l1 l2 l3 h = some o) (kb : ∀ (s_0 : Int) (s_1 : hS), o = .inl (s_0, s_1) → ∀ w', ∀ (y3 y4 : Option hO), rg s_0 → Abs s_1 w' → hG d 84 59 [some (vr 15), some (vi l1), some (vi s_0), y3, y4] [] w' Q) (ke : ∀ (x_0 : hS), o = .inr (.inl (x_0)) → ∀ w', ∀ (y2 y3 y4 : Option hO), Abs x_0 w' → hG d 84 142 [some (vr 15), some (vi l1), y2, y3, y4] [] w' Q) (kr : ∀ (v1 : Int) (h1 : hS), o = .inr (.inr (v1, h1)) → ∀ w', rg v1 → Abs h1 w' → Q (some (.int (Int32.ofInt v1)), w')) : hG d 84 106 [some (vr 15), some (vi l1), some (vi l2), some (vi l3), z4] [vI s0] w Q := by
  unfold c84_j106 at e
  refine hg_run 2 (pc' := 110) (ls' := [some (vr 15), some (vi l1), some (vi l2), some (vi l3), some (vi s0)]) (st' := [vI s0]) rfl ?_
  rcases oi e with ⟨q16, e⟩ | ⟨q16, e⟩
  · refine hg_ifT (tgt := 125) rfl (by decide) rs0 q16 ?_
    refine hg_run 3 (pc' := 128) (ls' := [some (vr 15), some (vi l1), some (vi l2), some (vi l3), some (vi s0)]) (st' := [vR 0, vI l1, vR 15]) rfl ?_
    obtain ⟨v17, e17, e⟩ := ob e
    refine hg_cI (as := [vR 15, vI l1, vR 0]) (st' := []) rfl (fun _ _ _ _ => rfl) rfl rfl (Nat.le_of_ble_eq_true rfl) (Nat.le_of_ble_eq_true rfl) (recvV A (a := 2) (Abs_ks A (i := 7) rfl).1) (t59 (by omega) A rl1 e17) (fun w17 r17 A17 => ?_)
    rcases oi e with ⟨q18, e⟩ | ⟨q18, e⟩
    · refine hg_ifF (tgt := 136) rfl (by decide) r17 (show ¬ ¬ (v17.1 = 0) from fun f => f q18) ?_
      refine hg_run 1 (pc' := 135) (ls' := [some (vr 15), some (vi l1), some (vi l2), some (vi l3), some (vi s0)]) (st' := [vI 0]) rfl ?_
      cases e
      exact hg_retI rfl (by decide) (fit_B (.inl rfl)) (kr _ _ rfl _ (rgn 0 rfl) A17)
    · refine hg_ifT (tgt := 136) rfl (by decide) r17 (show ¬ (v17.1 = 0) from q18) ?_
      exact t84_j136 hd rl2 A17 e kb ke kr
  · refine hg_ifF (tgt := 125) rfl (by decide) rs0 q16 ?_
    refine hg_run 3 (pc' := 116) (ls' := [some (vr 15), some (vi l1), some (vi l2), some (vi l3), some (vi s0)]) (st' := [vI l3, vI l1, vR 15]) rfl ?_
    obtain ⟨v19, e19, e⟩ := ob e
    refine hg_cI (as := [vR 15, vI l1, vI l3]) (st' := []) rfl (fun _ _ _ _ => rfl) rfl rfl (Nat.le_of_ble_eq_true rfl) (Nat.le_of_ble_eq_true rfl) (recvV A (a := 2) (Abs_ks A (i := 7) rfl).1) (t85 (by omega) A rl1 rl3 e19) (fun w19 r19 A19 => ?_)
    rcases oi e with ⟨q20, e⟩ | ⟨q20, e⟩
    · refine hg_ifT (tgt := 134) rfl (by decide) r19 q20 ?_
      refine hg_run 1 (pc' := 135) (ls' := [some (vr 15), some (vi l1), some (vi l2), some (vi l3), some (vi s0)]) (st' := [vI 0]) rfl ?_
      cases e
      exact hg_retI rfl (by decide) (fit_B (.inl rfl)) (kr _ _ rfl _ (rgn 0 rfl) A19)
    · refine hg_ifF (tgt := 134) rfl (by decide) r19 q20 ?_
      refine hg_run 1 (pc' := 136) (ls' := [some (vr 15), some (vi l1), some (vi l2), some (vi l3), some (vi s0)]) (st' := []) rfl ?_
      exact t84_j136 hd rl2 A19 e kb ke kr
def c84_j101 (l1 : Int) (l2 : Int) (l3 : Int) (h : hS) : Option ((Int × hS) ⊕ ((hS) ⊕ (Int × hS))) :=
  c84_j106 1 l1 l2 l3 h
theorem t84_j101 {d : Nat} (hd : 245 ≤ d) {l1 : Int} {l2 : Int} {l3 : Int} {z4 : Option hO} {h : hS} {w : mmW} {o : (Int × hS) ⊕ ((hS) ⊕ (Int × hS))} {Q : mmO → Prop} (rl1 : rg l1) (rl2 : rg l2) (rl3 : rg l3) (A : Abs h w) (e : c84_j101 l1 l2 l3 h = some o) (kb : ∀ (s_0 : Int) (s_1 : hS), o = .inl (s_0, s_1) → ∀ w', ∀ (y3 y4 : Option hO), rg s_0 → Abs s_1 w' → hG d 84 59 [some (vr 15), some (vi l1), some (vi s_0), y3, y4] [] w' Q) (ke : ∀ (x_0 : hS), o = .inr (.inl (x_0)) → ∀ w', ∀ (y2 y3 y4 : Option hO), Abs x_0 w' → hG d 84 142 [some (vr 15), some (vi l1), y2, y3, y4] [] w' Q) (kr : ∀ (v1 : Int) (h1 : hS), o = .inr (.inr (v1, h1)) → ∀ w', rg v1 → Abs h1 w' → Q (some (.int (Int32.ofInt v1)), w')) : hG d 84 101 [some (vr 15), some (vi l1), some (vi l2), some (vi l3), z4] [] w Q := by
  unfold c84_j101 at e
  refine hg_run 2 (pc' := 106) (ls' := [some (vr 15), some (vi l1), some (vi l2), some (vi l3), z4]) (st' := [vI 1]) rfl ?_
  exact t84_j106 hd (rgn 1 rfl) rl1 rl2 rl3 A e kb ke kr
def c84_b59 (l1 : Int) (l2 : Int) (h : hS) : Option ((Int × hS) ⊕ ((hS) ⊕ (Int × hS))) :=
  if 1000 ≤ l2 then
  some (.inr (.inl (h)))
  else
  (c39  h).bind (fun v12 =>
  if v12 = 125 then
  some (.inr (.inl (h)))
  else
  (c39  h).bind (fun v14 =>
  if v14 = 217 then
  c84_j101 l1 l2 v14 h
  else
  if v14 = 219 then
  c84_j101 l1 l2 v14 h
  else
  if v14 = 220 then
  c84_j101 l1 l2 v14 h
  else
  c84_j106 0 l1 l2 v14 h))
theorem t84_b59 {d : Nat} (hd : 245 ≤ d) {l1 : Int} {l2 : Int} {z3 : Option hO} {z4 : Option hO} {h : hS} {w : mmW} {o : (Int × hS) ⊕ ((hS) ⊕ (Int × hS))} {Q : mmO → Prop} (rl1 : rg l1) (rl2 : rg l2) (A : Abs h w) (e : c84_b59 l1 l2 h = some o) (kb : ∀ (s_0 : Int) (s_1 : hS), o = .inl (s_0, s_1) → ∀ w', ∀ (y3 y4 : Option hO), rg s_0 → Abs s_1 w' → hG d 84 59 [some (vr 15), some (vi l1), some (vi s_0), y3, y4] [] w' Q) (ke : ∀ (x_0 : hS), o = .inr (.inl (x_0)) → ∀ w', ∀ (y2 y3 y4 : Option hO), Abs x_0 w' → hG d 84 142 [some (vr 15), some (vi l1), y2, y3, y4] [] w' Q) (kr : ∀ (v1 : Int) (h1 : hS), o = .inr (.inr (v1, h1)) → ∀ w', rg v1 → Abs h1 w' → Q (some (.int (Int32.ofInt v1)), w')) : hG d 84 59 [some (vr 15), some (vi l1), some (vi l2), z3, z4] [] w Q := by
  unfold c84_b59 at e
  refine hg_run 2 (pc' := 63) (ls' := [some (vr 15), some (vi l1), some (vi l2), z3, z4]) (st' := [vI 1000, vI l2]) rfl ?_
  rcases oi e with ⟨q11, e⟩ | ⟨q11, e⟩
  · refine hg_icT (tgt := 142) rfl (by decide) rl2 (rgn 1000 rfl) q11 ?_
    cases e
    exact ke h rfl _ _ _ _  A
  · refine hg_icF (tgt := 142) rfl (by decide) rl2 (rgn 1000 rfl) q11 ?_
    refine hg_run 1 (pc' := 67) (ls' := [some (vr 15), some (vi l1), some (vi l2), z3, z4]) (st' := [vR 15]) rfl ?_
    obtain ⟨v12, e12, e⟩ := ob e
    refine hg_cIp (as := [vR 15]) (st' := []) rfl (fun _ _ _ _ => rfl) rfl rfl (Nat.le_of_ble_eq_true rfl) (Nat.le_of_ble_eq_true rfl) (recvV A (a := 2) (Abs_ks A (i := 7) rfl).1) (t39 (by omega) A  e12) (fun r12 => ?_)
    refine hg_run 1 (pc' := 72) (ls' := [some (vr 15), some (vi l1), some (vi l2), z3, z4]) (st' := [vI 125, vI v12]) rfl ?_
    rcases oi e with ⟨q13, e⟩ | ⟨q13, e⟩
    · refine hg_icT (tgt := 142) rfl (by decide) r12 (rgn 125 rfl) q13 ?_
      cases e
      exact ke h rfl _ _ _ _  A
    · refine hg_icF (tgt := 142) rfl (by decide) r12 (rgn 125 rfl) q13 ?_
      refine hg_run 1 (pc' := 76) (ls' := [some (vr 15), some (vi l1), some (vi l2), z3, z4]) (st' := [vR 15]) rfl ?_
      obtain ⟨v14, e14, e⟩ := ob e
      refine hg_cIp (as := [vR 15]) (st' := []) rfl (fun _ _ _ _ => rfl) rfl rfl (Nat.le_of_ble_eq_true rfl) (Nat.le_of_ble_eq_true rfl) (recvV A (a := 2) (Abs_ks A (i := 7) rfl).1) (t39 (by omega) A  e14) (fun r14 => ?_)
      refine hg_run 3 (pc' := 84) (ls' := [some (vr 15), some (vi l1), some (vi l2), some (vi v14), z4]) (st' := [vI 217, vI v14]) rfl ?_
      rcases oi e with ⟨q15, e⟩ | ⟨q15, e⟩
      · refine hg_icT (tgt := 101) rfl (by decide) r14 (rgn 217 rfl) q15 ?_
        exact t84_j101 hd rl1 rl2 r14 A e kb ke kr
      · refine hg_icF (tgt := 101) rfl (by decide) r14 (rgn 217 rfl) q15 ?_
        refine hg_run 2 (pc' := 91) (ls' := [some (vr 15), some (vi l1), some (vi l2), some (vi v14), z4]) (st' := [vI 219, vI v14]) rfl ?_
        rcases oi e with ⟨q21, e⟩ | ⟨q21, e⟩
        · refine hg_icT (tgt := 101) rfl (by decide) r14 (rgn 219 rfl) q21 ?_
          exact t84_j101 hd rl1 rl2 r14 A e kb ke kr
        · refine hg_icF (tgt := 101) rfl (by decide) r14 (rgn 219 rfl) q21 ?_
          refine hg_run 2 (pc' := 98) (ls' := [some (vr 15), some (vi l1), some (vi l2), some (vi v14), z4]) (st' := [vI 220, vI v14]) rfl ?_
          rcases oi e with ⟨q22, e⟩ | ⟨q22, e⟩
          · refine hg_icF (tgt := 105) rfl (by decide) r14 (rgn 220 rfl) (show ¬ ¬ (v14 = 220) from fun f => f q22) ?_
            exact t84_j101 hd rl1 rl2 r14 A e kb ke kr
          · refine hg_icT (tgt := 105) rfl (by decide) r14 (rgn 220 rfl) (show ¬ (v14 = 220) from q22) ?_
            refine hg_run 1 (pc' := 106) (ls' := [some (vr 15), some (vi l1), some (vi l2), some (vi v14), z4]) (st' := [vI 0]) rfl ?_
            exact t84_j106 hd (rgn 0 rfl) rl1 rl2 r14 A e kb ke kr
theorem t84_l59 {d : Nat} (hd : 245 ≤ d) {l1 : Int}  {Q : mmO → Prop} (rl1 : rg l1) (n : Nat) {l2 : Int} {z3 z4 : Option hO} {h : hS} {w : mmW} {r : (hS) ⊕ (Int × hS)} (rl2 : rg l2) (A : Abs h w) (e : lp (fun s => c84_b59 l1 s.1 s.2) n (l2, h) = some r) (ke : ∀ (x_0 : hS), r = .inl (x_0) → ∀ w', ∀ (y2 y3 y4 : Option hO), Abs x_0 w' → hG d 84 142 [some (vr 15), some (vi l1), y2, y3, y4] [] w' Q) (kr : ∀ (v1 : Int) (h1 : hS), r = .inr (v1, h1) → ∀ w', rg v1 → Abs h1 w' → Q (some (.int (Int32.ofInt v1)), w')) : hG d 84 59 [some (vr 15), some (vi l1), some (vi l2), z3, z4] [] w Q := by
  induction n generalizing l2 z3 z4 h w with
  | zero => cases e
  | succ n ih =>
    rcases lp_succ e with ⟨s1, e1, e2⟩ | e1
    · exact t84_b59 hd rl1 rl2 A e1 (fun s_0 s_1 q w1 y3 y4 rl2 A1 => by cases q; exact ih rl2 A1 e2) (fun x_0 q => by cases q) (fun v0 h0 q => by cases q)
    · exact t84_b59 hd rl1 rl2 A e1 (fun s_0 s_1 q => by cases q) (fun x_0 q => by cases q; exact ke _ rfl) (fun v0 h0 q => by cases q; exact kr _ _ rfl)
def c84 (h : hS) : Option (Int × hS) :=
  (some (sI h 15 3 (wadd (hI h 15 3) 1))).bind (fun h1 =>
  (c45  h1).bind (fun v2 =>
  if v2.1 = (-1) then
  some (0, v2.2)
  else
  (c58 123 v2.2).bind (fun v4 =>
  if v4.1 = 0 then
  some (0, v4.2)
  else
  (some (mkH v4.2 22 6)).bind (fun h6 =>
  (k8 (hN v4.2)).bind (fun u8 =>
  (c48 (hN v4.2) 216 (hI h6 15 9) v2.1 (-1) (-1) 0 h6).bind (fun h7 =>
  (kT h7 (hR v4.2 15 12) 8).bind (fun u10 =>
  (c49 (hR v4.2 15 12) (hN v4.2) h7).bind (fun v9 =>
  (lp (fun s => c84_b59 v2.1 s.1 s.2) hF0 (0, v9.2)).bind (fun r23 => xs r23 (fun x23 =>
  (c58 125 x23).bind (fun v24 =>
  (kB v24.1).bind (fun u25 =>
  some (v24.1, v24.2)))) (fun o23 => some o23))))))))))
theorem t84 {d : Nat} (hd : 246 ≤ d)  {h : hS} {w : mmW} {o : Int × hS} (A : Abs h w)  (e : c84 h = some o) : hEv d 84 [vR 15] w (qI o) := by
  obtain ⟨d, rfl⟩ : ∃ d1, d = d1 + 1 := ⟨d - 1, by omega⟩
  have hd : 245 ≤ d := by omega
  refine hEv_start (args := [vr 15]) (nl := 5) rfl (Nat.le_of_ble_eq_true rfl) ?_
  show hG d 84 0 [some (vr 15), none, none, none, none] [] w _
  have kr : ∀ (v1 : Int) (h1 : hS), o = (v1, h1) → ∀ w', rg v1 → Abs h1 w' → qI o (some (.int (Int32.ofInt v1)), w') := fun v1 h1 q w' r A' => by cases q; exact ⟨rfl, r, A'⟩
  unfold c84 at e
  refine hg_run 2 (pc' := 2) (ls' := [some (vr 15), none, none, none, none]) (st' := [vR 15, vR 15]) rfl ?_
  refine gs_15_3 rfl A ?_
  refine hg_run 2 (pc' := 7) (ls' := [some (vr 15), none, none, none, none]) (st' := [vI (wadd (hI h 15 3) 1), vR 15]) rfl ?_
  obtain ⟨h1, e1, e⟩ := ob e
  refine ps_15_3 rfl A (rg_add _ _) e1 (fun w1 A1 => ?_)
  refine hg_run 1 (pc' := 11) (ls' := [some (vr 15), none, none, none, none]) (st' := [vR 15]) rfl ?_
  obtain ⟨v2, e2, e⟩ := ob e
  refine hg_cI (as := [vR 15]) (st' := []) rfl (fun _ _ _ _ => rfl) rfl rfl (Nat.le_of_ble_eq_true rfl) (Nat.le_of_ble_eq_true rfl) (recvV A1 (a := 2) (Abs_ks A1 (i := 7) rfl).1) (t45 (by omega) A1  e2) (fun w2 r2 A2 => ?_)
  refine hg_run 3 (pc' := 17) (ls' := [some (vr 15), some (vi v2.1), none, none, none]) (st' := [vI (-1), vI v2.1]) rfl ?_
  rcases oi e with ⟨q3, e⟩ | ⟨q3, e⟩
  · refine hg_icT (tgt := 29) rfl (by decide) r2 (rgn (-1) rfl) q3 ?_
    refine hg_run 1 (pc' := 30) (ls' := [some (vr 15), some (vi v2.1), none, none, none]) (st' := [vI 0]) rfl ?_
    cases e
    exact hg_retI rfl (by decide) (fit_B (.inl rfl)) (kr _ _ rfl _ (rgn 0 rfl) A2)
  · refine hg_icF (tgt := 29) rfl (by decide) r2 (rgn (-1) rfl) q3 ?_
    refine hg_run 2 (pc' := 23) (ls' := [some (vr 15), some (vi v2.1), none, none, none]) (st' := [vI 123, vR 15]) rfl ?_
    obtain ⟨v4, e4, e⟩ := ob e
    refine hg_cI (as := [vR 15, vI 123]) (st' := []) rfl (fun _ _ _ _ => rfl) rfl rfl (Nat.le_of_ble_eq_true rfl) (Nat.le_of_ble_eq_true rfl) (recvV A2 (a := 2) (Abs_ks A2 (i := 7) rfl).1) (t58 (by omega) A2 (rgn 123 rfl) e4) (fun w4 r4 A4 => ?_)
    rcases oi e with ⟨q5, e⟩ | ⟨q5, e⟩
    · refine hg_ifF (tgt := 31) rfl (by decide) r4 (show ¬ ¬ (v4.1 = 0) from fun f => f q5) ?_
      refine hg_run 1 (pc' := 30) (ls' := [some (vr 15), some (vi v2.1), none, none, none]) (st' := [vI 0]) rfl ?_
      cases e
      exact hg_retI rfl (by decide) (fit_B (.inl rfl)) (kr _ _ rfl _ (rgn 0 rfl) A4)
    · refine hg_ifT (tgt := 31) rfl (by decide) r4 (show ¬ (v4.1 = 0) from q5) ?_
      refine hg_run 1 (pc' := 32) (ls' := [some (vr 15), some (vi v2.1), none, none, none]) (st' := [vR 15]) rfl ?_
      refine gs_15_12 rfl A4 ?_
      obtain ⟨h6, e6, e⟩ := ob e
      refine hg_new (a := 10) rfl A4 (by decide +kernel) (by decide) e6 (fun w6 A6 => ?_)
      refine hg_run 3 (pc' := 43) (ls' := [some (vr 15), some (vi v2.1), none, none, none]) (st' := [vR 15, vI 216, vR (hN v4.2), vR (hN v4.2), vR (hR v4.2 15 12)]) rfl ?_
      refine gs_15_9 rfl A6 ?_
      refine hg_run 4 (pc' := 50) (ls' := [some (vr 15), some (vi v2.1), none, none, none]) (st' := [vR 0, vI (-1), vI (-1), vI v2.1, vI (hI h6 15 9), vI 216, vR (hN v4.2), vR (hN v4.2), vR (hR v4.2 15 12)]) rfl ?_
      obtain ⟨u8, e8, e⟩ := ob e
      obtain ⟨h7, e7, e⟩ := ob e
      refine hg_cV (as := [vR (hN v4.2), vI 216, vI (hI h6 15 9), vI v2.1, vI (-1), vI (-1), vR 0]) (st' := [vR (hN v4.2), vR (hR v4.2 15 12)]) rfl (fun _ _ _ _ => rfl) rfl rfl (Nat.le_of_ble_eq_true rfl) (Nat.le_of_ble_eq_true rfl) (recv1 (k8_e e8)) (t48 (by omega) A6 (rgn 216 rfl) (Abs_rg A6 15 9) r2 (rgn (-1) rfl) (rgn (-1) rfl) e7) (fun w7 A7 => ?_)
      obtain ⟨u10, e10, e⟩ := ob e
      obtain ⟨v9, e9, e⟩ := ob e
      refine hg_cI (as := [vR (hR v4.2 15 12), vR (hN v4.2)]) (st' := []) rfl (fun _ _ _ _ => rfl) rfl rfl (Nat.le_of_ble_eq_true rfl) (Nat.le_of_ble_eq_true rfl) (recvV A7 (a := 3) (kT_e e10)) (t49 (by omega) A7  e9) (fun w9 r9 A9 => ?_)
      refine hg_run 3 (pc' := 59) (ls' := [some (vr 15), some (vi v2.1), some (vi 0), none, none]) (st' := []) rfl ?_
      obtain ⟨r23, e23, e⟩ := ob e
      refine t84_l59 hd r2 _ (rgn 0 rfl) A9 e23 ?_ ?_
      · intro x23_0 qq23 w23 z23_2 z23_3 z23_4 A23
        subst qq23
        have e := xs_l e
        refine hg_run 2 (pc' := 145) (ls' := [some (vr 15), some (vi v2.1), z23_2, z23_3, z23_4]) (st' := [vI 125, vR 15]) rfl ?_
        obtain ⟨v24, e24, e⟩ := ob e
        refine hg_cI (as := [vR 15, vI 125]) (st' := []) rfl (fun _ _ _ _ => rfl) rfl rfl (Nat.le_of_ble_eq_true rfl) (Nat.le_of_ble_eq_true rfl) (recvV A23 (a := 2) (Abs_ks A23 (i := 7) rfl).1) (t58 (by omega) A23 (rgn 125 rfl) e24) (fun w24 r24 A24 => ?_)
        obtain ⟨u25, e25, e⟩ := ob e
        cases e
        exact hg_retI rfl (by decide) (fit_B (kB_e e25)) (kr _ _ rfl _ r24 A24)
      · intro v23 h23 qq23 w23 r23 A23
        subst qq23
        have e := xs_r e
        cases e
        exact kr _ _ rfl w23 r23 A23
def c87_j86 (l1 : Int) (l2 : Int) (l3 : Int) (l4 : Nat) (h : hS) : Option (Int × hS) :=
  (some (mkH h 22 6)).bind (fun h6 =>
  (k8 (hN h)).bind (fun u8 =>
  (c48 (hN h) l1 (hI h6 15 9) l2 (-1) l3 l4 h6).bind (fun h7 =>
  (kT h7 (hR h 15 12) 8).bind (fun u10 =>
  (c49 (hR h 15 12) (hN h) h7).bind (fun v9 =>
  (c58 59 v9.2).bind (fun v11 =>
  (kB v11.1).bind (fun u12 =>
  some (v11.1, v11.2))))))))
theorem t87_j86 {d : Nat} (hd : 124 ≤ d) {l1 : Int} {l2 : Int} {l3 : Int} {l4 : Nat}  {h : hS} {w : mmW} {o : Int × hS} {Q : mmO → Prop} (rl1 : rg l1) (rl2 : rg l2) (rl3 : rg l3) (A : Abs h w) (e : c87_j86 l1 l2 l3 l4 h = some o) (kr : ∀ (v1 : Int) (h1 : hS), o = (v1, h1) → ∀ w', rg v1 → Abs h1 w' → Q (some (.int (Int32.ofInt v1)), w')) : hG d 87 86 [some (vr 15), some (vi l1), some (vi l2), some (vi l3), some (vr l4)] [] w Q := by
  unfold c87_j86 at e
  refine hg_run 1 (pc' := 87) (ls' := [some (vr 15), some (vi l1), some (vi l2), some (vi l3), some (vr l4)]) (st' := [vR 15]) rfl ?_
  refine gs_15_12 rfl A ?_
  obtain ⟨h6, e6, e⟩ := ob e
  refine hg_new (a := 10) rfl A (by decide +kernel) (by decide) e6 (fun w6 A6 => ?_)
  refine hg_run 3 (pc' := 96) (ls' := [some (vr 15), some (vi l1), some (vi l2), some (vi l3), some (vr l4)]) (st' := [vR 15, vI l1, vR (hN h), vR (hN h), vR (hR h 15 12)]) rfl ?_
  refine gs_15_9 rfl A6 ?_
  refine hg_run 4 (pc' := 104) (ls' := [some (vr 15), some (vi l1), some (vi l2), some (vi l3), some (vr l4)]) (st' := [vR l4, vI l3, vI (-1), vI l2, vI (hI h6 15 9), vI l1, vR (hN h), vR (hN h), vR (hR h 15 12)]) rfl ?_
  obtain ⟨u8, e8, e⟩ := ob e
  obtain ⟨h7, e7, e⟩ := ob e
  refine hg_cV (as := [vR (hN h), vI l1, vI (hI h6 15 9), vI l2, vI (-1), vI l3, vR l4]) (st' := [vR (hN h), vR (hR h 15 12)]) rfl (fun _ _ _ _ => rfl) rfl rfl (Nat.le_of_ble_eq_true rfl) (Nat.le_of_ble_eq_true rfl) (recv1 (k8_e e8)) (t48 (by omega) A6 rl1 (Abs_rg A6 15 9) rl2 (rgn (-1) rfl) rl3 e7) (fun w7 A7 => ?_)
  obtain ⟨u10, e10, e⟩ := ob e
  obtain ⟨v9, e9, e⟩ := ob e
  refine hg_cI (as := [vR (hR h 15 12), vR (hN h)]) (st' := []) rfl (fun _ _ _ _ => rfl) rfl rfl (Nat.le_of_ble_eq_true rfl) (Nat.le_of_ble_eq_true rfl) (recvV A7 (a := 3) (kT_e e10)) (t49 (by omega) A7  e9) (fun w9 r9 A9 => ?_)
  refine hg_run 3 (pc' := 114) (ls' := [some (vr 15), some (vi l1), some (vi l2), some (vi l3), some (vr l4)]) (st' := [vI 59, vR 15]) rfl ?_
  obtain ⟨v11, e11, e⟩ := ob e
  refine hg_cI (as := [vR 15, vI 59]) (st' := []) rfl (fun _ _ _ _ => rfl) rfl rfl (Nat.le_of_ble_eq_true rfl) (Nat.le_of_ble_eq_true rfl) (recvV A9 (a := 2) (Abs_ks A9 (i := 7) rfl).1) (t58 (by omega) A9 (rgn 59 rfl) e11) (fun w11 r11 A11 => ?_)
  obtain ⟨u12, e12, e⟩ := ob e
  cases e
  exact hg_retI rfl (by decide) (fit_B (kB_e e12)) (kr _ _ rfl _ r11 A11)
def c87_j66 (l1 : Int) (l2 : Int) (l3 : Int) (l4 : Nat) (h : hS) : Option (Int × hS) :=
  if l1 = 221 then
  (c86  h).bind (fun v13 =>
  (hnul v13.1).bind (fun b14 =>
  if b14 = true then
  some (0, v13.2)
  else
  c87_j86 l1 l2 l3 v13.1 v13.2))
  else
  c87_j86 l1 l2 l3 l4 h
theorem t87_j66 {d : Nat} (hd : 124 ≤ d) {l1 : Int} {l2 : Int} {l3 : Int} {l4 : Nat}  {h : hS} {w : mmW} {o : Int × hS} {Q : mmO → Prop} (rl1 : rg l1) (rl2 : rg l2) (rl3 : rg l3) (A : Abs h w) (e : c87_j66 l1 l2 l3 l4 h = some o) (kr : ∀ (v1 : Int) (h1 : hS), o = (v1, h1) → ∀ w', rg v1 → Abs h1 w' → Q (some (.int (Int32.ofInt v1)), w')) : hG d 87 66 [some (vr 15), some (vi l1), some (vi l2), some (vi l3), some (vr l4)] [] w Q := by
  unfold c87_j66 at e
  refine hg_run 2 (pc' := 70) (ls' := [some (vr 15), some (vi l1), some (vi l2), some (vi l3), some (vr l4)]) (st' := [vI 221, vI l1]) rfl ?_
  rcases oi e with ⟨q5, e⟩ | ⟨q5, e⟩
  · refine hg_icF (tgt := 86) rfl (by decide) rl1 (rgn 221 rfl) (show ¬ ¬ (l1 = 221) from fun f => f q5) ?_
    refine hg_run 1 (pc' := 74) (ls' := [some (vr 15), some (vi l1), some (vi l2), some (vi l3), some (vr l4)]) (st' := [vR 15]) rfl ?_
    obtain ⟨v13, e13, e⟩ := ob e
    refine hg_cR (as := [vR 15]) (st' := []) rfl (fun _ _ _ _ => rfl) rfl rfl (Nat.le_of_ble_eq_true rfl) (Nat.le_of_ble_eq_true rfl) (recvV A (a := 2) (Abs_ks A (i := 7) rfl).1) (t86 (by omega) A  e13) (fun w13 A13 => ?_)
    refine hg_run 2 (pc' := 81) (ls' := [some (vr 15), some (vi l1), some (vi l2), some (vi l3), some (vr v13.1)]) (st' := [vR v13.1]) rfl ?_
    obtain ⟨b14, e14, e⟩ := ob e
    rcases oi e with ⟨q14, e⟩ | ⟨q14, e⟩
    · refine hg_nul (yes := false) (tgt := 86) (t2 := 84) rfl (fun _ _ _ _ => rfl) (by decide) (ebT e14 q14) rfl ?_
      refine hg_run 1 (pc' := 85) (ls' := [some (vr 15), some (vi l1), some (vi l2), some (vi l3), some (vr v13.1)]) (st' := [vI 0]) rfl ?_
      cases e
      exact hg_retI rfl (by decide) (fit_B (.inl rfl)) (kr _ _ rfl _ (rgn 0 rfl) A13)
    · refine hg_nul (yes := false) (tgt := 86) (t2 := 86) rfl (fun _ _ _ _ => rfl) (by decide) (ebF e14 q14) rfl ?_
      exact t87_j86 hd rl1 rl2 rl3 A13 e kr
  · refine hg_icT (tgt := 86) rfl (by decide) rl1 (rgn 221 rfl) (show ¬ (l1 = 221) from q5) ?_
    exact t87_j86 hd rl1 rl2 rl3 A e kr
def c87 (l1 : Int) (h : hS) : Option (Int × hS) :=
  (some (sI h 15 3 (wadd (hI h 15 3) 1))).bind (fun h1 =>
  (c45  h1).bind (fun v2 =>
  if v2.1 = (-1) then
  some (0, v2.2)
  else
  if l1 = 218 then
  (c39  v2.2).bind (fun v15 =>
  if v15 = 201 then
  (some (sI v2.2 15 3 (wadd (hI v2.2 15 3) 1))).bind (fun h17 =>
  (c45  h17).bind (fun v18 =>
  if v18.1 = (-1) then
  some (0, v18.2)
  else
  c87_j66 l1 v2.1 v18.1 0 v18.2))
  else
  c87_j66 l1 v2.1 (-1) 0 v2.2)
  else
  c87_j66 l1 v2.1 (-1) 0 v2.2))
theorem t87 {d : Nat} (hd : 125 ≤ d) {l1 : Int} {h : hS} {w : mmW} {o : Int × hS} (A : Abs h w) (rl1 : rg l1) (e : c87 l1 h = some o) : hEv d 87 [vR 15, vI l1] w (qI o) := by
  obtain ⟨d, rfl⟩ : ∃ d1, d = d1 + 1 := ⟨d - 1, by omega⟩
  have hd : 124 ≤ d := by omega
  refine hEv_start (args := [vr 15, vi l1]) (nl := 5) rfl (Nat.le_of_ble_eq_true rfl) ?_
  show hG d 87 0 [some (vr 15), some (vi l1), none, none, none] [] w _
  have kr : ∀ (v1 : Int) (h1 : hS), o = (v1, h1) → ∀ w', rg v1 → Abs h1 w' → qI o (some (.int (Int32.ofInt v1)), w') := fun v1 h1 q w' r A' => by cases q; exact ⟨rfl, r, A'⟩
  unfold c87 at e
  refine hg_run 2 (pc' := 2) (ls' := [some (vr 15), some (vi l1), none, none, none]) (st' := [vR 15, vR 15]) rfl ?_
  refine gs_15_3 rfl A ?_
  refine hg_run 2 (pc' := 7) (ls' := [some (vr 15), some (vi l1), none, none, none]) (st' := [vI (wadd (hI h 15 3) 1), vR 15]) rfl ?_
  obtain ⟨h1, e1, e⟩ := ob e
  refine ps_15_3 rfl A (rg_add _ _) e1 (fun w1 A1 => ?_)
  refine hg_run 1 (pc' := 11) (ls' := [some (vr 15), some (vi l1), none, none, none]) (st' := [vR 15]) rfl ?_
  obtain ⟨v2, e2, e⟩ := ob e
  refine hg_cI (as := [vR 15]) (st' := []) rfl (fun _ _ _ _ => rfl) rfl rfl (Nat.le_of_ble_eq_true rfl) (Nat.le_of_ble_eq_true rfl) (recvV A1 (a := 2) (Abs_ks A1 (i := 7) rfl).1) (t45 (by omega) A1  e2) (fun w2 r2 A2 => ?_)
  refine hg_run 3 (pc' := 17) (ls' := [some (vr 15), some (vi l1), some (vi v2.1), none, none]) (st' := [vI (-1), vI v2.1]) rfl ?_
  rcases oi e with ⟨q3, e⟩ | ⟨q3, e⟩
  · refine hg_icF (tgt := 22) rfl (by decide) r2 (rgn (-1) rfl) (show ¬ ¬ (v2.1 = (-1)) from fun f => f q3) ?_
    refine hg_run 1 (pc' := 21) (ls' := [some (vr 15), some (vi l1), some (vi v2.1), none, none]) (st' := [vI 0]) rfl ?_
    cases e
    exact hg_retI rfl (by decide) (fit_B (.inl rfl)) (kr _ _ rfl _ (rgn 0 rfl) A2)
  · refine hg_icT (tgt := 22) rfl (by decide) r2 (rgn (-1) rfl) (show ¬ (v2.1 = (-1)) from q3) ?_
    refine hg_run 6 (pc' := 31) (ls' := [some (vr 15), some (vi l1), some (vi v2.1), some (vi (-1)), some (vr 0)]) (st' := [vI 218, vI l1]) rfl ?_
    rcases oi e with ⟨q4, e⟩ | ⟨q4, e⟩
    · refine hg_icF (tgt := 66) rfl (by decide) rl1 (rgn 218 rfl) (show ¬ ¬ (l1 = 218) from fun f => f q4) ?_
      refine hg_run 1 (pc' := 35) (ls' := [some (vr 15), some (vi l1), some (vi v2.1), some (vi (-1)), some (vr 0)]) (st' := [vR 15]) rfl ?_
      obtain ⟨v15, e15, e⟩ := ob e
      refine hg_cIp (as := [vR 15]) (st' := []) rfl (fun _ _ _ _ => rfl) rfl rfl (Nat.le_of_ble_eq_true rfl) (Nat.le_of_ble_eq_true rfl) (recvV A2 (a := 2) (Abs_ks A2 (i := 7) rfl).1) (t39 (by omega) A2  e15) (fun r15 => ?_)
      refine hg_run 1 (pc' := 41) (ls' := [some (vr 15), some (vi l1), some (vi v2.1), some (vi (-1)), some (vr 0)]) (st' := [vI 201, vI v15]) rfl ?_
      rcases oi e with ⟨q16, e⟩ | ⟨q16, e⟩
      · refine hg_icF (tgt := 66) rfl (by decide) r15 (rgn 201 rfl) (show ¬ ¬ (v15 = 201) from fun f => f q16) ?_
        refine hg_run 2 (pc' := 46) (ls' := [some (vr 15), some (vi l1), some (vi v2.1), some (vi (-1)), some (vr 0)]) (st' := [vR 15, vR 15]) rfl ?_
        refine gs_15_3 rfl A2 ?_
        refine hg_run 2 (pc' := 51) (ls' := [some (vr 15), some (vi l1), some (vi v2.1), some (vi (-1)), some (vr 0)]) (st' := [vI (wadd (hI v2.2 15 3) 1), vR 15]) rfl ?_
        obtain ⟨h17, e17, e⟩ := ob e
        refine ps_15_3 rfl A2 (rg_add _ _) e17 (fun w17 A17 => ?_)
        refine hg_run 1 (pc' := 55) (ls' := [some (vr 15), some (vi l1), some (vi v2.1), some (vi (-1)), some (vr 0)]) (st' := [vR 15]) rfl ?_
        obtain ⟨v18, e18, e⟩ := ob e
        refine hg_cI (as := [vR 15]) (st' := []) rfl (fun _ _ _ _ => rfl) rfl rfl (Nat.le_of_ble_eq_true rfl) (Nat.le_of_ble_eq_true rfl) (recvV A17 (a := 2) (Abs_ks A17 (i := 7) rfl).1) (t45 (by omega) A17  e18) (fun w18 r18 A18 => ?_)
        refine hg_run 3 (pc' := 61) (ls' := [some (vr 15), some (vi l1), some (vi v2.1), some (vi v18.1), some (vr 0)]) (st' := [vI (-1), vI v18.1]) rfl ?_
        rcases oi e with ⟨q19, e⟩ | ⟨q19, e⟩
        · refine hg_icF (tgt := 66) rfl (by decide) r18 (rgn (-1) rfl) (show ¬ ¬ (v18.1 = (-1)) from fun f => f q19) ?_
          refine hg_run 1 (pc' := 65) (ls' := [some (vr 15), some (vi l1), some (vi v2.1), some (vi v18.1), some (vr 0)]) (st' := [vI 0]) rfl ?_
          cases e
          exact hg_retI rfl (by decide) (fit_B (.inl rfl)) (kr _ _ rfl _ (rgn 0 rfl) A18)
        · refine hg_icT (tgt := 66) rfl (by decide) r18 (rgn (-1) rfl) (show ¬ (v18.1 = (-1)) from q19) ?_
          exact t87_j66 hd rl1 r2 r18 A18 e kr
      · refine hg_icT (tgt := 66) rfl (by decide) r15 (rgn 201 rfl) (show ¬ (v15 = 201) from q16) ?_
        exact t87_j66 hd rl1 r2 (rgn (-1) rfl) A2 e kr
    · refine hg_icT (tgt := 66) rfl (by decide) rl1 (rgn 218 rfl) (show ¬ (l1 = 218) from q4) ?_
      exact t87_j66 hd rl1 r2 (rgn (-1) rfl) A2 e kr
def c42_j166 (l2 : Int) (h : hS) : Option ((Int × hS) ⊕ ((Int × hS) ⊕ (Int × hS))) :=
  (some (sI h 15 9 (wadd (hI h 15 9) 1))).bind (fun h19 =>
  some (.inl (l2, h19)))
set_option maxRecDepth 100000 in
theorem t42_j166 {d : Nat} (hd : 246 ≤ d) {l2 : Int} {z1 : Option hO} {z3 : Option hO} {z4 : Option hO} {h : hS} {w : mmW} {o : (Int × hS) ⊕ ((Int × hS) ⊕ (Int × hS))} {Q : mmO → Prop} (rl2 : rg l2) (A : Abs h w) (e : c42_j166 l2 h = some o) (kb : ∀ (s_0 : Int) (s_1 : hS), o = .inl (s_0, s_1) → ∀ w', ∀ (y3 y4 : Option hO), rg s_0 → Abs s_1 w' → hG d 42 39 [some (vr 15), z1, some (vi s_0), y3, y4] [] w' Q) (ke : ∀ (x_0 : Int) (x_1 : hS), o = .inr (.inl (x_0, x_1)) → ∀ w', ∀ (y3 y4 : Option hO), rg x_0 → Abs x_1 w' → hG d 42 179 [some (vr 15), z1, some (vi x_0), y3, y4] [] w' Q) (kr : ∀ (v1 : Int) (h1 : hS), o = .inr (.inr (v1, h1)) → ∀ w', rg v1 → Abs h1 w' → Q (some (.int (Int32.ofInt v1)), w')) : hG d 42 166 [some (vr 15), z1, some (vi l2), z3, z4] [] w Q := by
  unfold c42_j166 at e
  refine hg_run 2 (pc' := 168) (ls' := [some (vr 15), z1, some (vi l2), z3, z4]) (st' := [vR 15, vR 15]) rfl ?_
  refine gs_15_9 rfl A ?_
  refine hg_run 2 (pc' := 173) (ls' := [some (vr 15), z1, some (vi l2), z3, z4]) (st' := [vI (wadd (hI h 15 9) 1), vR 15]) rfl ?_
  obtain ⟨h19, e19, e⟩ := ob e
  refine ps_15_9 rfl A (rg_add _ _) e19 (fun w19 A19 => ?_)
  refine hg_run 1 (pc' := 39) (ls' := [some (vr 15), z1, some (vi l2), z3, z4]) (st' := []) rfl ?_
  cases e
  exact kb l2 h19 rfl _ _ _ rl2 A19
def c42_j156 (h : hS) : Option ((Int × hS) ⊕ ((Int × hS) ⊕ (Int × hS))) :=
  (c46 1 (hI h 15 3) h).bind (fun v18 =>
  c42_j166 v18.1 v18.2)
set_option maxRecDepth 100000 in
theorem t42_j156 {d : Nat} (hd : 246 ≤ d)  {z1 : Option hO} {z2 : Option hO} {z3 : Option hO} {z4 : Option hO} {h : hS} {w : mmW} {o : (Int × hS) ⊕ ((Int × hS) ⊕ (Int × hS))} {Q : mmO → Prop}  (A : Abs h w) (e : c42_j156 h = some o) (kb : ∀ (s_0 : Int) (s_1 : hS), o = .inl (s_0, s_1) → ∀ w', ∀ (y3 y4 : Option hO), rg s_0 → Abs s_1 w' → hG d 42 39 [some (vr 15), z1, some (vi s_0), y3, y4] [] w' Q) (ke : ∀ (x_0 : Int) (x_1 : hS), o = .inr (.inl (x_0, x_1)) → ∀ w', ∀ (y3 y4 : Option hO), rg x_0 → Abs x_1 w' → hG d 42 179 [some (vr 15), z1, some (vi x_0), y3, y4] [] w' Q) (kr : ∀ (v1 : Int) (h1 : hS), o = .inr (.inr (v1, h1)) → ∀ w', rg v1 → Abs h1 w' → Q (some (.int (Int32.ofInt v1)), w')) : hG d 42 156 [some (vr 15), z1, z2, z3, z4] [] w Q := by
  unfold c42_j156 at e
  refine hg_run 3 (pc' := 159) (ls' := [some (vr 15), z1, z2, z3, z4]) (st' := [vR 15, vI 1, vR 15]) rfl ?_
  refine gs_15_3 rfl A ?_
  obtain ⟨v18, e18, e⟩ := ob e
  refine hg_cI (as := [vR 15, vI 1, vI (hI h 15 3)]) (st' := []) rfl (fun _ _ _ _ => rfl) rfl rfl (Nat.le_of_ble_eq_true rfl) (Nat.le_of_ble_eq_true rfl) (recvV A (a := 2) (Abs_ks A (i := 7) rfl).1) (t46 (by omega) A (rgn 1 rfl) (Abs_rg A 15 3) e18) (fun w18 r18 A18 => ?_)
  refine hg_run 1 (pc' := 166) (ls' := [some (vr 15), z1, some (vi v18.1), z3, z4]) (st' := []) rfl ?_
  exact t42_j166 hd r18 A18 e kb ke kr
def c42_j142 (l3 : Int) (h : hS) : Option ((Int × hS) ⊕ ((Int × hS) ⊕ (Int × hS))) :=
  if (hI h 15 9) ≤ 0 then
  c42_j156 h
  else
  if l3 = 4 then
  some (.inr (.inr (1, h)))
  else
  c42_j156 h
set_option maxRecDepth 100000 in
theorem t42_j142 {d : Nat} (hd : 246 ≤ d) {l3 : Int} {z1 : Option hO} {z2 : Option hO} {z4 : Option hO} {h : hS} {w : mmW} {o : (Int × hS) ⊕ ((Int × hS) ⊕ (Int × hS))} {Q : mmO → Prop} (rl3 : rg l3) (A : Abs h w) (e : c42_j142 l3 h = some o) (kb : ∀ (s_0 : Int) (s_1 : hS), o = .inl (s_0, s_1) → ∀ w', ∀ (y3 y4 : Option hO), rg s_0 → Abs s_1 w' → hG d 42 39 [some (vr 15), z1, some (vi s_0), y3, y4] [] w' Q) (ke : ∀ (x_0 : Int) (x_1 : hS), o = .inr (.inl (x_0, x_1)) → ∀ w', ∀ (y3 y4 : Option hO), rg x_0 → Abs x_1 w' → hG d 42 179 [some (vr 15), z1, some (vi x_0), y3, y4] [] w' Q) (kr : ∀ (v1 : Int) (h1 : hS), o = .inr (.inr (v1, h1)) → ∀ w', rg v1 → Abs h1 w' → Q (some (.int (Int32.ofInt v1)), w')) : hG d 42 142 [some (vr 15), z1, z2, some (vi l3), z4] [] w Q := by
  unfold c42_j142 at e
  refine hg_run 1 (pc' := 143) (ls' := [some (vr 15), z1, z2, some (vi l3), z4]) (st' := [vR 15]) rfl ?_
  refine gs_15_9 rfl A ?_
  rcases oi e with ⟨q17, e⟩ | ⟨q17, e⟩
  · refine hg_ifT (tgt := 156) rfl (by decide) (Abs_rg A 15 9) q17 ?_
    exact t42_j156 hd  A e kb ke kr
  · refine hg_ifF (tgt := 156) rfl (by decide) (Abs_rg A 15 9) q17 ?_
    refine hg_run 2 (pc' := 151) (ls' := [some (vr 15), z1, z2, some (vi l3), z4]) (st' := [vI 4, vI l3]) rfl ?_
    rcases oi e with ⟨q20, e⟩ | ⟨q20, e⟩
    · refine hg_icF (tgt := 156) rfl (by decide) rl3 (rgn 4 rfl) (show ¬ ¬ (l3 = 4) from fun f => f q20) ?_
      refine hg_run 1 (pc' := 155) (ls' := [some (vr 15), z1, z2, some (vi l3), z4]) (st' := [vI 1]) rfl ?_
      cases e
      exact hg_retI rfl (by decide) (fit_B (.inr rfl)) (kr _ _ rfl _ (rgn 1 rfl) A)
    · refine hg_icT (tgt := 156) rfl (by decide) rl3 (rgn 4 rfl) (show ¬ (l3 = 4) from q20) ?_
      exact t42_j156 hd  A e kb ke kr
def c42_j133 (l3 : Int) (h : hS) : Option ((Int × hS) ⊕ ((Int × hS) ⊕ (Int × hS))) :=
  (c87 l3 h).bind (fun v22 =>
  c42_j166 v22.1 v22.2)
set_option maxRecDepth 100000 in
theorem t42_j133 {d : Nat} (hd : 246 ≤ d) {l3 : Int} {z1 : Option hO} {z2 : Option hO} {z4 : Option hO} {h : hS} {w : mmW} {o : (Int × hS) ⊕ ((Int × hS) ⊕ (Int × hS))} {Q : mmO → Prop} (rl3 : rg l3) (A : Abs h w) (e : c42_j133 l3 h = some o) (kb : ∀ (s_0 : Int) (s_1 : hS), o = .inl (s_0, s_1) → ∀ w', ∀ (y3 y4 : Option hO), rg s_0 → Abs s_1 w' → hG d 42 39 [some (vr 15), z1, some (vi s_0), y3, y4] [] w' Q) (ke : ∀ (x_0 : Int) (x_1 : hS), o = .inr (.inl (x_0, x_1)) → ∀ w', ∀ (y3 y4 : Option hO), rg x_0 → Abs x_1 w' → hG d 42 179 [some (vr 15), z1, some (vi x_0), y3, y4] [] w' Q) (kr : ∀ (v1 : Int) (h1 : hS), o = .inr (.inr (v1, h1)) → ∀ w', rg v1 → Abs h1 w' → Q (some (.int (Int32.ofInt v1)), w')) : hG d 42 133 [some (vr 15), z1, z2, some (vi l3), z4] [] w Q := by
  unfold c42_j133 at e
  refine hg_run 2 (pc' := 135) (ls' := [some (vr 15), z1, z2, some (vi l3), z4]) (st' := [vI l3, vR 15]) rfl ?_
  obtain ⟨v22, e22, e⟩ := ob e
  refine hg_cI (as := [vR 15, vI l3]) (st' := []) rfl (fun _ _ _ _ => rfl) rfl rfl (Nat.le_of_ble_eq_true rfl) (Nat.le_of_ble_eq_true rfl) (recvV A (a := 2) (Abs_ks A (i := 7) rfl).1) (t87 (by omega) A rl3 e22) (fun w22 r22 A22 => ?_)
  refine hg_run 2 (pc' := 166) (ls' := [some (vr 15), z1, some (vi v22.1), some (vi l3), z4]) (st' := []) rfl ?_
  exact t42_j166 hd r22 A22 e kb ke kr
def c42_j107 (l3 : Int) (l4 : Int) (h : hS) : Option ((Int × hS) ⊕ ((Int × hS) ⊕ (Int × hS))) :=
  if l4 = 0 then
  c42_j142 l3 h
  else
  if l3 = 217 then
  c42_j133 l3 h
  else
  if l3 = 218 then
  c42_j133 l3 h
  else
  if l3 = 221 then
  c42_j133 l3 h
  else
  c42_j142 l3 h
set_option maxRecDepth 100000 in
theorem t42_j107 {d : Nat} (hd : 246 ≤ d) {l3 : Int} {l4 : Int} {z1 : Option hO} {z2 : Option hO} {h : hS} {w : mmW} {o : (Int × hS) ⊕ ((Int × hS) ⊕ (Int × hS))} {Q : mmO → Prop} (rl3 : rg l3) (rl4 : rg l4) (A : Abs h w) (e : c42_j107 l3 l4 h = some o) (kb : ∀ (s_0 : Int) (s_1 : hS), o = .inl (s_0, s_1) → ∀ w', ∀ (y3 y4 : Option hO), rg s_0 → Abs s_1 w' → hG d 42 39 [some (vr 15), z1, some (vi s_0), y3, y4] [] w' Q) (ke : ∀ (x_0 : Int) (x_1 : hS), o = .inr (.inl (x_0, x_1)) → ∀ w', ∀ (y3 y4 : Option hO), rg x_0 → Abs x_1 w' → hG d 42 179 [some (vr 15), z1, some (vi x_0), y3, y4] [] w' Q) (kr : ∀ (v1 : Int) (h1 : hS), o = .inr (.inr (v1, h1)) → ∀ w', rg v1 → Abs h1 w' → Q (some (.int (Int32.ofInt v1)), w')) : hG d 42 107 [some (vr 15), z1, z2, some (vi l3), some (vi l4)] [] w Q := by
  unfold c42_j107 at e
  refine hg_run 1 (pc' := 109) (ls' := [some (vr 15), z1, z2, some (vi l3), some (vi l4)]) (st' := [vI l4]) rfl ?_
  rcases oi e with ⟨q16, e⟩ | ⟨q16, e⟩
  · refine hg_ifT (tgt := 142) rfl (by decide) rl4 q16 ?_
    exact t42_j142 hd rl3 A e kb ke kr
  · refine hg_ifF (tgt := 142) rfl (by decide) rl4 q16 ?_
    refine hg_run 2 (pc' := 116) (ls' := [some (vr 15), z1, z2, some (vi l3), some (vi l4)]) (st' := [vI 217, vI l3]) rfl ?_
    rcases oi e with ⟨q21, e⟩ | ⟨q21, e⟩
    · refine hg_icT (tgt := 133) rfl (by decide) rl3 (rgn 217 rfl) q21 ?_
      exact t42_j133 hd rl3 A e kb ke kr
    · refine hg_icF (tgt := 133) rfl (by decide) rl3 (rgn 217 rfl) q21 ?_
      refine hg_run 2 (pc' := 123) (ls' := [some (vr 15), z1, z2, some (vi l3), some (vi l4)]) (st' := [vI 218, vI l3]) rfl ?_
      rcases oi e with ⟨q23, e⟩ | ⟨q23, e⟩
      · refine hg_icT (tgt := 133) rfl (by decide) rl3 (rgn 218 rfl) q23 ?_
        exact t42_j133 hd rl3 A e kb ke kr
      · refine hg_icF (tgt := 133) rfl (by decide) rl3 (rgn 218 rfl) q23 ?_
        refine hg_run 2 (pc' := 130) (ls' := [some (vr 15), z1, z2, some (vi l3), some (vi l4)]) (st' := [vI 221, vI l3]) rfl ?_
        rcases oi e with ⟨q24, e⟩ | ⟨q24, e⟩
        · refine hg_icF (tgt := 142) rfl (by decide) rl3 (rgn 221 rfl) (show ¬ ¬ (l3 = 221) from fun f => f q24) ?_
          exact t42_j133 hd rl3 A e kb ke kr
        · refine hg_icT (tgt := 142) rfl (by decide) rl3 (rgn 221 rfl) (show ¬ (l3 = 221) from q24) ?_
          exact t42_j142 hd rl3 A e kb ke kr
def c42_j70 (s0 : Int) (l3 : Int) (h : hS) : Option ((Int × hS) ⊕ ((Int × hS) ⊕ (Int × hS))) :=
  if l3 = 200 then
  (c44  h).bind (fun v27 =>
  c42_j166 v27.1 v27.2)
  else
  if s0 = 0 then
  c42_j107 l3 s0 h
  else
  if l3 = 216 then
  (c84  h).bind (fun v26 =>
  c42_j166 v26.1 v26.2)
  else
  c42_j107 l3 s0 h
set_option maxRecDepth 100000 in
theorem t42_j70 {d : Nat} (hd : 246 ≤ d) {s0 : Int} {l3 : Int} {z1 : Option hO} {z2 : Option hO} {z4 : Option hO} {h : hS} {w : mmW} {o : (Int × hS) ⊕ ((Int × hS) ⊕ (Int × hS))} {Q : mmO → Prop} (rs0 : rg s0) (rl3 : rg l3) (A : Abs h w) (e : c42_j70 s0 l3 h = some o) (kb : ∀ (s_0 : Int) (s_1 : hS), o = .inl (s_0, s_1) → ∀ w', ∀ (y3 y4 : Option hO), rg s_0 → Abs s_1 w' → hG d 42 39 [some (vr 15), z1, some (vi s_0), y3, y4] [] w' Q) (ke : ∀ (x_0 : Int) (x_1 : hS), o = .inr (.inl (x_0, x_1)) → ∀ w', ∀ (y3 y4 : Option hO), rg x_0 → Abs x_1 w' → hG d 42 179 [some (vr 15), z1, some (vi x_0), y3, y4] [] w' Q) (kr : ∀ (v1 : Int) (h1 : hS), o = .inr (.inr (v1, h1)) → ∀ w', rg v1 → Abs h1 w' → Q (some (.int (Int32.ofInt v1)), w')) : hG d 42 70 [some (vr 15), z1, z2, some (vi l3), z4] [vI s0] w Q := by
  unfold c42_j70 at e
  refine hg_run 3 (pc' := 76) (ls' := [some (vr 15), z1, z2, some (vi l3), some (vi s0)]) (st' := [vI 200, vI l3]) rfl ?_
  rcases oi e with ⟨q14, e⟩ | ⟨q14, e⟩
  · refine hg_icF (tgt := 87) rfl (by decide) rl3 (rgn 200 rfl) (show ¬ ¬ (l3 = 200) from fun f => f q14) ?_
    refine hg_run 1 (pc' := 80) (ls' := [some (vr 15), z1, z2, some (vi l3), some (vi s0)]) (st' := [vR 15]) rfl ?_
    obtain ⟨v27, e27, e⟩ := ob e
    refine hg_cI (as := [vR 15]) (st' := []) rfl (fun _ _ _ _ => rfl) rfl rfl (Nat.le_of_ble_eq_true rfl) (Nat.le_of_ble_eq_true rfl) (recvV A (a := 2) (Abs_ks A (i := 7) rfl).1) (t44 (by omega) A  e27) (fun w27 r27 A27 => ?_)
    refine hg_run 2 (pc' := 166) (ls' := [some (vr 15), z1, some (vi v27.1), some (vi l3), some (vi s0)]) (st' := []) rfl ?_
    exact t42_j166 hd r27 A27 e kb ke kr
  · refine hg_icT (tgt := 87) rfl (by decide) rl3 (rgn 200 rfl) (show ¬ (l3 = 200) from q14) ?_
    refine hg_run 1 (pc' := 89) (ls' := [some (vr 15), z1, z2, some (vi l3), some (vi s0)]) (st' := [vI s0]) rfl ?_
    rcases oi e with ⟨q15, e⟩ | ⟨q15, e⟩
    · refine hg_ifT (tgt := 107) rfl (by decide) rs0 q15 ?_
      exact t42_j107 hd rl3 rs0 A e kb ke kr
    · refine hg_ifF (tgt := 107) rfl (by decide) rs0 q15 ?_
      refine hg_run 2 (pc' := 96) (ls' := [some (vr 15), z1, z2, some (vi l3), some (vi s0)]) (st' := [vI 216, vI l3]) rfl ?_
      rcases oi e with ⟨q25, e⟩ | ⟨q25, e⟩
      · refine hg_icF (tgt := 107) rfl (by decide) rl3 (rgn 216 rfl) (show ¬ ¬ (l3 = 216) from fun f => f q25) ?_
        refine hg_run 1 (pc' := 100) (ls' := [some (vr 15), z1, z2, some (vi l3), some (vi s0)]) (st' := [vR 15]) rfl ?_
        obtain ⟨v26, e26, e⟩ := ob e
        refine hg_cI (as := [vR 15]) (st' := []) rfl (fun _ _ _ _ => rfl) rfl rfl (Nat.le_of_ble_eq_true rfl) (Nat.le_of_ble_eq_true rfl) (recvV A (a := 2) (Abs_ks A (i := 7) rfl).1) (t84 (by omega) A  e26) (fun w26 r26 A26 => ?_)
        refine hg_run 2 (pc' := 166) (ls' := [some (vr 15), z1, some (vi v26.1), some (vi l3), some (vi s0)]) (st' := []) rfl ?_
        exact t42_j166 hd r26 A26 e kb ke kr
      · refine hg_icT (tgt := 107) rfl (by decide) rl3 (rgn 216 rfl) (show ¬ (l3 = 216) from q25) ?_
        exact t42_j107 hd rl3 rs0 A e kb ke kr
def c42_b39 (l2 : Int) (h : hS) : Option ((Int × hS) ⊕ ((Int × hS) ⊕ (Int × hS))) :=
  if l2 = 0 then
  some (.inr (.inl (l2, h)))
  else
  if 1000 ≤ (hI h 15 9) then
  some (.inr (.inl (l2, h)))
  else
  (c39  h).bind (fun v12 =>
  (hnul (hR h 15 11)).bind (fun b13 =>
  if b13 = true then
  c42_j70 1 v12 h
  else
  c42_j70 0 v12 h))
set_option maxRecDepth 100000 in
theorem t42_b39 {d : Nat} (hd : 246 ≤ d) {l2 : Int} {z1 : Option hO} {z3 : Option hO} {z4 : Option hO} {h : hS} {w : mmW} {o : (Int × hS) ⊕ ((Int × hS) ⊕ (Int × hS))} {Q : mmO → Prop} (rl2 : rg l2) (A : Abs h w) (e : c42_b39 l2 h = some o) (kb : ∀ (s_0 : Int) (s_1 : hS), o = .inl (s_0, s_1) → ∀ w', ∀ (y3 y4 : Option hO), rg s_0 → Abs s_1 w' → hG d 42 39 [some (vr 15), z1, some (vi s_0), y3, y4] [] w' Q) (ke : ∀ (x_0 : Int) (x_1 : hS), o = .inr (.inl (x_0, x_1)) → ∀ w', ∀ (y3 y4 : Option hO), rg x_0 → Abs x_1 w' → hG d 42 179 [some (vr 15), z1, some (vi x_0), y3, y4] [] w' Q) (kr : ∀ (v1 : Int) (h1 : hS), o = .inr (.inr (v1, h1)) → ∀ w', rg v1 → Abs h1 w' → Q (some (.int (Int32.ofInt v1)), w')) : hG d 42 39 [some (vr 15), z1, some (vi l2), z3, z4] [] w Q := by
  unfold c42_b39 at e
  refine hg_run 1 (pc' := 40) (ls' := [some (vr 15), z1, some (vi l2), z3, z4]) (st' := [vI l2]) rfl ?_
  rcases oi e with ⟨q10, e⟩ | ⟨q10, e⟩
  · refine hg_ifT (tgt := 179) rfl (by decide) rl2 q10 ?_
    cases e
    exact ke l2 h rfl _ _ _ rl2 A
  · refine hg_ifF (tgt := 179) rfl (by decide) rl2 q10 ?_
    refine hg_run 1 (pc' := 44) (ls' := [some (vr 15), z1, some (vi l2), z3, z4]) (st' := [vR 15]) rfl ?_
    refine gs_15_9 rfl A ?_
    refine hg_run 1 (pc' := 50) (ls' := [some (vr 15), z1, some (vi l2), z3, z4]) (st' := [vI 1000, vI (hI h 15 9)]) rfl ?_
    rcases oi e with ⟨q11, e⟩ | ⟨q11, e⟩
    · refine hg_icT (tgt := 179) rfl (by decide) (Abs_rg A 15 9) (rgn 1000 rfl) q11 ?_
      cases e
      exact ke l2 h rfl _ _ _ rl2 A
    · refine hg_icF (tgt := 179) rfl (by decide) (Abs_rg A 15 9) (rgn 1000 rfl) q11 ?_
      refine hg_run 1 (pc' := 54) (ls' := [some (vr 15), z1, some (vi l2), z3, z4]) (st' := [vR 15]) rfl ?_
      obtain ⟨v12, e12, e⟩ := ob e
      refine hg_cIp (as := [vR 15]) (st' := []) rfl (fun _ _ _ _ => rfl) rfl rfl (Nat.le_of_ble_eq_true rfl) (Nat.le_of_ble_eq_true rfl) (recvV A (a := 2) (Abs_ks A (i := 7) rfl).1) (t39 (by omega) A  e12) (fun r12 => ?_)
      refine hg_run 2 (pc' := 59) (ls' := [some (vr 15), z1, some (vi l2), some (vi v12), z4]) (st' := [vR 15]) rfl ?_
      refine gs_15_11 rfl A ?_
      obtain ⟨b13, e13, e⟩ := ob e
      rcases oi e with ⟨q13, e⟩ | ⟨q13, e⟩
      · refine hg_nul (yes := false) (tgt := 69) (t2 := 65) rfl (fun _ _ _ _ => rfl) (by decide) (ebT e13 q13) rfl ?_
        refine hg_run 2 (pc' := 70) (ls' := [some (vr 15), z1, some (vi l2), some (vi v12), z4]) (st' := [vI 1]) rfl ?_
        exact t42_j70 hd (rgn 1 rfl) r12 A e kb ke kr
      · refine hg_nul (yes := false) (tgt := 69) (t2 := 69) rfl (fun _ _ _ _ => rfl) (by decide) (ebF e13 q13) rfl ?_
        refine hg_run 1 (pc' := 70) (ls' := [some (vr 15), z1, some (vi l2), some (vi v12), z4]) (st' := [vI 0]) rfl ?_
        exact t42_j70 hd (rgn 0 rfl) r12 A e kb ke kr
set_option maxRecDepth 100000 in
theorem t42_l39 {d : Nat} (hd : 246 ≤ d)  {z1 : Option hO} {Q : mmO → Prop}  (n : Nat) {l2 : Int} {z3 z4 : Option hO} {h : hS} {w : mmW} {r : (Int × hS) ⊕ (Int × hS)} (rl2 : rg l2) (A : Abs h w) (e : lp (fun s => c42_b39  s.1 s.2) n (l2, h) = some r) (ke : ∀ (x_0 : Int) (x_1 : hS), r = .inl (x_0, x_1) → ∀ w', ∀ (y3 y4 : Option hO), rg x_0 → Abs x_1 w' → hG d 42 179 [some (vr 15), z1, some (vi x_0), y3, y4] [] w' Q) (kr : ∀ (v1 : Int) (h1 : hS), r = .inr (v1, h1) → ∀ w', rg v1 → Abs h1 w' → Q (some (.int (Int32.ofInt v1)), w')) : hG d 42 39 [some (vr 15), z1, some (vi l2), z3, z4] [] w Q := by
  induction n generalizing l2 z3 z4 h w with
  | zero => cases e
  | succ n ih =>
    rcases lp_succ e with ⟨s1, e1, e2⟩ | e1
    · exact t42_b39 hd rl2 A e1 (fun s_0 s_1 q w1 y3 y4 rl2 A1 => by cases q; exact ih rl2 A1 e2) (fun x_0 x_1 q => by cases q) (fun v0 h0 q => by cases q)
    · exact t42_b39 hd rl2 A e1 (fun s_0 s_1 q => by cases q) (fun x_0 x_1 q => by cases q; exact ke _ _ rfl) (fun v0 h0 q => by cases q; exact kr _ _ rfl)
def c42 (l1 : Nat) (h : hS) : Option (Int × hS) :=
  (c25  h).bind (fun h1 =>
  (some (sR h1 15 11 l1)).bind (fun h2 =>
  (some (mkH h2 8 3)).bind (fun h3 =>
  (k8 (hN h2)).bind (fun u5 =>
  (c11 (hN h2) h3).bind (fun h4 =>
  (some (sR h4 15 12 (hN h2))).bind (fun h6 =>
  (some (sI h6 15 3 0)).bind (fun h7 =>
  (c43  h7).bind (fun h8 =>
  (some (sI h8 15 9 0)).bind (fun h9 =>
  (lp (fun s => c42_b39  s.1 s.2) hF0 (1, h9)).bind (fun r28 => xs r28 (fun x28 =>
  (kB x28.1).bind (fun u29 =>
  some (x28.1, x28.2))) (fun o28 => some o28)))))))))))
set_option maxRecDepth 100000 in
theorem t42 {d : Nat} (hd : 247 ≤ d) {l1 : Nat} {h : hS} {w : mmW} {o : Int × hS} (A : Abs h w)  (e : c42 l1 h = some o) : hEv d 42 [vR 15, vR l1] w (qI o) := by
  obtain ⟨d, rfl⟩ : ∃ d1, d = d1 + 1 := ⟨d - 1, by omega⟩
  have hd : 246 ≤ d := by omega
  refine hEv_start (args := [vr 15, vr l1]) (nl := 5) rfl (Nat.le_of_ble_eq_true rfl) ?_
  show hG d 42 0 [some (vr 15), some (vr l1), none, none, none] [] w _
  have kr : ∀ (v1 : Int) (h1 : hS), o = (v1, h1) → ∀ w', rg v1 → Abs h1 w' → qI o (some (.int (Int32.ofInt v1)), w') := fun v1 h1 q w' r A' => by cases q; exact ⟨rfl, r, A'⟩
  unfold c42 at e
  refine hg_run 1 (pc' := 1) (ls' := [some (vr 15), some (vr l1), none, none, none]) (st' := [vR 15]) rfl ?_
  refine gs_15_0 rfl A ?_
  obtain ⟨h1, e1, e⟩ := ob e
  refine hg_cV (as := [vR 9]) (st' := []) rfl (fun _ _ _ _ => rfl) rfl rfl (Nat.le_of_ble_eq_true rfl) (Nat.le_of_ble_eq_true rfl) (recvV A (a := 1) (Abs_ks A (i := 1) rfl).1) (t25 (by omega) A  e1) (fun w1 A1 => ?_)
  refine hg_run 2 (pc' := 9) (ls' := [some (vr 15), some (vr l1), none, none, none]) (st' := [vR l1, vR 15]) rfl ?_
  obtain ⟨h2, e2, e⟩ := ob e
  refine ps_15_11 rfl A1 e2 (fun w2 A2 => ?_)
  refine hg_run 1 (pc' := 13) (ls' := [some (vr 15), some (vr l1), none, none, none]) (st' := [vR 15]) rfl ?_
  obtain ⟨h3, e3, e⟩ := ob e
  refine hg_new (a := 3) rfl A2 (by decide +kernel) (by decide) e3 (fun w3 A3 => ?_)
  refine hg_run 1 (pc' := 17) (ls' := [some (vr 15), some (vr l1), none, none, none]) (st' := [vR (hN h2), vR (hN h2), vR 15]) rfl ?_
  obtain ⟨u5, e5, e⟩ := ob e
  obtain ⟨h4, e4, e⟩ := ob e
  refine hg_cV (as := [vR (hN h2)]) (st' := [vR (hN h2), vR 15]) rfl (fun _ _ _ _ => rfl) rfl rfl (Nat.le_of_ble_eq_true rfl) (Nat.le_of_ble_eq_true rfl) (recv1 (k8_e e5)) (t11 (by omega) A3  e4) (fun w4 A4 => ?_)
  obtain ⟨h6, e6, e⟩ := ob e
  refine ps_15_12 rfl A4 e6 (fun w6 A6 => ?_)
  refine hg_run 2 (pc' := 25) (ls' := [some (vr 15), some (vr l1), none, none, none]) (st' := [vI 0, vR 15]) rfl ?_
  obtain ⟨h7, e7, e⟩ := ob e
  refine ps_15_3 rfl A6 (rgn 0 rfl) e7 (fun w7 A7 => ?_)
  refine hg_run 1 (pc' := 29) (ls' := [some (vr 15), some (vr l1), none, none, none]) (st' := [vR 15]) rfl ?_
  obtain ⟨h8, e8, e⟩ := ob e
  refine hg_cV (as := [vR 15]) (st' := []) rfl (fun _ _ _ _ => rfl) rfl rfl (Nat.le_of_ble_eq_true rfl) (Nat.le_of_ble_eq_true rfl) (recvV A7 (a := 2) (Abs_ks A7 (i := 7) rfl).1) (t43 (by omega) A7  e8) (fun w8 A8 => ?_)
  refine hg_run 4 (pc' := 36) (ls' := [some (vr 15), some (vr l1), some (vi 1), none, none]) (st' := [vI 0, vR 15]) rfl ?_
  obtain ⟨h9, e9, e⟩ := ob e
  refine ps_15_9 rfl A8 (rgn 0 rfl) e9 (fun w9 A9 => ?_)
  obtain ⟨r28, e28, e⟩ := ob e
  refine t42_l39 hd  _ (rgn 1 rfl) A9 e28 ?_ ?_
  · intro x28_0 x28_1 qq28 w28 z28_3 z28_4 q28_2 A28
    subst qq28
    have e := xs_l e
    try dsimp only at e
    refine hg_run 1 (pc' := 180) (ls' := [some (vr 15), some (vr l1), some (vi x28_0), z28_3, z28_4]) (st' := [vI x28_0]) rfl ?_
    obtain ⟨u29, e29, e⟩ := ob e
    cases e
    exact hg_retI rfl (by decide) (fit_B (kB_e e29)) (kr _ _ rfl _ q28_2 A28)
  · intro v28 h28 qq28 w28 r28 A28
    subst qq28
    have e := xs_r e
    cases e
    exact kr _ _ rfl w28 r28 A28
def c89_b8 (l0 : Nat) (l1 : Nat) (l2 : Int) (h : hS) : Option ((Int × hS) ⊕ (hS)) :=
  (gI h l1 24 4).bind (fun v2 =>
  if v2 ≤ l2 then
  some (.inr (h))
  else
  (gR h l0 24 14).bind (fun v4 =>
  (gR h l1 24 5).bind (fun v5 =>
  (aI h v5 1 l2).bind (fun v6 =>
  (wI h v4 3 v6 (wbol 1)).bind (fun h7 =>
  some (.inl ((wadd l2 1), h7)))))))
set_option maxRecDepth 100000 in
theorem t89_b8 {d : Nat} (hd : 0 ≤ d) {l0 : Nat} {l1 : Nat} {l2 : Int}  {h : hS} {w : mmW} {o : (Int × hS) ⊕ (hS)} {Q : mmO → Prop} (rl2 : rg l2) (A : Abs h w) (e : c89_b8 l0 l1 l2 h = some o) (kb : ∀ (s_0 : Int) (s_1 : hS), o = .inl (s_0, s_1) → ∀ w', rg s_0 → Abs s_1 w' → hG d 89 8 [some (vr l0), some (vr l1), some (vi s_0)] [] w' Q) (ke : ∀ (x_0 : hS), o = .inr (x_0) → ∀ w', ∀ (y2 : Option hO), Abs x_0 w' → hG d 89 34 [some (vr l0), some (vr l1), y2] [] w' Q) : hG d 89 8 [some (vr l0), some (vr l1), some (vi l2)] [] w Q := by
  unfold c89_b8 at e
  refine hg_run 2 (pc' := 10) (ls' := [some (vr l0), some (vr l1), some (vi l2)]) (st' := [vR l1, vI l2]) rfl ?_
  obtain ⟨v2, e2, e⟩ := ob e
  refine gd_11_4 rfl A e2 (fun r2 => ?_)
  rcases oi e with ⟨q3, e⟩ | ⟨q3, e⟩
  · refine hg_icT (tgt := 34) rfl (by decide) rl2 r2 q3 ?_
    cases e
    exact ke h rfl _ _  A
  · refine hg_icF (tgt := 34) rfl (by decide) rl2 r2 q3 ?_
    refine hg_run 1 (pc' := 17) (ls' := [some (vr l0), some (vr l1), some (vi l2)]) (st' := [vR l0]) rfl ?_
    obtain ⟨v4, e4, e⟩ := ob e
    refine gd_11_14 rfl A e4 ?_
    refine hg_run 1 (pc' := 21) (ls' := [some (vr l0), some (vr l1), some (vi l2)]) (st' := [vR l1, vR v4]) rfl ?_
    obtain ⟨v5, e5, e⟩ := ob e
    refine gd_11_5 rfl A e5 ?_
    refine hg_run 1 (pc' := 25) (ls' := [some (vr l0), some (vr l1), some (vi l2)]) (st' := [vI l2, vR v5, vR v4]) rfl ?_
    obtain ⟨v6, e6, e⟩ := ob e
    refine hg_aId 0 rfl (fun _ _ _ _ => rfl) A rfl (by decide) e6 (fun r6 => ?_)
    refine hg_run 1 (pc' := 27) (ls' := [some (vr l0), some (vr l1), some (vi l2)]) (st' := [vI 1, vI v6, vR v4]) rfl ?_
    obtain ⟨h7, e7, e⟩ := ob e
    refine hg_wBd rfl A e7 (fun w7 A7 => ?_)
    refine hg_run 2 (pc' := 8) (ls' := [some (vr l0), some (vr l1), some (vi (wadd l2 1))]) (st' := []) rfl ?_
    cases e
    exact kb (wadd l2 1) h7 rfl _ (rg_add _ _) A7
set_option maxRecDepth 100000 in
theorem t89_l8 {d : Nat} (hd : 0 ≤ d) {l0 : Nat} {l1 : Nat}  {Q : mmO → Prop}  (n : Nat) {l2 : Int}  {h : hS} {w : mmW} {r : hS} (rl2 : rg l2) (A : Abs h w) (e : lp (fun s => c89_b8 l0 l1 s.1 s.2) n (l2, h) = some r) (ke : ∀ (x_0 : hS), r = (x_0) → ∀ w', ∀ (y2 : Option hO), Abs x_0 w' → hG d 89 34 [some (vr l0), some (vr l1), y2] [] w' Q) : hG d 89 8 [some (vr l0), some (vr l1), some (vi l2)] [] w Q := by
  induction n generalizing l2 h w with
  | zero => cases e
  | succ n ih =>
    rcases lp_succ e with ⟨s1, e1, e2⟩ | e1
    · exact t89_b8 hd rl2 A e1 (fun s_0 s_1 q w1 rl2 A1 => by cases q; exact ih rl2 A1 e2) (fun x_0 q => by cases q)
    · exact t89_b8 hd rl2 A e1 (fun s_0 s_1 q => by cases q) (fun x_0 q => by cases q; exact ke _ rfl)
def c89_b36 (l0 : Nat) (l1 : Nat) (l2 : Int) (h : hS) : Option ((Int × hS) ⊕ (hS)) :=
  (gI h l1 24 8).bind (fun v9 =>
  if v9 ≤ l2 then
  some (.inr (h))
  else
  (gR h l0 24 15).bind (fun v11 =>
  (gR h l1 24 9).bind (fun v12 =>
  (aI h v12 1 l2).bind (fun v13 =>
  (wR h v11 17 24 v13 l1).bind (fun h14 =>
  (gR h14 l0 24 16).bind (fun v15 =>
  (gR h14 l1 24 9).bind (fun v16 =>
  (aI h14 v16 1 l2).bind (fun v17 =>
  (wI h14 v15 1 v17 l2).bind (fun h18 =>
  some (.inl ((wadd l2 1), h18)))))))))))
set_option maxRecDepth 100000 in
theorem t89_b36 {d : Nat} (hd : 0 ≤ d) {l0 : Nat} {l1 : Nat} {l2 : Int}  {h : hS} {w : mmW} {o : (Int × hS) ⊕ (hS)} {Q : mmO → Prop} (rl2 : rg l2) (A : Abs h w) (e : c89_b36 l0 l1 l2 h = some o) (kb : ∀ (s_0 : Int) (s_1 : hS), o = .inl (s_0, s_1) → ∀ w', rg s_0 → Abs s_1 w' → hG d 89 36 [some (vr l0), some (vr l1), some (vi s_0)] [] w' Q) (ke : ∀ (x_0 : hS), o = .inr (x_0) → ∀ w', ∀ (y2 : Option hO), Abs x_0 w' → hG d 89 74 [some (vr l0), some (vr l1), y2] [] w' Q) : hG d 89 36 [some (vr l0), some (vr l1), some (vi l2)] [] w Q := by
  unfold c89_b36 at e
  refine hg_run 2 (pc' := 38) (ls' := [some (vr l0), some (vr l1), some (vi l2)]) (st' := [vR l1, vI l2]) rfl ?_
  obtain ⟨v9, e9, e⟩ := ob e
  refine gd_11_8 rfl A e9 (fun r9 => ?_)
  rcases oi e with ⟨q10, e⟩ | ⟨q10, e⟩
  · refine hg_icT (tgt := 74) rfl (by decide) rl2 r9 q10 ?_
    cases e
    exact ke h rfl _ _  A
  · refine hg_icF (tgt := 74) rfl (by decide) rl2 r9 q10 ?_
    refine hg_run 1 (pc' := 45) (ls' := [some (vr l0), some (vr l1), some (vi l2)]) (st' := [vR l0]) rfl ?_
    obtain ⟨v11, e11, e⟩ := ob e
    refine gd_11_15 rfl A e11 ?_
    refine hg_run 1 (pc' := 49) (ls' := [some (vr l0), some (vr l1), some (vi l2)]) (st' := [vR l1, vR v11]) rfl ?_
    obtain ⟨v12, e12, e⟩ := ob e
    refine gd_11_9 rfl A e12 ?_
    refine hg_run 1 (pc' := 53) (ls' := [some (vr l0), some (vr l1), some (vi l2)]) (st' := [vI l2, vR v12, vR v11]) rfl ?_
    obtain ⟨v13, e13, e⟩ := ob e
    refine hg_aId 0 rfl (fun _ _ _ _ => rfl) A rfl (by decide) e13 (fun r13 => ?_)
    refine hg_run 1 (pc' := 55) (ls' := [some (vr l0), some (vr l1), some (vi l2)]) (st' := [vR l1, vI v13, vR v11]) rfl ?_
    obtain ⟨h14, e14, e⟩ := ob e
    refine hg_wRd 8 rfl A (by decide) (by decide) e14 (fun w14 A14 => ?_)
    refine hg_run 1 (pc' := 57) (ls' := [some (vr l0), some (vr l1), some (vi l2)]) (st' := [vR l0]) rfl ?_
    obtain ⟨v15, e15, e⟩ := ob e
    refine gd_11_16 rfl A14 e15 ?_
    refine hg_run 1 (pc' := 61) (ls' := [some (vr l0), some (vr l1), some (vi l2)]) (st' := [vR l1, vR v15]) rfl ?_
    obtain ⟨v16, e16, e⟩ := ob e
    refine gd_11_9 rfl A14 e16 ?_
    refine hg_run 1 (pc' := 65) (ls' := [some (vr l0), some (vr l1), some (vi l2)]) (st' := [vI l2, vR v16, vR v15]) rfl ?_
    obtain ⟨v17, e17, e⟩ := ob e
    refine hg_aId 0 rfl (fun _ _ _ _ => rfl) A14 rfl (by decide) e17 (fun r17 => ?_)
    refine hg_run 1 (pc' := 67) (ls' := [some (vr l0), some (vr l1), some (vi l2)]) (st' := [vI l2, vI v17, vR v15]) rfl ?_
    obtain ⟨h18, e18, e⟩ := ob e
    refine hg_wId rfl A14 rl2 e18 (fun w18 A18 => ?_)
    refine hg_run 2 (pc' := 36) (ls' := [some (vr l0), some (vr l1), some (vi (wadd l2 1))]) (st' := []) rfl ?_
    cases e
    exact kb (wadd l2 1) h18 rfl _ (rg_add _ _) A18
set_option maxRecDepth 100000 in
theorem t89_l36 {d : Nat} (hd : 0 ≤ d) {l0 : Nat} {l1 : Nat}  {Q : mmO → Prop}  (n : Nat) {l2 : Int}  {h : hS} {w : mmW} {r : hS} (rl2 : rg l2) (A : Abs h w) (e : lp (fun s => c89_b36 l0 l1 s.1 s.2) n (l2, h) = some r) (ke : ∀ (x_0 : hS), r = (x_0) → ∀ w', ∀ (y2 : Option hO), Abs x_0 w' → hG d 89 74 [some (vr l0), some (vr l1), y2] [] w' Q) : hG d 89 36 [some (vr l0), some (vr l1), some (vi l2)] [] w Q := by
  induction n generalizing l2 h w with
  | zero => cases e
  | succ n ih =>
    rcases lp_succ e with ⟨s1, e1, e2⟩ | e1
    · exact t89_b36 hd rl2 A e1 (fun s_0 s_1 q w1 rl2 A1 => by cases q; exact ih rl2 A1 e2) (fun x_0 q => by cases q)
    · exact t89_b36 hd rl2 A e1 (fun s_0 s_1 q => by cases q) (fun x_0 q => by cases q; exact ke _ rfl)
def c89_j122 (l2 : Int) (h : hS) : Option ((Int × hS) ⊕ (hS)) :=
  some (.inl ((wadd l2 1), h))
set_option maxRecDepth 100000 in
theorem t89_j122 {d : Nat} (hd : 0 ≤ d) {l2 : Int} {l0 : Nat} {l1 : Nat} {h : hS} {w : mmW} {o : (Int × hS) ⊕ (hS)} {Q : mmO → Prop} (rl2 : rg l2) (A : Abs h w) (e : c89_j122 l2 h = some o) (kb : ∀ (s_0 : Int) (s_1 : hS), o = .inl (s_0, s_1) → ∀ w', rg s_0 → Abs s_1 w' → hG d 89 76 [some (vr l0), some (vr l1), some (vi s_0)] [] w' Q) (ke : ∀ (x_0 : hS), o = .inr (x_0) → ∀ w', ∀ (y2 : Option hO), Abs x_0 w' → hG d 89 128 [some (vr l0), some (vr l1), y2] [] w' Q) : hG d 89 122 [some (vr l0), some (vr l1), some (vi l2)] [] w Q := by
  unfold c89_j122 at e
  refine hg_run 2 (pc' := 76) (ls' := [some (vr l0), some (vr l1), some (vi (wadd l2 1))]) (st' := []) rfl ?_
  cases e
  exact kb (wadd l2 1) h rfl _ (rg_add _ _) A
def c89_b76 (l0 : Nat) (l1 : Nat) (l2 : Int) (h : hS) : Option ((Int × hS) ⊕ (hS)) :=
  (gI h l1 24 11).bind (fun v20 =>
  if v20 ≤ l2 then
  some (.inr (h))
  else
  (gR h l0 24 17).bind (fun v22 =>
  (gR h l1 24 12).bind (fun v23 =>
  (aI h v23 1 l2).bind (fun v24 =>
  (aR h v22 17 v24).bind (fun v25 =>
  (hnul v25).bind (fun b26 =>
  if b26 = true then
  (gR h l0 24 17).bind (fun v27 =>
  (gR h l1 24 12).bind (fun v28 =>
  (aI h v28 1 l2).bind (fun v29 =>
  (wR h v27 17 24 v29 l1).bind (fun h30 =>
  (gR h30 l0 24 18).bind (fun v31 =>
  (gR h30 l1 24 12).bind (fun v32 =>
  (aI h30 v32 1 l2).bind (fun v33 =>
  (wI h30 v31 1 v33 l2).bind (fun h34 =>
  c89_j122 l2 h34))))))))
  else
  c89_j122 l2 h))))))
set_option maxRecDepth 100000 in
theorem t89_b76 {d : Nat} (hd : 0 ≤ d) {l0 : Nat} {l1 : Nat} {l2 : Int}  {h : hS} {w : mmW} {o : (Int × hS) ⊕ (hS)} {Q : mmO → Prop} (rl2 : rg l2) (A : Abs h w) (e : c89_b76 l0 l1 l2 h = some o) (kb : ∀ (s_0 : Int) (s_1 : hS), o = .inl (s_0, s_1) → ∀ w', rg s_0 → Abs s_1 w' → hG d 89 76 [some (vr l0), some (vr l1), some (vi s_0)] [] w' Q) (ke : ∀ (x_0 : hS), o = .inr (x_0) → ∀ w', ∀ (y2 : Option hO), Abs x_0 w' → hG d 89 128 [some (vr l0), some (vr l1), y2] [] w' Q) : hG d 89 76 [some (vr l0), some (vr l1), some (vi l2)] [] w Q := by
  unfold c89_b76 at e
  refine hg_run 2 (pc' := 78) (ls' := [some (vr l0), some (vr l1), some (vi l2)]) (st' := [vR l1, vI l2]) rfl ?_
  obtain ⟨v20, e20, e⟩ := ob e
  refine gd_11_11 rfl A e20 (fun r20 => ?_)
  rcases oi e with ⟨q21, e⟩ | ⟨q21, e⟩
  · refine hg_icT (tgt := 128) rfl (by decide) rl2 r20 q21 ?_
    cases e
    exact ke h rfl _ _  A
  · refine hg_icF (tgt := 128) rfl (by decide) rl2 r20 q21 ?_
    refine hg_run 1 (pc' := 85) (ls' := [some (vr l0), some (vr l1), some (vi l2)]) (st' := [vR l0]) rfl ?_
    obtain ⟨v22, e22, e⟩ := ob e
    refine gd_11_17 rfl A e22 ?_
    refine hg_run 1 (pc' := 89) (ls' := [some (vr l0), some (vr l1), some (vi l2)]) (st' := [vR l1, vR v22]) rfl ?_
    obtain ⟨v23, e23, e⟩ := ob e
    refine gd_11_12 rfl A e23 ?_
    refine hg_run 1 (pc' := 93) (ls' := [some (vr l0), some (vr l1), some (vi l2)]) (st' := [vI l2, vR v23, vR v22]) rfl ?_
    obtain ⟨v24, e24, e⟩ := ob e
    refine hg_aId 0 rfl (fun _ _ _ _ => rfl) A rfl (by decide) e24 (fun r24 => ?_)
    obtain ⟨v25, e25, e⟩ := ob e
    refine hg_aRd 8 rfl (fun _ _ _ _ => rfl) A rfl (by decide) e25 ?_
    obtain ⟨b26, e26, e⟩ := ob e
    rcases oi e with ⟨q26, e⟩ | ⟨q26, e⟩
    · refine hg_nul (yes := false) (tgt := 122) (t2 := 98) rfl (fun _ _ _ _ => rfl) (by decide) (ebT e26 q26) rfl ?_
      refine hg_run 1 (pc' := 99) (ls' := [some (vr l0), some (vr l1), some (vi l2)]) (st' := [vR l0]) rfl ?_
      obtain ⟨v27, e27, e⟩ := ob e
      refine gd_11_17 rfl A e27 ?_
      refine hg_run 1 (pc' := 103) (ls' := [some (vr l0), some (vr l1), some (vi l2)]) (st' := [vR l1, vR v27]) rfl ?_
      obtain ⟨v28, e28, e⟩ := ob e
      refine gd_11_12 rfl A e28 ?_
      refine hg_run 1 (pc' := 107) (ls' := [some (vr l0), some (vr l1), some (vi l2)]) (st' := [vI l2, vR v28, vR v27]) rfl ?_
      obtain ⟨v29, e29, e⟩ := ob e
      refine hg_aId 0 rfl (fun _ _ _ _ => rfl) A rfl (by decide) e29 (fun r29 => ?_)
      refine hg_run 1 (pc' := 109) (ls' := [some (vr l0), some (vr l1), some (vi l2)]) (st' := [vR l1, vI v29, vR v27]) rfl ?_
      obtain ⟨h30, e30, e⟩ := ob e
      refine hg_wRd 8 rfl A (by decide) (by decide) e30 (fun w30 A30 => ?_)
      refine hg_run 1 (pc' := 111) (ls' := [some (vr l0), some (vr l1), some (vi l2)]) (st' := [vR l0]) rfl ?_
      obtain ⟨v31, e31, e⟩ := ob e
      refine gd_11_18 rfl A30 e31 ?_
      refine hg_run 1 (pc' := 115) (ls' := [some (vr l0), some (vr l1), some (vi l2)]) (st' := [vR l1, vR v31]) rfl ?_
      obtain ⟨v32, e32, e⟩ := ob e
      refine gd_11_12 rfl A30 e32 ?_
      refine hg_run 1 (pc' := 119) (ls' := [some (vr l0), some (vr l1), some (vi l2)]) (st' := [vI l2, vR v32, vR v31]) rfl ?_
      obtain ⟨v33, e33, e⟩ := ob e
      refine hg_aId 0 rfl (fun _ _ _ _ => rfl) A30 rfl (by decide) e33 (fun r33 => ?_)
      refine hg_run 1 (pc' := 121) (ls' := [some (vr l0), some (vr l1), some (vi l2)]) (st' := [vI l2, vI v33, vR v31]) rfl ?_
      obtain ⟨h34, e34, e⟩ := ob e
      refine hg_wId rfl A30 rl2 e34 (fun w34 A34 => ?_)
      exact t89_j122 hd rl2 A34 e kb ke
    · refine hg_nul (yes := false) (tgt := 122) (t2 := 122) rfl (fun _ _ _ _ => rfl) (by decide) (ebF e26 q26) rfl ?_
      exact t89_j122 hd rl2 A e kb ke
set_option maxRecDepth 100000 in
theorem t89_l76 {d : Nat} (hd : 0 ≤ d) {l0 : Nat} {l1 : Nat}  {Q : mmO → Prop}  (n : Nat) {l2 : Int}  {h : hS} {w : mmW} {r : hS} (rl2 : rg l2) (A : Abs h w) (e : lp (fun s => c89_b76 l0 l1 s.1 s.2) n (l2, h) = some r) (ke : ∀ (x_0 : hS), r = (x_0) → ∀ w', ∀ (y2 : Option hO), Abs x_0 w' → hG d 89 128 [some (vr l0), some (vr l1), y2] [] w' Q) : hG d 89 76 [some (vr l0), some (vr l1), some (vi l2)] [] w Q := by
  induction n generalizing l2 h w with
  | zero => cases e
  | succ n ih =>
    rcases lp_succ e with ⟨s1, e1, e2⟩ | e1
    · exact t89_b76 hd rl2 A e1 (fun s_0 s_1 q w1 rl2 A1 => by cases q; exact ih rl2 A1 e2) (fun x_0 q => by cases q)
    · exact t89_b76 hd rl2 A e1 (fun s_0 s_1 q => by cases q) (fun x_0 q => by cases q; exact ke _ rfl)
def c89_b2 (l0 : Nat) (l1 : Nat) (h : hS) : Option ((Nat × hS) ⊕ (hS)) :=
  (hnul l1).bind (fun b1 =>
  if b1 = true then
  some (.inr (h))
  else
  (lp (fun s => c89_b8 l0 l1 s.1 s.2) hF0 (0, h)).bind (fun r8 =>
  (lp (fun s => c89_b36 l0 l1 s.1 s.2) hF0 (0, r8)).bind (fun r19 =>
  (lp (fun s => c89_b76 l0 l1 s.1 s.2) hF0 (0, r19)).bind (fun r35 =>
  (gR r35 l1 24 1).bind (fun v36 =>
  some (.inl (v36, r35)))))))
set_option maxRecDepth 100000 in
theorem t89_b2 {d : Nat} (hd : 0 ≤ d) {l0 : Nat} {l1 : Nat} {z2 : Option hO} {h : hS} {w : mmW} {o : (Nat × hS) ⊕ (hS)} {Q : mmO → Prop}  (A : Abs h w) (e : c89_b2 l0 l1 h = some o) (kb : ∀ (s_0 : Nat) (s_1 : hS), o = .inl (s_0, s_1) → ∀ w', ∀ (y2 : Option hO), Abs s_1 w' → hG d 89 2 [some (vr l0), some (vr s_0), y2] [] w' Q) (ke : ∀ (x_0 : hS), o = .inr (x_0) → ∀ w', ∀ (y1 y2 : Option hO), Abs x_0 w' → hG d 89 136 [some (vr l0), y1, y2] [] w' Q) : hG d 89 2 [some (vr l0), some (vr l1), z2] [] w Q := by
  unfold c89_b2 at e
  refine hg_run 1 (pc' := 3) (ls' := [some (vr l0), some (vr l1), z2]) (st' := [vR l1]) rfl ?_
  obtain ⟨b1, e1, e⟩ := ob e
  rcases oi e with ⟨q1, e⟩ | ⟨q1, e⟩
  · refine hg_nul (yes := true) (tgt := 136) (t2 := 136) rfl (fun _ _ _ _ => rfl) (by decide) (ebT e1 q1) rfl ?_
    cases e
    exact ke h rfl _ _ _  A
  · refine hg_nul (yes := true) (tgt := 136) (t2 := 6) rfl (fun _ _ _ _ => rfl) (by decide) (ebF e1 q1) rfl ?_
    refine hg_run 2 (pc' := 8) (ls' := [some (vr l0), some (vr l1), some (vi 0)]) (st' := []) rfl ?_
    obtain ⟨r8, e8, e⟩ := ob e
    refine t89_l8 hd  _ (rgn 0 rfl) A e8 ?_
    intro x8_0 qq8 w8 z8_2 A8
    subst qq8
    refine hg_run 2 (pc' := 36) (ls' := [some (vr l0), some (vr l1), some (vi 0)]) (st' := []) rfl ?_
    obtain ⟨r19, e19, e⟩ := ob e
    refine t89_l36 hd  _ (rgn 0 rfl) A8 e19 ?_
    intro x19_0 qq19 w19 z19_2 A19
    subst qq19
    refine hg_run 2 (pc' := 76) (ls' := [some (vr l0), some (vr l1), some (vi 0)]) (st' := []) rfl ?_
    obtain ⟨r35, e35, e⟩ := ob e
    refine t89_l76 hd  _ (rgn 0 rfl) A19 e35 ?_
    intro x35_0 qq35 w35 z35_2 A35
    subst qq35
    refine hg_run 1 (pc' := 129) (ls' := [some (vr l0), some (vr l1), z35_2]) (st' := [vR l1]) rfl ?_
    obtain ⟨v36, e36, e⟩ := ob e
    refine gd_11_1 rfl A35 e36 ?_
    refine hg_run 2 (pc' := 2) (ls' := [some (vr l0), some (vr v36), z35_2]) (st' := []) rfl ?_
    cases e
    exact kb v36 r35 rfl _ _  A35
set_option maxRecDepth 100000 in
theorem t89_l2 {d : Nat} (hd : 0 ≤ d) {l0 : Nat}  {Q : mmO → Prop}  (n : Nat) {l1 : Nat} {z2 : Option hO} {h : hS} {w : mmW} {r : hS}  (A : Abs h w) (e : lp (fun s => c89_b2 l0 s.1 s.2) n (l1, h) = some r) (ke : ∀ (x_0 : hS), r = (x_0) → ∀ w', ∀ (y1 y2 : Option hO), Abs x_0 w' → hG d 89 136 [some (vr l0), y1, y2] [] w' Q) : hG d 89 2 [some (vr l0), some (vr l1), z2] [] w Q := by
  induction n generalizing l1 z2 h w with
  | zero => cases e
  | succ n ih =>
    rcases lp_succ e with ⟨s1, e1, e2⟩ | e1
    · exact t89_b2 hd  A e1 (fun s_0 s_1 q w1 y2 A1 => by cases q; exact ih  A1 e2) (fun x_0 q => by cases q)
    · exact t89_b2 hd  A e1 (fun s_0 s_1 q => by cases q) (fun x_0 q => by cases q; exact ke _ rfl)
def c89 (l0 : Nat) (h : hS) : Option (hS) :=
  (lp (fun s => c89_b2 l0 s.1 s.2) hF0 (l0, h)).bind (fun r37 =>
  some r37)
set_option maxRecDepth 100000 in
theorem t89 {d : Nat} (hd : 1 ≤ d) {l0 : Nat} {h : hS} {w : mmW} {o : hS} (A : Abs h w)  (e : c89 l0 h = some o) : hEv d 89 [vR l0] w (qV o) := by
  obtain ⟨d, rfl⟩ : ∃ d1, d = d1 + 1 := ⟨d - 1, by omega⟩
  have hd : 0 ≤ d := by omega
  refine hEv_start (args := [vr l0]) (nl := 3) rfl (Nat.le_of_ble_eq_true rfl) ?_
  show hG d 89 0 [some (vr l0), none, none] [] w _
  have kr : ∀ h1 : hS, o = h1 → ∀ w', Abs h1 w' → qV o (none, w') := fun h1 q w' A' => by cases q; exact ⟨rfl, A'⟩
  unfold c89 at e
  refine hg_run 2 (pc' := 2) (ls' := [some (vr l0), some (vr l0), none]) (st' := []) rfl ?_
  obtain ⟨r37, e37, e⟩ := ob e
  refine t89_l2 hd  _  A e37 ?_
  intro x37_0 qq37 w37 z37_1 z37_2 A37
  subst qq37
  cases e
  exact hg_retV rfl (kr _ rfl _ A37)
def c90_j79 (l5 : Int) (h : hS) : Option ((Int × hS) ⊕ (hS)) :=
  some (.inl ((wadd l5 1), h))
theorem t90_j79 {d : Nat} (hd : 2 ≤ d) {l5 : Int} {l0 : Nat} {l1 : Nat} {l2 : Int} {l3 : Nat} {l4 : Nat} {z6 : Option hO} {h : hS} {w : mmW} {o : (Int × hS) ⊕ (hS)} {Q : mmO → Prop} (rl5 : rg l5) (A : Abs h w) (e : c90_j79 l5 h = some o) (kb : ∀ (s_0 : Int) (s_1 : hS), o = .inl (s_0, s_1) → ∀ w', ∀ (y6 : Option hO), rg s_0 → Abs s_1 w' → hG d 90 30 [some (vr l0), some (vr l1), some (vi l2), some (vr l3), some (vr l4), some (vi s_0), y6] [] w' Q) (ke : ∀ (x_0 : hS), o = .inr (x_0) → ∀ w', ∀ (y5 y6 : Option hO), Abs x_0 w' → hG d 90 85 [some (vr l0), some (vr l1), some (vi l2), some (vr l3), some (vr l4), y5, y6] [] w' Q) : hG d 90 79 [some (vr l0), some (vr l1), some (vi l2), some (vr l3), some (vr l4), some (vi l5), z6] [] w Q := by
  unfold c90_j79 at e
  refine hg_run 2 (pc' := 30) (ls' := [some (vr l0), some (vr l1), some (vi l2), some (vr l3), some (vr l4), some (vi (wadd l5 1)), z6]) (st' := []) rfl ?_
  cases e
  exact kb (wadd l5 1) h rfl _ _ (rg_add _ _) A
def c90_b30 (l3 : Nat) (l4 : Nat) (l5 : Int) (h : hS) : Option ((Int × hS) ⊕ (hS)) :=
  (hnul l4).bind (fun b8 =>
  if b8 = true then
  some (.inr (h))
  else
  (gI h l3 24 8).bind (fun v9 =>
  if v9 ≤ l5 then
  some (.inr (h))
  else
  (gR h l3 24 9).bind (fun v11 =>
  (aI h v11 1 l5).bind (fun v12 =>
  (kT h l4 24).bind (fun u14 =>
  (c81 l4 v12 h).bind (fun v13 =>
  if v13 = (-1) then
  c90_j79 l5 h
  else
  (gR h l3 24 10).bind (fun v16 =>
  (gR h l4 24 10).bind (fun v17 =>
  (aI h v17 1 v13).bind (fun v18 =>
  (wI h v16 1 l5 v18).bind (fun h19 =>
  c90_j79 l5 h19))))))))))
theorem t90_b30 {d : Nat} (hd : 2 ≤ d) {l3 : Nat} {l4 : Nat} {l5 : Int} {l0 : Nat} {l1 : Nat} {l2 : Int} {z6 : Option hO} {h : hS} {w : mmW} {o : (Int × hS) ⊕ (hS)} {Q : mmO → Prop} (rl5 : rg l5) (A : Abs h w) (e : c90_b30 l3 l4 l5 h = some o) (kb : ∀ (s_0 : Int) (s_1 : hS), o = .inl (s_0, s_1) → ∀ w', ∀ (y6 : Option hO), rg s_0 → Abs s_1 w' → hG d 90 30 [some (vr l0), some (vr l1), some (vi l2), some (vr l3), some (vr l4), some (vi s_0), y6] [] w' Q) (ke : ∀ (x_0 : hS), o = .inr (x_0) → ∀ w', ∀ (y5 y6 : Option hO), Abs x_0 w' → hG d 90 85 [some (vr l0), some (vr l1), some (vi l2), some (vr l3), some (vr l4), y5, y6] [] w' Q) : hG d 90 30 [some (vr l0), some (vr l1), some (vi l2), some (vr l3), some (vr l4), some (vi l5), z6] [] w Q := by
  unfold c90_b30 at e
  refine hg_run 1 (pc' := 32) (ls' := [some (vr l0), some (vr l1), some (vi l2), some (vr l3), some (vr l4), some (vi l5), z6]) (st' := [vR l4]) rfl ?_
  obtain ⟨b8, e8, e⟩ := ob e
  rcases oi e with ⟨q8, e⟩ | ⟨q8, e⟩
  · refine hg_nul (yes := true) (tgt := 85) (t2 := 85) rfl (fun _ _ _ _ => rfl) (by decide) (ebT e8 q8) rfl ?_
    cases e
    exact ke h rfl _ _ _  A
  · refine hg_nul (yes := true) (tgt := 85) (t2 := 35) rfl (fun _ _ _ _ => rfl) (by decide) (ebF e8 q8) rfl ?_
    refine hg_run 2 (pc' := 38) (ls' := [some (vr l0), some (vr l1), some (vi l2), some (vr l3), some (vr l4), some (vi l5), z6]) (st' := [vR l3, vI l5]) rfl ?_
    obtain ⟨v9, e9, e⟩ := ob e
    refine gd_11_8 rfl A e9 (fun r9 => ?_)
    rcases oi e with ⟨q10, e⟩ | ⟨q10, e⟩
    · refine hg_icT (tgt := 85) rfl (by decide) rl5 r9 q10 ?_
      cases e
      exact ke h rfl _ _ _  A
    · refine hg_icF (tgt := 85) rfl (by decide) rl5 r9 q10 ?_
      refine hg_run 2 (pc' := 47) (ls' := [some (vr l0), some (vr l1), some (vi l2), some (vr l3), some (vr l4), some (vi l5), z6]) (st' := [vR l3, vR l4]) rfl ?_
      obtain ⟨v11, e11, e⟩ := ob e
      refine gd_11_9 rfl A e11 ?_
      refine hg_run 1 (pc' := 52) (ls' := [some (vr l0), some (vr l1), some (vi l2), some (vr l3), some (vr l4), some (vi l5), z6]) (st' := [vI l5, vR v11, vR l4]) rfl ?_
      obtain ⟨v12, e12, e⟩ := ob e
      refine hg_aId 0 rfl (fun _ _ _ _ => rfl) A rfl (by decide) e12 (fun r12 => ?_)
      obtain ⟨u14, e14, e⟩ := ob e
      obtain ⟨v13, e13, e⟩ := ob e
      refine hg_cIp (as := [vR l4, vI v12]) (st' := []) rfl (fun _ _ _ _ => rfl) rfl rfl (Nat.le_of_ble_eq_true rfl) (Nat.le_of_ble_eq_true rfl) (recvV A (a := 11) (kT_e e14)) (t81 (by omega) A r12 e13) (fun r13 => ?_)
      refine hg_run 3 (pc' := 61) (ls' := [some (vr l0), some (vr l1), some (vi l2), some (vr l3), some (vr l4), some (vi l5), some (vi v13)]) (st' := [vI (-1), vI v13]) rfl ?_
      rcases oi e with ⟨q15, e⟩ | ⟨q15, e⟩
      · refine hg_icT (tgt := 79) rfl (by decide) r13 (rgn (-1) rfl) q15 ?_
        exact t90_j79 hd rl5 A e kb ke
      · refine hg_icF (tgt := 79) rfl (by decide) r13 (rgn (-1) rfl) q15 ?_
        refine hg_run 1 (pc' := 65) (ls' := [some (vr l0), some (vr l1), some (vi l2), some (vr l3), some (vr l4), some (vi l5), some (vi v13)]) (st' := [vR l3]) rfl ?_
        obtain ⟨v16, e16, e⟩ := ob e
        refine gd_11_10 rfl A e16 ?_
        refine hg_run 2 (pc' := 72) (ls' := [some (vr l0), some (vr l1), some (vi l2), some (vr l3), some (vr l4), some (vi l5), some (vi v13)]) (st' := [vR l4, vI l5, vR v16]) rfl ?_
        obtain ⟨v17, e17, e⟩ := ob e
        refine gd_11_10 rfl A e17 ?_
        refine hg_run 1 (pc' := 77) (ls' := [some (vr l0), some (vr l1), some (vi l2), some (vr l3), some (vr l4), some (vi l5), some (vi v13)]) (st' := [vI v13, vR v17, vI l5, vR v16]) rfl ?_
        obtain ⟨v18, e18, e⟩ := ob e
        refine hg_aId 0 rfl (fun _ _ _ _ => rfl) A rfl (by decide) e18 (fun r18 => ?_)
        obtain ⟨h19, e19, e⟩ := ob e
        refine hg_wId rfl A r18 e19 (fun w19 A19 => ?_)
        exact t90_j79 hd rl5 A19 e kb ke
theorem t90_l30 {d : Nat} (hd : 2 ≤ d) {l3 : Nat} {l4 : Nat} {l0 : Nat} {l1 : Nat} {l2 : Int} {Q : mmO → Prop}  (n : Nat) {l5 : Int} {z6 : Option hO} {h : hS} {w : mmW} {r : hS} (rl5 : rg l5) (A : Abs h w) (e : lp (fun s => c90_b30 l3 l4 s.1 s.2) n (l5, h) = some r) (ke : ∀ (x_0 : hS), r = (x_0) → ∀ w', ∀ (y5 y6 : Option hO), Abs x_0 w' → hG d 90 85 [some (vr l0), some (vr l1), some (vi l2), some (vr l3), some (vr l4), y5, y6] [] w' Q) : hG d 90 30 [some (vr l0), some (vr l1), some (vi l2), some (vr l3), some (vr l4), some (vi l5), z6] [] w Q := by
  induction n generalizing l5 z6 h w with
  | zero => cases e
  | succ n ih =>
    rcases lp_succ e with ⟨s1, e1, e2⟩ | e1
    · exact t90_b30 hd rl5 A e1 (fun s_0 s_1 q w1 y6 rl5 A1 => by cases q; exact ih rl5 A1 e2) (fun x_0 q => by cases q)
    · exact t90_b30 hd rl5 A e1 (fun s_0 s_1 q => by cases q) (fun x_0 q => by cases q; exact ke _ rfl)
def c90_b2 (l0 : Nat) (l1 : Nat) (l2 : Int) (h : hS) : Option ((Int × hS) ⊕ (hS)) :=
  (gI h l0 18 1).bind (fun v1 =>
  if v1 ≤ l2 then
  some (.inr (h))
  else
  (gR h l0 18 0).bind (fun v3 =>
  (aR h v3 17 l2).bind (fun v4 =>
  (gI h v4 24 0).bind (fun v5 =>
  (kT h l1 18).bind (fun u7 =>
  (c47 l1 v5 h).bind (fun v6 =>
  (lp (fun s => c90_b30 v4 v6 s.1 s.2) hF0 (0, h)).bind (fun r20 =>
  some (.inl ((wadd l2 1), r20)))))))))
theorem t90_b2 {d : Nat} (hd : 2 ≤ d) {l0 : Nat} {l1 : Nat} {l2 : Int} {z3 : Option hO} {z4 : Option hO} {z5 : Option hO} {z6 : Option hO} {h : hS} {w : mmW} {o : (Int × hS) ⊕ (hS)} {Q : mmO → Prop} (rl2 : rg l2) (A : Abs h w) (e : c90_b2 l0 l1 l2 h = some o) (kb : ∀ (s_0 : Int) (s_1 : hS), o = .inl (s_0, s_1) → ∀ w', ∀ (y3 y4 y5 y6 : Option hO), rg s_0 → Abs s_1 w' → hG d 90 2 [some (vr l0), some (vr l1), some (vi s_0), y3, y4, y5, y6] [] w' Q) (ke : ∀ (x_0 : hS), o = .inr (x_0) → ∀ w', ∀ (y2 y3 y4 y5 y6 : Option hO), Abs x_0 w' → hG d 90 91 [some (vr l0), some (vr l1), y2, y3, y4, y5, y6] [] w' Q) : hG d 90 2 [some (vr l0), some (vr l1), some (vi l2), z3, z4, z5, z6] [] w Q := by
  unfold c90_b2 at e
  refine hg_run 2 (pc' := 4) (ls' := [some (vr l0), some (vr l1), some (vi l2), z3, z4, z5, z6]) (st' := [vR l0, vI l2]) rfl ?_
  obtain ⟨v1, e1, e⟩ := ob e
  refine gd_8_1 rfl A e1 (fun r1 => ?_)
  rcases oi e with ⟨q2, e⟩ | ⟨q2, e⟩
  · refine hg_icT (tgt := 91) rfl (by decide) rl2 r1 q2 ?_
    cases e
    exact ke h rfl _ _ _ _ _ _  A
  · refine hg_icF (tgt := 91) rfl (by decide) rl2 r1 q2 ?_
    refine hg_run 1 (pc' := 11) (ls' := [some (vr l0), some (vr l1), some (vi l2), z3, z4, z5, z6]) (st' := [vR l0]) rfl ?_
    obtain ⟨v3, e3, e⟩ := ob e
    refine gd_8_0 rfl A e3 ?_
    refine hg_run 1 (pc' := 15) (ls' := [some (vr l0), some (vr l1), some (vi l2), z3, z4, z5, z6]) (st' := [vI l2, vR v3]) rfl ?_
    obtain ⟨v4, e4, e⟩ := ob e
    refine hg_aRd 8 rfl (fun _ _ _ _ => rfl) A rfl (by decide) e4 ?_
    refine hg_run 3 (pc' := 19) (ls' := [some (vr l0), some (vr l1), some (vi l2), some (vr v4), z4, z5, z6]) (st' := [vR v4, vR l1]) rfl ?_
    obtain ⟨v5, e5, e⟩ := ob e
    refine gd_11_0 rfl A e5 (fun r5 => ?_)
    obtain ⟨u7, e7, e⟩ := ob e
    obtain ⟨v6, e6, e⟩ := ob e
    refine hg_cRp (as := [vR l1, vI v5]) (st' := []) rfl (fun _ _ _ _ => rfl) rfl rfl (Nat.le_of_ble_eq_true rfl) (Nat.le_of_ble_eq_true rfl) (recvV A (a := 8) (kT_e e7)) (t47 (by omega) A r5 e6) ?_
    refine hg_run 3 (pc' := 30) (ls' := [some (vr l0), some (vr l1), some (vi l2), some (vr v4), some (vr v6), some (vi 0), z6]) (st' := []) rfl ?_
    obtain ⟨r20, e20, e⟩ := ob e
    refine t90_l30 hd  _ (rgn 0 rfl) A e20 ?_
    intro x20_0 qq20 w20 z20_5 z20_6 A20
    subst qq20
    refine hg_run 2 (pc' := 2) (ls' := [some (vr l0), some (vr l1), some (vi (wadd l2 1)), some (vr v4), some (vr v6), z20_5, z20_6]) (st' := []) rfl ?_
    cases e
    exact kb (wadd l2 1) r20 rfl _ _ _ _ _ (rg_add _ _) A20
theorem t90_l2 {d : Nat} (hd : 2 ≤ d) {l0 : Nat} {l1 : Nat}  {Q : mmO → Prop}  (n : Nat) {l2 : Int} {z3 z4 z5 z6 : Option hO} {h : hS} {w : mmW} {r : hS} (rl2 : rg l2) (A : Abs h w) (e : lp (fun s => c90_b2 l0 l1 s.1 s.2) n (l2, h) = some r) (ke : ∀ (x_0 : hS), r = (x_0) → ∀ w', ∀ (y2 y3 y4 y5 y6 : Option hO), Abs x_0 w' → hG d 90 91 [some (vr l0), some (vr l1), y2, y3, y4, y5, y6] [] w' Q) : hG d 90 2 [some (vr l0), some (vr l1), some (vi l2), z3, z4, z5, z6] [] w Q := by
  induction n generalizing l2 z3 z4 z5 z6 h w with
  | zero => cases e
  | succ n ih =>
    rcases lp_succ e with ⟨s1, e1, e2⟩ | e1
    · exact t90_b2 hd rl2 A e1 (fun s_0 s_1 q w1 y3 y4 y5 y6 rl2 A1 => by cases q; exact ih rl2 A1 e2) (fun x_0 q => by cases q)
    · exact t90_b2 hd rl2 A e1 (fun s_0 s_1 q => by cases q) (fun x_0 q => by cases q; exact ke _ rfl)
def c90 (l0 : Nat) (l1 : Nat) (h : hS) : Option (hS) :=
  (lp (fun s => c90_b2 l0 l1 s.1 s.2) hF0 (0, h)).bind (fun r21 =>
  some r21)
theorem t90 {d : Nat} (hd : 3 ≤ d) {l0 : Nat} {l1 : Nat} {h : hS} {w : mmW} {o : hS} (A : Abs h w)  (e : c90 l0 l1 h = some o) : hEv d 90 [vR l0, vR l1] w (qV o) := by
  obtain ⟨d, rfl⟩ : ∃ d1, d = d1 + 1 := ⟨d - 1, by omega⟩
  have hd : 2 ≤ d := by omega
  refine hEv_start (args := [vr l0, vr l1]) (nl := 7) rfl (Nat.le_of_ble_eq_true rfl) ?_
  show hG d 90 0 [some (vr l0), some (vr l1), none, none, none, none, none] [] w _
  have kr : ∀ h1 : hS, o = h1 → ∀ w', Abs h1 w' → qV o (none, w') := fun h1 q w' A' => by cases q; exact ⟨rfl, A'⟩
  unfold c90 at e
  refine hg_run 2 (pc' := 2) (ls' := [some (vr l0), some (vr l1), some (vi 0), none, none, none, none]) (st' := []) rfl ?_
  obtain ⟨r21, e21, e⟩ := ob e
  refine t90_l2 hd  _ (rgn 0 rfl) A e21 ?_
  intro x21_0 qq21 w21 z21_2 z21_3 z21_4 z21_5 z21_6 A21
  subst qq21
  cases e
  exact hg_retV rfl (kr _ rfl _ A21)
def c88_j41 (l4 : Nat) (h : hS) : Option ((Nat × hS) ⊕ (hS)) :=
  (gR h l4 24 1).bind (fun v8 =>
  some (.inl (v8, h)))
theorem t88_j41 {d : Nat} (hd : 3 ≤ d) {l4 : Nat} {l0 : Nat} {l1 : Nat} {l2 : Int} {l3 : Int} {h : hS} {w : mmW} {o : (Nat × hS) ⊕ (hS)} {Q : mmO → Prop}  (A : Abs h w) (e : c88_j41 l4 h = some o) (kb : ∀ (s_0 : Nat) (s_1 : hS), o = .inl (s_0, s_1) → ∀ w', Abs s_1 w' → hG d 88 18 [some (vr l0), some (vr l1), some (vi l2), some (vi l3), some (vr s_0)] [] w' Q) (ke : ∀ (x_0 : hS), o = .inr (x_0) → ∀ w', ∀ (y4 : Option hO), Abs x_0 w' → hG d 88 51 [some (vr l0), some (vr l1), some (vi l2), some (vi l3), y4] [] w' Q) : hG d 88 41 [some (vr l0), some (vr l1), some (vi l2), some (vi l3), some (vr l4)] [] w Q := by
  unfold c88_j41 at e
  refine hg_run 1 (pc' := 43) (ls' := [some (vr l0), some (vr l1), some (vi l2), some (vi l3), some (vr l4)]) (st' := [vR l4]) rfl ?_
  obtain ⟨v8, e8, e⟩ := ob e
  refine gd_11_1 rfl A e8 ?_
  refine hg_run 2 (pc' := 18) (ls' := [some (vr l0), some (vr l1), some (vi l2), some (vi l3), some (vr v8)]) (st' := []) rfl ?_
  cases e
  exact kb v8 h rfl _  A
def c88_b18 (l0 : Nat) (l2 : Int) (l3 : Int) (l4 : Nat) (h : hS) : Option ((Nat × hS) ⊕ (hS)) :=
  (hnul l4).bind (fun b5 =>
  if b5 = true then
  some (.inr (h))
  else
  (gI h l4 24 3).bind (fun v6 =>
  if v6 = 0 then
  c88_j41 l4 h
  else
  (gR h l0 18 0).bind (fun v9 =>
  (aR h v9 17 l3).bind (fun v10 =>
  (pI h v10 24 2 l2).bind (fun h11 =>
  c88_j41 l4 h11)))))
theorem t88_b18 {d : Nat} (hd : 3 ≤ d) {l0 : Nat} {l2 : Int} {l3 : Int} {l4 : Nat} {l1 : Nat} {h : hS} {w : mmW} {o : (Nat × hS) ⊕ (hS)} {Q : mmO → Prop} (rl2 : rg l2) (rl3 : rg l3) (A : Abs h w) (e : c88_b18 l0 l2 l3 l4 h = some o) (kb : ∀ (s_0 : Nat) (s_1 : hS), o = .inl (s_0, s_1) → ∀ w', Abs s_1 w' → hG d 88 18 [some (vr l0), some (vr l1), some (vi l2), some (vi l3), some (vr s_0)] [] w' Q) (ke : ∀ (x_0 : hS), o = .inr (x_0) → ∀ w', ∀ (y4 : Option hO), Abs x_0 w' → hG d 88 51 [some (vr l0), some (vr l1), some (vi l2), some (vi l3), y4] [] w' Q) : hG d 88 18 [some (vr l0), some (vr l1), some (vi l2), some (vi l3), some (vr l4)] [] w Q := by
  unfold c88_b18 at e
  refine hg_run 1 (pc' := 20) (ls' := [some (vr l0), some (vr l1), some (vi l2), some (vi l3), some (vr l4)]) (st' := [vR l4]) rfl ?_
  obtain ⟨b5, e5, e⟩ := ob e
  rcases oi e with ⟨q5, e⟩ | ⟨q5, e⟩
  · refine hg_nul (yes := true) (tgt := 51) (t2 := 51) rfl (fun _ _ _ _ => rfl) (by decide) (ebT e5 q5) rfl ?_
    cases e
    exact ke h rfl _ _  A
  · refine hg_nul (yes := true) (tgt := 51) (t2 := 23) rfl (fun _ _ _ _ => rfl) (by decide) (ebF e5 q5) rfl ?_
    refine hg_run 1 (pc' := 25) (ls' := [some (vr l0), some (vr l1), some (vi l2), some (vi l3), some (vr l4)]) (st' := [vR l4]) rfl ?_
    obtain ⟨v6, e6, e⟩ := ob e
    refine gd_11_3 rfl A e6 (fun r6 => ?_)
    rcases oi e with ⟨q7, e⟩ | ⟨q7, e⟩
    · refine hg_ifT (tgt := 41) rfl (by decide) r6 q7 ?_
      exact t88_j41 hd  A e kb ke
    · refine hg_ifF (tgt := 41) rfl (by decide) r6 q7 ?_
      refine hg_run 1 (pc' := 32) (ls' := [some (vr l0), some (vr l1), some (vi l2), some (vi l3), some (vr l4)]) (st' := [vR l0]) rfl ?_
      obtain ⟨v9, e9, e⟩ := ob e
      refine gd_8_0 rfl A e9 ?_
      refine hg_run 1 (pc' := 36) (ls' := [some (vr l0), some (vr l1), some (vi l2), some (vi l3), some (vr l4)]) (st' := [vI l3, vR v9]) rfl ?_
      obtain ⟨v10, e10, e⟩ := ob e
      refine hg_aRd 8 rfl (fun _ _ _ _ => rfl) A rfl (by decide) e10 ?_
      refine hg_run 1 (pc' := 38) (ls' := [some (vr l0), some (vr l1), some (vi l2), some (vi l3), some (vr l4)]) (st' := [vI l2, vR v10]) rfl ?_
      obtain ⟨h11, e11, e⟩ := ob e
      refine pd_11_2 rfl A rl2 e11 (fun w11 A11 => ?_)
      exact t88_j41 hd  A11 e kb ke
theorem t88_l18 {d : Nat} (hd : 3 ≤ d) {l0 : Nat} {l2 : Int} {l3 : Int} {l1 : Nat} {Q : mmO → Prop} (rl2 : rg l2) (rl3 : rg l3) (n : Nat) {l4 : Nat}  {h : hS} {w : mmW} {r : hS}  (A : Abs h w) (e : lp (fun s => c88_b18 l0 l2 l3 s.1 s.2) n (l4, h) = some r) (ke : ∀ (x_0 : hS), r = (x_0) → ∀ w', ∀ (y4 : Option hO), Abs x_0 w' → hG d 88 51 [some (vr l0), some (vr l1), some (vi l2), some (vi l3), y4] [] w' Q) : hG d 88 18 [some (vr l0), some (vr l1), some (vi l2), some (vi l3), some (vr l4)] [] w Q := by
  induction n generalizing l4 h w with
  | zero => cases e
  | succ n ih =>
    rcases lp_succ e with ⟨s1, e1, e2⟩ | e1
    · exact t88_b18 hd rl2 rl3 A e1 (fun s_0 s_1 q w1 A1 => by cases q; exact ih  A1 e2) (fun x_0 q => by cases q)
    · exact t88_b18 hd rl2 rl3 A e1 (fun s_0 s_1 q => by cases q) (fun x_0 q => by cases q; exact ke _ rfl)
def c88_b2 (l0 : Nat) (l2 : Int) (l3 : Int) (h : hS) : Option ((Int × hS) ⊕ (hS)) :=
  (gI h l0 18 1).bind (fun v1 =>
  if v1 ≤ l3 then
  some (.inr (h))
  else
  (gR h l0 18 0).bind (fun v3 =>
  (aR h v3 17 l3).bind (fun v4 =>
  (lp (fun s => c88_b18 l0 l2 l3 s.1 s.2) hF0 (v4, h)).bind (fun r12 =>
  (gR r12 l0 18 0).bind (fun v13 =>
  (aR r12 v13 17 l3).bind (fun v14 =>
  (kT r12 v14 24).bind (fun u16 =>
  (c89 v14 r12).bind (fun h15 =>
  some (.inl ((wadd l3 1), h15))))))))))
theorem t88_b2 {d : Nat} (hd : 3 ≤ d) {l0 : Nat} {l2 : Int} {l3 : Int} {l1 : Nat} {z4 : Option hO} {h : hS} {w : mmW} {o : (Int × hS) ⊕ (hS)} {Q : mmO → Prop} (rl2 : rg l2) (rl3 : rg l3) (A : Abs h w) (e : c88_b2 l0 l2 l3 h = some o) (kb : ∀ (s_0 : Int) (s_1 : hS), o = .inl (s_0, s_1) → ∀ w', ∀ (y4 : Option hO), rg s_0 → Abs s_1 w' → hG d 88 2 [some (vr l0), some (vr l1), some (vi l2), some (vi s_0), y4] [] w' Q) (ke : ∀ (x_0 : hS), o = .inr (x_0) → ∀ w', ∀ (y3 y4 : Option hO), Abs x_0 w' → hG d 88 66 [some (vr l0), some (vr l1), some (vi l2), y3, y4] [] w' Q) : hG d 88 2 [some (vr l0), some (vr l1), some (vi l2), some (vi l3), z4] [] w Q := by
  unfold c88_b2 at e
  refine hg_run 2 (pc' := 4) (ls' := [some (vr l0), some (vr l1), some (vi l2), some (vi l3), z4]) (st' := [vR l0, vI l3]) rfl ?_
  obtain ⟨v1, e1, e⟩ := ob e
  refine gd_8_1 rfl A e1 (fun r1 => ?_)
  rcases oi e with ⟨q2, e⟩ | ⟨q2, e⟩
  · refine hg_icT (tgt := 66) rfl (by decide) rl3 r1 q2 ?_
    cases e
    exact ke h rfl _ _ _  A
  · refine hg_icF (tgt := 66) rfl (by decide) rl3 r1 q2 ?_
    refine hg_run 1 (pc' := 11) (ls' := [some (vr l0), some (vr l1), some (vi l2), some (vi l3), z4]) (st' := [vR l0]) rfl ?_
    obtain ⟨v3, e3, e⟩ := ob e
    refine gd_8_0 rfl A e3 ?_
    refine hg_run 1 (pc' := 15) (ls' := [some (vr l0), some (vr l1), some (vi l2), some (vi l3), z4]) (st' := [vI l3, vR v3]) rfl ?_
    obtain ⟨v4, e4, e⟩ := ob e
    refine hg_aRd 8 rfl (fun _ _ _ _ => rfl) A rfl (by decide) e4 ?_
    refine hg_run 1 (pc' := 18) (ls' := [some (vr l0), some (vr l1), some (vi l2), some (vi l3), some (vr v4)]) (st' := []) rfl ?_
    obtain ⟨r12, e12, e⟩ := ob e
    refine t88_l18 hd rl2 rl3 _  A e12 ?_
    intro x12_0 qq12 w12 z12_4 A12
    subst qq12
    refine hg_run 1 (pc' := 52) (ls' := [some (vr l0), some (vr l1), some (vi l2), some (vi l3), z12_4]) (st' := [vR l0]) rfl ?_
    obtain ⟨v13, e13, e⟩ := ob e
    refine gd_8_0 rfl A12 e13 ?_
    refine hg_run 1 (pc' := 56) (ls' := [some (vr l0), some (vr l1), some (vi l2), some (vi l3), z12_4]) (st' := [vI l3, vR v13]) rfl ?_
    obtain ⟨v14, e14, e⟩ := ob e
    refine hg_aRd 8 rfl (fun _ _ _ _ => rfl) A12 rfl (by decide) e14 ?_
    obtain ⟨u16, e16, e⟩ := ob e
    obtain ⟨h15, e15, e⟩ := ob e
    refine hg_cV (as := [vR v14]) (st' := []) rfl (fun _ _ _ _ => rfl) rfl rfl (Nat.le_of_ble_eq_true rfl) (Nat.le_of_ble_eq_true rfl) (recvV A12 (a := 11) (kT_e e16)) (t89 (by omega) A12  e15) (fun w15 A15 => ?_)
    refine hg_run 2 (pc' := 2) (ls' := [some (vr l0), some (vr l1), some (vi l2), some (vi (wadd l3 1)), z12_4]) (st' := []) rfl ?_
    cases e
    exact kb (wadd l3 1) h15 rfl _ _ (rg_add _ _) A15
theorem t88_l2 {d : Nat} (hd : 3 ≤ d) {l0 : Nat} {l2 : Int} {l1 : Nat} {Q : mmO → Prop} (rl2 : rg l2) (n : Nat) {l3 : Int} {z4 : Option hO} {h : hS} {w : mmW} {r : hS} (rl3 : rg l3) (A : Abs h w) (e : lp (fun s => c88_b2 l0 l2 s.1 s.2) n (l3, h) = some r) (ke : ∀ (x_0 : hS), r = (x_0) → ∀ w', ∀ (y3 y4 : Option hO), Abs x_0 w' → hG d 88 66 [some (vr l0), some (vr l1), some (vi l2), y3, y4] [] w' Q) : hG d 88 2 [some (vr l0), some (vr l1), some (vi l2), some (vi l3), z4] [] w Q := by
  induction n generalizing l3 z4 h w with
  | zero => cases e
  | succ n ih =>
    rcases lp_succ e with ⟨s1, e1, e2⟩ | e1
    · exact t88_b2 hd rl2 rl3 A e1 (fun s_0 s_1 q w1 y4 rl3 A1 => by cases q; exact ih rl3 A1 e2) (fun x_0 q => by cases q)
    · exact t88_b2 hd rl2 rl3 A e1 (fun s_0 s_1 q => by cases q) (fun x_0 q => by cases q; exact ke _ rfl)
def c88 (l0 : Nat) (l1 : Nat) (l2 : Int) (h : hS) : Option (hS) :=
  (lp (fun s => c88_b2 l0 l2 s.1 s.2) hF0 (0, h)).bind (fun r17 =>
  (hnul l1).bind (fun b18 =>
  if b18 = true then
  some r17
  else
  (kT r17 l0 18).bind (fun u20 =>
  (c90 l0 l1 r17).bind (fun h19 =>
  some h19))))
theorem t88 {d : Nat} (hd : 4 ≤ d) {l0 : Nat} {l1 : Nat} {l2 : Int} {h : hS} {w : mmW} {o : hS} (A : Abs h w) (rl2 : rg l2) (e : c88 l0 l1 l2 h = some o) : hEv d 88 [vR l0, vR l1, vI l2] w (qV o) := by
  obtain ⟨d, rfl⟩ : ∃ d1, d = d1 + 1 := ⟨d - 1, by omega⟩
  have hd : 3 ≤ d := by omega
  refine hEv_start (args := [vr l0, vr l1, vi l2]) (nl := 5) rfl (Nat.le_of_ble_eq_true rfl) ?_
  show hG d 88 0 [some (vr l0), some (vr l1), some (vi l2), none, none] [] w _
  have kr : ∀ h1 : hS, o = h1 → ∀ w', Abs h1 w' → qV o (none, w') := fun h1 q w' A' => by cases q; exact ⟨rfl, A'⟩
  unfold c88 at e
  refine hg_run 2 (pc' := 2) (ls' := [some (vr l0), some (vr l1), some (vi l2), some (vi 0), none]) (st' := []) rfl ?_
  obtain ⟨r17, e17, e⟩ := ob e
  refine t88_l2 hd rl2 _ (rgn 0 rfl) A e17 ?_
  intro x17_0 qq17 w17 z17_3 z17_4 A17
  subst qq17
  refine hg_run 1 (pc' := 67) (ls' := [some (vr l0), some (vr l1), some (vi l2), z17_3, z17_4]) (st' := [vR l1]) rfl ?_
  obtain ⟨b18, e18, e⟩ := ob e
  rcases oi e with ⟨q18, e⟩ | ⟨q18, e⟩
  · refine hg_nul (yes := true) (tgt := 75) (t2 := 75) rfl (fun _ _ _ _ => rfl) (by decide) (ebT e18 q18) rfl ?_
    cases e
    exact hg_retV rfl (kr _ rfl _ A17)
  · refine hg_nul (yes := true) (tgt := 75) (t2 := 70) rfl (fun _ _ _ _ => rfl) (by decide) (ebF e18 q18) rfl ?_
    refine hg_run 2 (pc' := 72) (ls' := [some (vr l0), some (vr l1), some (vi l2), z17_3, z17_4]) (st' := [vR l1, vR l0]) rfl ?_
    obtain ⟨u20, e20, e⟩ := ob e
    obtain ⟨h19, e19, e⟩ := ob e
    refine hg_cV (as := [vR l0, vR l1]) (st' := []) rfl (fun _ _ _ _ => rfl) rfl rfl (Nat.le_of_ble_eq_true rfl) (Nat.le_of_ble_eq_true rfl) (recvV A17 (a := 8) (kT_e e20)) (t90 (by omega) A17  e19) (fun w19 A19 => ?_)
    cases e
    exact hg_retV rfl (kr _ rfl _ A19)
def c91 (h : hS) : Option (hS) :=
  (some (sI h 48 4 0)).bind (fun h1 =>
  (some (sR h1 48 5 0)).bind (fun h2 =>
  (some (sR h2 48 7 0)).bind (fun h3 =>
  (some (sR h3 48 8 0)).bind (fun h4 =>
  (some (sI h4 48 9 0)).bind (fun h5 =>
  some h5)))))
theorem t91 {d : Nat} (hd : 1 ≤ d)  {h : hS} {w : mmW} {o : hS} (A : Abs h w)  (e : c91 h = some o) : hEv d 91 [vR 48] w (qV o) := by
  obtain ⟨d, rfl⟩ : ∃ d1, d = d1 + 1 := ⟨d - 1, by omega⟩
  have hd : 0 ≤ d := by omega
  refine hEv_start (args := [vr 48]) (nl := 1) rfl (Nat.le_of_ble_eq_true rfl) ?_
  show hG d 91 0 [some (vr 48)] [] w _
  have kr : ∀ h1 : hS, o = h1 → ∀ w', Abs h1 w' → qV o (none, w') := fun h1 q w' A' => by cases q; exact ⟨rfl, A'⟩
  unfold c91 at e
  refine hg_run 2 (pc' := 2) (ls' := [some (vr 48)]) (st' := [vI 0, vR 48]) rfl ?_
  obtain ⟨h1, e1, e⟩ := ob e
  refine ps_48_4 rfl A (rgn 0 rfl) e1 (fun w1 A1 => ?_)
  refine hg_run 2 (pc' := 7) (ls' := [some (vr 48)]) (st' := [vR 0, vR 48]) rfl ?_
  obtain ⟨h2, e2, e⟩ := ob e
  refine ps_48_5 rfl A1 e2 (fun w2 A2 => ?_)
  refine hg_run 2 (pc' := 12) (ls' := [some (vr 48)]) (st' := [vR 0, vR 48]) rfl ?_
  obtain ⟨h3, e3, e⟩ := ob e
  refine ps_48_7 rfl A2 e3 (fun w3 A3 => ?_)
  refine hg_run 2 (pc' := 17) (ls' := [some (vr 48)]) (st' := [vR 0, vR 48]) rfl ?_
  obtain ⟨h4, e4, e⟩ := ob e
  refine ps_48_8 rfl A3 e4 (fun w4 A4 => ?_)
  refine hg_run 2 (pc' := 22) (ls' := [some (vr 48)]) (st' := [vI 0, vR 48]) rfl ?_
  obtain ⟨h5, e5, e⟩ := ob e
  refine ps_48_9 rfl A4 (rgn 0 rfl) e5 (fun w5 A5 => ?_)
  cases e
  exact hg_retV rfl (kr _ rfl _ A5)
def c41_b34 (l2 : Int) (h : hS) : Option ((Int × hS) ⊕ (hS)) :=
  if 40 ≤ l2 then
  some (.inr (h))
  else
  (aRs h 19 40 l2).bind (fun v10 =>
  (pI h v10 16 1 0).bind (fun h11 =>
  some (.inl ((wadd l2 1), h11))))
theorem t41_b34 {d : Nat} (hd : 247 ≤ d) {l2 : Int} {z1 : Option hO} {h : hS} {w : mmW} {o : (Int × hS) ⊕ (hS)} {Q : mmO → Prop} (rl2 : rg l2) (A : Abs h w) (e : c41_b34 l2 h = some o) (kb : ∀ (s_0 : Int) (s_1 : hS), o = .inl (s_0, s_1) → ∀ w', rg s_0 → Abs s_1 w' → hG d 41 34 [some (vr 8), z1, some (vi s_0)] [] w' Q) (ke : ∀ (x_0 : hS), o = .inr (x_0) → ∀ w', ∀ (y2 : Option hO), Abs x_0 w' → hG d 41 56 [some (vr 8), z1, y2] [] w' Q) : hG d 41 34 [some (vr 8), z1, some (vi l2)] [] w Q := by
  unfold c41_b34 at e
  refine hg_run 2 (pc' := 37) (ls' := [some (vr 8), z1, some (vi l2)]) (st' := [vI 40, vI l2]) rfl ?_
  rcases oi e with ⟨q9, e⟩ | ⟨q9, e⟩
  · refine hg_icT (tgt := 56) rfl (by decide) rl2 (rgn 40 rfl) q9 ?_
    cases e
    exact ke h rfl _ _  A
  · refine hg_icF (tgt := 56) rfl (by decide) rl2 (rgn 40 rfl) q9 ?_
    refine hg_run 1 (pc' := 41) (ls' := [some (vr 8), z1, some (vi l2)]) (st' := [vR 8]) rfl ?_
    refine gs_8_2 rfl A ?_
    refine hg_run 1 (pc' := 45) (ls' := [some (vr 8), z1, some (vi l2)]) (st' := [vI l2, vR 19]) rfl ?_
    obtain ⟨v10, e10, e⟩ := ob e
    refine hg_aRs 4 rfl (fun _ _ _ _ => rfl) A (Abs_ks A (i := 10) rfl) rfl (by decide) e10 ?_
    refine hg_run 1 (pc' := 47) (ls' := [some (vr 8), z1, some (vi l2)]) (st' := [vI 0, vR v10]) rfl ?_
    obtain ⟨h11, e11, e⟩ := ob e
    refine pd_7_1 rfl A (rgn 0 rfl) (.inl rfl) e11 (fun w11 A11 => ?_)
    refine hg_run 2 (pc' := 34) (ls' := [some (vr 8), z1, some (vi (wadd l2 1))]) (st' := []) rfl ?_
    cases e
    exact kb (wadd l2 1) h11 rfl _ (rg_add _ _) A11
theorem t41_l34 {d : Nat} (hd : 247 ≤ d)  {z1 : Option hO} {Q : mmO → Prop}  (n : Nat) {l2 : Int}  {h : hS} {w : mmW} {r : hS} (rl2 : rg l2) (A : Abs h w) (e : lp (fun s => c41_b34  s.1 s.2) n (l2, h) = some r) (ke : ∀ (x_0 : hS), r = (x_0) → ∀ w', ∀ (y2 : Option hO), Abs x_0 w' → hG d 41 56 [some (vr 8), z1, y2] [] w' Q) : hG d 41 34 [some (vr 8), z1, some (vi l2)] [] w Q := by
  induction n generalizing l2 h w with
  | zero => cases e
  | succ n ih =>
    rcases lp_succ e with ⟨s1, e1, e2⟩ | e1
    · exact t41_b34 hd rl2 A e1 (fun s_0 s_1 q w1 rl2 A1 => by cases q; exact ih rl2 A1 e2) (fun x_0 q => by cases q)
    · exact t41_b34 hd rl2 A e1 (fun s_0 s_1 q => by cases q) (fun x_0 q => by cases q; exact ke _ rfl)
def c41_b58 (l2 : Int) (h : hS) : Option ((Int × hS) ⊕ (hS)) :=
  if 10 ≤ l2 then
  some (.inr (h))
  else
  (aRs h 21 10 l2).bind (fun v14 =>
  (pI h v14 20 1 0).bind (fun h15 =>
  (aRs h15 21 10 l2).bind (fun v16 =>
  (pI h15 v16 20 2 0).bind (fun h17 =>
  some (.inl ((wadd l2 1), h17))))))
theorem t41_b58 {d : Nat} (hd : 247 ≤ d) {l2 : Int} {z1 : Option hO} {h : hS} {w : mmW} {o : (Int × hS) ⊕ (hS)} {Q : mmO → Prop} (rl2 : rg l2) (A : Abs h w) (e : c41_b58 l2 h = some o) (kb : ∀ (s_0 : Int) (s_1 : hS), o = .inl (s_0, s_1) → ∀ w', rg s_0 → Abs s_1 w' → hG d 41 58 [some (vr 8), z1, some (vi s_0)] [] w' Q) (ke : ∀ (x_0 : hS), o = .inr (x_0) → ∀ w', ∀ (y2 : Option hO), Abs x_0 w' → hG d 41 90 [some (vr 8), z1, y2] [] w' Q) : hG d 41 58 [some (vr 8), z1, some (vi l2)] [] w Q := by
  unfold c41_b58 at e
  refine hg_run 2 (pc' := 61) (ls' := [some (vr 8), z1, some (vi l2)]) (st' := [vI 10, vI l2]) rfl ?_
  rcases oi e with ⟨q13, e⟩ | ⟨q13, e⟩
  · refine hg_icT (tgt := 90) rfl (by decide) rl2 (rgn 10 rfl) q13 ?_
    cases e
    exact ke h rfl _ _  A
  · refine hg_icF (tgt := 90) rfl (by decide) rl2 (rgn 10 rfl) q13 ?_
    refine hg_run 1 (pc' := 65) (ls' := [some (vr 8), z1, some (vi l2)]) (st' := [vR 8]) rfl ?_
    refine gs_8_4 rfl A ?_
    refine hg_run 1 (pc' := 69) (ls' := [some (vr 8), z1, some (vi l2)]) (st' := [vI l2, vR 21]) rfl ?_
    obtain ⟨v14, e14, e⟩ := ob e
    refine hg_aRs 5 rfl (fun _ _ _ _ => rfl) A (Abs_ks A (i := 12) rfl) rfl (by decide) e14 ?_
    refine hg_run 1 (pc' := 71) (ls' := [some (vr 8), z1, some (vi l2)]) (st' := [vI 0, vR v14]) rfl ?_
    obtain ⟨h15, e15, e⟩ := ob e
    refine pd_9_1 rfl A (rgn 0 rfl) (.inl rfl) e15 (fun w15 A15 => ?_)
    refine hg_run 1 (pc' := 75) (ls' := [some (vr 8), z1, some (vi l2)]) (st' := [vR 8]) rfl ?_
    refine gs_8_4 rfl A15 ?_
    refine hg_run 1 (pc' := 79) (ls' := [some (vr 8), z1, some (vi l2)]) (st' := [vI l2, vR 21]) rfl ?_
    obtain ⟨v16, e16, e⟩ := ob e
    refine hg_aRs 5 rfl (fun _ _ _ _ => rfl) A15 (Abs_ks A15 (i := 12) rfl) rfl (by decide) e16 ?_
    refine hg_run 1 (pc' := 81) (ls' := [some (vr 8), z1, some (vi l2)]) (st' := [vI 0, vR v16]) rfl ?_
    obtain ⟨h17, e17, e⟩ := ob e
    refine pd_9_2 rfl A15 (rgn 0 rfl) (.inl rfl) e17 (fun w17 A17 => ?_)
    refine hg_run 2 (pc' := 58) (ls' := [some (vr 8), z1, some (vi (wadd l2 1))]) (st' := []) rfl ?_
    cases e
    exact kb (wadd l2 1) h17 rfl _ (rg_add _ _) A17
theorem t41_l58 {d : Nat} (hd : 247 ≤ d)  {z1 : Option hO} {Q : mmO → Prop}  (n : Nat) {l2 : Int}  {h : hS} {w : mmW} {r : hS} (rl2 : rg l2) (A : Abs h w) (e : lp (fun s => c41_b58  s.1 s.2) n (l2, h) = some r) (ke : ∀ (x_0 : hS), r = (x_0) → ∀ w', ∀ (y2 : Option hO), Abs x_0 w' → hG d 41 90 [some (vr 8), z1, y2] [] w' Q) : hG d 41 58 [some (vr 8), z1, some (vi l2)] [] w Q := by
  induction n generalizing l2 h w with
  | zero => cases e
  | succ n ih =>
    rcases lp_succ e with ⟨s1, e1, e2⟩ | e1
    · exact t41_b58 hd rl2 A e1 (fun s_0 s_1 q w1 rl2 A1 => by cases q; exact ih rl2 A1 e2) (fun x_0 q => by cases q)
    · exact t41_b58 hd rl2 A e1 (fun s_0 s_1 q => by cases q) (fun x_0 q => by cases q; exact ke _ rfl)
def c41 (h : hS) : Option (Int × hS) :=
  (some (mkH h 18 2)).bind (fun h1 =>
  (k8 (hN h)).bind (fun u3 =>
  (c18 (hN h) h1).bind (fun h2 =>
  (c42 (hN h) h2).bind (fun v4 =>
  if v4.1 = 0 then
  some ((-1), v4.2)
  else
  (kT v4.2 (hN h) 18).bind (fun u7 =>
  (c88 (hN h) 0 0 v4.2).bind (fun h6 =>
  (some (sR h6 8 7 (hN h))).bind (fun h8 =>
  (lp (fun s => c41_b34  s.1 s.2) hF0 (0, h8)).bind (fun r12 =>
  (lp (fun s => c41_b58  s.1 s.2) hF0 (0, r12)).bind (fun r18 =>
  (some (sI r18 8 8 0)).bind (fun h19 =>
  (some (sI h19 8 10 (-1))).bind (fun h20 =>
  (c91  h20).bind (fun h21 =>
  (gI h21 (hR h21 8 7) 18 1).bind (fun v22 =>
  some (v22, h21))))))))))))))
theorem t41 {d : Nat} (hd : 248 ≤ d)  {h : hS} {w : mmW} {o : Int × hS} (A : Abs h w)  (e : c41 h = some o) : hEv d 41 [vR 8] w (qI o) := by
  obtain ⟨d, rfl⟩ : ∃ d1, d = d1 + 1 := ⟨d - 1, by omega⟩
  have hd : 247 ≤ d := by omega
  refine hEv_start (args := [vr 8]) (nl := 3) rfl (Nat.le_of_ble_eq_true rfl) ?_
  show hG d 41 0 [some (vr 8), none, none] [] w _
  have kr : ∀ (v1 : Int) (h1 : hS), o = (v1, h1) → ∀ w', rg v1 → Abs h1 w' → qI o (some (.int (Int32.ofInt v1)), w') := fun v1 h1 q w' r A' => by cases q; exact ⟨rfl, r, A'⟩
  unfold c41 at e
  obtain ⟨h1, e1, e⟩ := ob e
  refine hg_new (a := 8) rfl A (by decide +kernel) (by decide) e1 (fun w1 A1 => ?_)
  refine hg_run 1 (pc' := 4) (ls' := [some (vr 8), none, none]) (st' := [vR (hN h), vR (hN h)]) rfl ?_
  obtain ⟨u3, e3, e⟩ := ob e
  obtain ⟨h2, e2, e⟩ := ob e
  refine hg_cV (as := [vR (hN h)]) (st' := [vR (hN h)]) rfl (fun _ _ _ _ => rfl) rfl rfl (Nat.le_of_ble_eq_true rfl) (Nat.le_of_ble_eq_true rfl) (recv1 (k8_e e3)) (t18 (by omega) A1  e2) (fun w2 A2 => ?_)
  refine hg_run 2 (pc' := 9) (ls' := [some (vr 8), some (vr (hN h)), none]) (st' := [vR 8]) rfl ?_
  refine gs_8_1 rfl A2 ?_
  refine hg_run 1 (pc' := 13) (ls' := [some (vr 8), some (vr (hN h)), none]) (st' := [vR (hN h), vR 15]) rfl ?_
  obtain ⟨v4, e4, e⟩ := ob e
  refine hg_cI (as := [vR 15, vR (hN h)]) (st' := []) rfl (fun _ _ _ _ => rfl) rfl rfl (Nat.le_of_ble_eq_true rfl) (Nat.le_of_ble_eq_true rfl) (recvV A2 (a := 2) (Abs_ks A2 (i := 7) rfl).1) (t42 (by omega) A2  e4) (fun w4 r4 A4 => ?_)
  rcases oi e with ⟨q5, e⟩ | ⟨q5, e⟩
  · refine hg_ifF (tgt := 21) rfl (by decide) r4 (show ¬ ¬ (v4.1 = 0) from fun f => f q5) ?_
    refine hg_run 1 (pc' := 20) (ls' := [some (vr 8), some (vr (hN h)), none]) (st' := [vI (-1)]) rfl ?_
    cases e
    exact hg_retI rfl (by decide) (fit_I _) (kr _ _ rfl _ (rgn (-1) rfl) A4)
  · refine hg_ifT (tgt := 21) rfl (by decide) r4 (show ¬ (v4.1 = 0) from q5) ?_
    refine hg_run 3 (pc' := 24) (ls' := [some (vr 8), some (vr (hN h)), none]) (st' := [vI 0, vR 0, vR (hN h)]) rfl ?_
    obtain ⟨u7, e7, e⟩ := ob e
    obtain ⟨h6, e6, e⟩ := ob e
    refine hg_cV (as := [vR (hN h), vR 0, vI 0]) (st' := []) rfl (fun _ _ _ _ => rfl) rfl rfl (Nat.le_of_ble_eq_true rfl) (Nat.le_of_ble_eq_true rfl) (recvV A4 (a := 8) (kT_e e7)) (t88 (by omega) A4 (rgn 0 rfl) e6) (fun w6 A6 => ?_)
    refine hg_run 2 (pc' := 29) (ls' := [some (vr 8), some (vr (hN h)), none]) (st' := [vR (hN h), vR 8]) rfl ?_
    obtain ⟨h8, e8, e⟩ := ob e
    refine ps_8_7 rfl A6 e8 (fun w8 A8 => ?_)
    refine hg_run 2 (pc' := 34) (ls' := [some (vr 8), some (vr (hN h)), some (vi 0)]) (st' := []) rfl ?_
    obtain ⟨r12, e12, e⟩ := ob e
    refine t41_l34 hd  _ (rgn 0 rfl) A8 e12 ?_
    intro x12_0 qq12 w12 z12_2 A12
    subst qq12
    refine hg_run 2 (pc' := 58) (ls' := [some (vr 8), some (vr (hN h)), some (vi 0)]) (st' := []) rfl ?_
    obtain ⟨r18, e18, e⟩ := ob e
    refine t41_l58 hd  _ (rgn 0 rfl) A12 e18 ?_
    intro x18_0 qq18 w18 z18_2 A18
    subst qq18
    refine hg_run 2 (pc' := 92) (ls' := [some (vr 8), some (vr (hN h)), z18_2]) (st' := [vI 0, vR 8]) rfl ?_
    obtain ⟨h19, e19, e⟩ := ob e
    refine ps_8_8 rfl A18 (rgn 0 rfl) e19 (fun w19 A19 => ?_)
    refine hg_run 2 (pc' := 97) (ls' := [some (vr 8), some (vr (hN h)), z18_2]) (st' := [vI (-1), vR 8]) rfl ?_
    obtain ⟨h20, e20, e⟩ := ob e
    refine ps_8_10 rfl A19 (rgn (-1) rfl) e20 (fun w20 A20 => ?_)
    refine hg_run 1 (pc' := 101) (ls' := [some (vr 8), some (vr (hN h)), z18_2]) (st' := [vR 8]) rfl ?_
    refine gs_8_6 rfl A20 ?_
    obtain ⟨h21, e21, e⟩ := ob e
    refine hg_cV (as := [vR 48]) (st' := []) rfl (fun _ _ _ _ => rfl) rfl rfl (Nat.le_of_ble_eq_true rfl) (Nat.le_of_ble_eq_true rfl) (recvV A20 (a := 6) (Abs_ks A20 (i := 18) rfl).1) (t91 (by omega) A20  e21) (fun w21 A21 => ?_)
    refine hg_run 1 (pc' := 108) (ls' := [some (vr 8), some (vr (hN h)), z18_2]) (st' := [vR 8]) rfl ?_
    refine gs_8_7 rfl A21 ?_
    obtain ⟨v22, e22, e⟩ := ob e
    refine gd_8_1 rfl A21 e22 (fun r22 => ?_)
    cases e
    exact hg_retI rfl (by decide) (fit_I _) (kr _ _ rfl _ r22 A21)
def c93 (h : hS) : Option (Int) :=
  if (hI h 48 4) < 6 then
  some 0
  else
  some 1
theorem t93 {d : Nat} (hd : 1 ≤ d)  {h : hS} {w : mmW} {o : Int} (A : Abs h w)  (e : c93 h = some o) : hEv d 93 [vR 48] w (qIp o w) := by
  obtain ⟨d, rfl⟩ : ∃ d1, d = d1 + 1 := ⟨d - 1, by omega⟩
  have hd : 0 ≤ d := by omega
  refine hEv_start (args := [vr 48]) (nl := 1) rfl (Nat.le_of_ble_eq_true rfl) ?_
  show hG d 93 0 [some (vr 48)] [] w _
  have kr : ∀ v1 : Int, o = v1 → rg v1 → qIp o w (some (.int (Int32.ofInt v1)), w) := fun v1 q r => by cases q; exact ⟨rfl, r⟩
  unfold c93 at e
  refine hg_run 1 (pc' := 1) (ls' := [some (vr 48)]) (st' := [vR 48]) rfl ?_
  refine gs_48_4 rfl A ?_
  refine hg_run 1 (pc' := 6) (ls' := [some (vr 48)]) (st' := [vI 6, vI (hI h 48 4)]) rfl ?_
  rcases oi e with ⟨q1, e⟩ | ⟨q1, e⟩
  · refine hg_icT (tgt := 13) rfl (by decide) (Abs_rg A 48 4) (rgn 6 rfl) q1 ?_
    refine hg_run 1 (pc' := 14) (ls' := [some (vr 48)]) (st' := [vI 0]) rfl ?_
    cases e
    exact hg_retI rfl (by decide) (fit_B (.inl rfl)) (kr _ rfl (rgn 0 rfl))
  · refine hg_icF (tgt := 13) rfl (by decide) (Abs_rg A 48 4) (rgn 6 rfl) q1 ?_
    refine hg_run 2 (pc' := 14) (ls' := [some (vr 48)]) (st' := [vI 1]) rfl ?_
    cases e
    exact hg_retI rfl (by decide) (fit_B (.inr rfl)) (kr _ rfl (rgn 1 rfl))
def c94 (h : hS) : Option (hS) :=
  (some (sI h 9 1 0)).bind (fun h1 =>
  (c43  h1).bind (fun h2 =>
  some h2))
theorem t94 {d : Nat} (hd : 2 ≤ d)  {h : hS} {w : mmW} {o : hS} (A : Abs h w)  (e : c94 h = some o) : hEv d 94 [vR 15] w (qV o) := by
  obtain ⟨d, rfl⟩ : ∃ d1, d = d1 + 1 := ⟨d - 1, by omega⟩
  have hd : 1 ≤ d := by omega
  refine hEv_start (args := [vr 15]) (nl := 1) rfl (Nat.le_of_ble_eq_true rfl) ?_
  show hG d 94 0 [some (vr 15)] [] w _
  have kr : ∀ h1 : hS, o = h1 → ∀ w', Abs h1 w' → qV o (none, w') := fun h1 q w' A' => by cases q; exact ⟨rfl, A'⟩
  unfold c94 at e
  refine hg_run 1 (pc' := 1) (ls' := [some (vr 15)]) (st' := [vR 15]) rfl ?_
  refine gs_15_0 rfl A ?_
  refine hg_run 1 (pc' := 5) (ls' := [some (vr 15)]) (st' := [vI 0, vR 9]) rfl ?_
  obtain ⟨h1, e1, e⟩ := ob e
  refine ps_9_1 rfl A (rgn 0 rfl) e1 (fun w1 A1 => ?_)
  refine hg_run 1 (pc' := 9) (ls' := [some (vr 15)]) (st' := [vR 15]) rfl ?_
  obtain ⟨h2, e2, e⟩ := ob e
  refine hg_cV (as := [vR 15]) (st' := []) rfl (fun _ _ _ _ => rfl) rfl rfl (Nat.le_of_ble_eq_true rfl) (Nat.le_of_ble_eq_true rfl) (recvV A1 (a := 2) (Abs_ks A1 (i := 7) rfl).1) (t43 (by omega) A1  e2) (fun w2 A2 => ?_)
  cases e
  exact hg_retV rfl (kr _ rfl _ A2)
def c96 (l0 : Nat) (l1 : Nat) (h : hS) : Option (hS) :=
  (k8 l0).bind (fun u1 =>
  (pI h l0 26 1 0).bind (fun h2 =>
  (pR h2 l0 26 0 l1).bind (fun h3 =>
  some h3)))
theorem t96 {d : Nat} (hd : 1 ≤ d) {l0 : Nat} {l1 : Nat} {h : hS} {w : mmW} {o : hS} (A : Abs h w)  (e : c96 l0 l1 h = some o) : hEv d 96 [vR l0, vR l1] w (qV o) := by
  obtain ⟨d, rfl⟩ : ∃ d1, d = d1 + 1 := ⟨d - 1, by omega⟩
  have hd : 0 ≤ d := by omega
  refine hEv_start (args := [vr l0, vr l1]) (nl := 2) rfl (Nat.le_of_ble_eq_true rfl) ?_
  show hG d 96 0 [some (vr l0), some (vr l1)] [] w _
  have kr : ∀ h1 : hS, o = h1 → ∀ w', Abs h1 w' → qV o (none, w') := fun h1 q w' A' => by cases q; exact ⟨rfl, A'⟩
  unfold c96 at e
  refine hg_run 1 (pc' := 1) (ls' := [some (vr l0), some (vr l1)]) (st' := [vR l0]) rfl ?_
  obtain ⟨u1, e1, e⟩ := ob e
  refine hg_objc rfl (k8_e e1) (Nat.le_of_ble_eq_true rfl) ?_
  refine hg_run 2 (pc' := 6) (ls' := [some (vr l0), some (vr l1)]) (st' := [vI 0, vR l0]) rfl ?_
  obtain ⟨h2, e2, e⟩ := ob e
  refine pd_12_1 rfl A (rgn 0 rfl) e2 (fun w2 A2 => ?_)
  refine hg_run 2 (pc' := 11) (ls' := [some (vr l0), some (vr l1)]) (st' := [vR l1, vR l0]) rfl ?_
  obtain ⟨h3, e3, e⟩ := ob e
  refine pd_12_0 rfl A2 e3 (fun w3 A3 => ?_)
  cases e
  exact hg_retV rfl (kr _ rfl _ A3)
def c95 (l1 : Nat) (h : hS) : Option (Int × hS) :=
  (c93  h).bind (fun v1 =>
  if v1 = 0 then
  (some (mkH h 26 2)).bind (fun h3 =>
  (k8 (hN h)).bind (fun u5 =>
  (c96 (hN h) l1 h3).bind (fun h4 =>
  (wRs h4 50 6 26 (hI h 48 4) (hN h)).bind (fun h6 =>
  (some (sI h6 48 4 (wadd (hI h6 48 4) 1))).bind (fun h7 =>
  some ((wsub (hI h7 48 4) 1), h7))))))
  else
  some ((-1), h))
theorem t95 {d : Nat} (hd : 2 ≤ d) {l1 : Nat} {h : hS} {w : mmW} {o : Int × hS} (A : Abs h w)  (e : c95 l1 h = some o) : hEv d 95 [vR 48, vR l1] w (qI o) := by
  obtain ⟨d, rfl⟩ : ∃ d1, d = d1 + 1 := ⟨d - 1, by omega⟩
  have hd : 1 ≤ d := by omega
  refine hEv_start (args := [vr 48, vr l1]) (nl := 2) rfl (Nat.le_of_ble_eq_true rfl) ?_
  show hG d 95 0 [some (vr 48), some (vr l1)] [] w _
  have kr : ∀ (v1 : Int) (h1 : hS), o = (v1, h1) → ∀ w', rg v1 → Abs h1 w' → qI o (some (.int (Int32.ofInt v1)), w') := fun v1 h1 q w' r A' => by cases q; exact ⟨rfl, r, A'⟩
  unfold c95 at e
  refine hg_run 1 (pc' := 1) (ls' := [some (vr 48), some (vr l1)]) (st' := [vR 48]) rfl ?_
  obtain ⟨v1, e1, e⟩ := ob e
  refine hg_cIp (as := [vR 48]) (st' := []) rfl (fun _ _ _ _ => rfl) rfl rfl (Nat.le_of_ble_eq_true rfl) (Nat.le_of_ble_eq_true rfl) (recvV A (a := 6) (Abs_ks A (i := 18) rfl).1) (t93 (by omega) A  e1) (fun r1 => ?_)
  rcases oi e with ⟨q2, e⟩ | ⟨q2, e⟩
  · refine hg_ifT (tgt := 9) rfl (by decide) r1 q2 ?_
    refine hg_run 1 (pc' := 10) (ls' := [some (vr 48), some (vr l1)]) (st' := [vR 48]) rfl ?_
    refine gs_48_3 rfl A ?_
    refine hg_run 1 (pc' := 14) (ls' := [some (vr 48), some (vr l1)]) (st' := [vR 48, vR 50]) rfl ?_
    refine gs_48_4 rfl A ?_
    obtain ⟨h3, e3, e⟩ := ob e
    refine hg_new (a := 12) rfl A (by decide +kernel) (by decide) e3 (fun w3 A3 => ?_)
    refine hg_run 2 (pc' := 22) (ls' := [some (vr 48), some (vr l1)]) (st' := [vR l1, vR (hN h), vR (hN h), vI (hI h 48 4), vR 50]) rfl ?_
    obtain ⟨u5, e5, e⟩ := ob e
    obtain ⟨h4, e4, e⟩ := ob e
    refine hg_cV (as := [vR (hN h), vR l1]) (st' := [vR (hN h), vI (hI h 48 4), vR 50]) rfl (fun _ _ _ _ => rfl) rfl rfl (Nat.le_of_ble_eq_true rfl) (Nat.le_of_ble_eq_true rfl) (recv1 (k8_e e5)) (t96 (by omega) A3  e4) (fun w4 A4 => ?_)
    obtain ⟨h6, e6, e⟩ := ob e
    refine hg_wRs 7 rfl A4 (Abs_ks A4 (i := 20) rfl) (by decide) (by decide) (by decide) e6 (fun w6 A6 => ?_)
    refine hg_run 2 (pc' := 28) (ls' := [some (vr 48), some (vr l1)]) (st' := [vR 48, vR 48]) rfl ?_
    refine gs_48_4 rfl A6 ?_
    refine hg_run 2 (pc' := 33) (ls' := [some (vr 48), some (vr l1)]) (st' := [vI (wadd (hI h6 48 4) 1), vR 48]) rfl ?_
    obtain ⟨h7, e7, e⟩ := ob e
    refine ps_48_4 rfl A6 (rg_add _ _) e7 (fun w7 A7 => ?_)
    refine hg_run 1 (pc' := 37) (ls' := [some (vr 48), some (vr l1)]) (st' := [vR 48]) rfl ?_
    refine gs_48_4 rfl A7 ?_
    refine hg_run 2 (pc' := 42) (ls' := [some (vr 48), some (vr l1)]) (st' := [vI (wsub (hI h7 48 4) 1)]) rfl ?_
    cases e
    exact hg_retI rfl (by decide) (fit_I _) (kr _ _ rfl _ (rg_sub _ _) A7)
  · refine hg_ifF (tgt := 9) rfl (by decide) r1 q2 ?_
    refine hg_run 1 (pc' := 8) (ls' := [some (vr 48), some (vr l1)]) (st' := [vI (-1)]) rfl ?_
    cases e
    exact hg_retI rfl (by decide) (fit_I _) (kr _ _ rfl _ (rgn (-1) rfl) A)
def c92 (h : hS) : Option (Int × hS) :=
  (c93  h).bind (fun v1 =>
  if v1 = 0 then
  (c42 0 h).bind (fun v3 =>
  if v3.1 = 0 then
  some ((-1), v3.2)
  else
  (c95 (hR v3.2 15 12) v3.2).bind (fun v5 =>
  some (v5.1, v5.2)))
  else
  (c94  h).bind (fun h6 =>
  some ((-1), h6)))
theorem t92 {d : Nat} (hd : 248 ≤ d)  {h : hS} {w : mmW} {o : Int × hS} (A : Abs h w)  (e : c92 h = some o) : hEv d 92 [vR 8] w (qI o) := by
  obtain ⟨d, rfl⟩ : ∃ d1, d = d1 + 1 := ⟨d - 1, by omega⟩
  have hd : 247 ≤ d := by omega
  refine hEv_start (args := [vr 8]) (nl := 1) rfl (Nat.le_of_ble_eq_true rfl) ?_
  show hG d 92 0 [some (vr 8)] [] w _
  have kr : ∀ (v1 : Int) (h1 : hS), o = (v1, h1) → ∀ w', rg v1 → Abs h1 w' → qI o (some (.int (Int32.ofInt v1)), w') := fun v1 h1 q w' r A' => by cases q; exact ⟨rfl, r, A'⟩
  unfold c92 at e
  refine hg_run 1 (pc' := 1) (ls' := [some (vr 8)]) (st' := [vR 8]) rfl ?_
  refine gs_8_6 rfl A ?_
  obtain ⟨v1, e1, e⟩ := ob e
  refine hg_cIp (as := [vR 48]) (st' := []) rfl (fun _ _ _ _ => rfl) rfl rfl (Nat.le_of_ble_eq_true rfl) (Nat.le_of_ble_eq_true rfl) (recvV A (a := 6) (Abs_ks A (i := 18) rfl).1) (t93 (by omega) A  e1) (fun r1 => ?_)
  rcases oi e with ⟨q2, e⟩ | ⟨q2, e⟩
  · refine hg_ifT (tgt := 19) rfl (by decide) r1 q2 ?_
    refine hg_run 1 (pc' := 20) (ls' := [some (vr 8)]) (st' := [vR 8]) rfl ?_
    refine gs_8_1 rfl A ?_
    refine hg_run 1 (pc' := 24) (ls' := [some (vr 8)]) (st' := [vR 0, vR 15]) rfl ?_
    obtain ⟨v3, e3, e⟩ := ob e
    refine hg_cI (as := [vR 15, vR 0]) (st' := []) rfl (fun _ _ _ _ => rfl) rfl rfl (Nat.le_of_ble_eq_true rfl) (Nat.le_of_ble_eq_true rfl) (recvV A (a := 2) (Abs_ks A (i := 7) rfl).1) (t42 (by omega) A  e3) (fun w3 r3 A3 => ?_)
    rcases oi e with ⟨q4, e⟩ | ⟨q4, e⟩
    · refine hg_ifF (tgt := 32) rfl (by decide) r3 (show ¬ ¬ (v3.1 = 0) from fun f => f q4) ?_
      refine hg_run 1 (pc' := 31) (ls' := [some (vr 8)]) (st' := [vI (-1)]) rfl ?_
      cases e
      exact hg_retI rfl (by decide) (fit_I _) (kr _ _ rfl _ (rgn (-1) rfl) A3)
    · refine hg_ifT (tgt := 32) rfl (by decide) r3 (show ¬ (v3.1 = 0) from q4) ?_
      refine hg_run 1 (pc' := 33) (ls' := [some (vr 8)]) (st' := [vR 8]) rfl ?_
      refine gs_8_6 rfl A3 ?_
      refine hg_run 1 (pc' := 37) (ls' := [some (vr 8)]) (st' := [vR 8, vR 48]) rfl ?_
      refine gs_8_1 rfl A3 ?_
      refine gs_15_12 rfl A3 ?_
      obtain ⟨v5, e5, e⟩ := ob e
      refine hg_cI (as := [vR 48, vR (hR v3.2 15 12)]) (st' := []) rfl (fun _ _ _ _ => rfl) rfl rfl (Nat.le_of_ble_eq_true rfl) (Nat.le_of_ble_eq_true rfl) (recvV A3 (a := 6) (Abs_ks A3 (i := 18) rfl).1) (t95 (by omega) A3  e5) (fun w5 r5 A5 => ?_)
      cases e
      exact hg_retI rfl (by decide) (fit_I _) (kr _ _ rfl _ r5 A5)
  · refine hg_ifF (tgt := 19) rfl (by decide) r1 q2 ?_
    refine hg_run 1 (pc' := 11) (ls' := [some (vr 8)]) (st' := [vR 8]) rfl ?_
    refine gs_8_1 rfl A ?_
    obtain ⟨h6, e6, e⟩ := ob e
    refine hg_cV (as := [vR 15]) (st' := []) rfl (fun _ _ _ _ => rfl) rfl rfl (Nat.le_of_ble_eq_true rfl) (Nat.le_of_ble_eq_true rfl) (recvV A (a := 2) (Abs_ks A (i := 7) rfl).1) (t94 (by omega) A  e6) (fun w6 A6 => ?_)
    refine hg_run 1 (pc' := 18) (ls' := [some (vr 8)]) (st' := [vI (-1)]) rfl ?_
    cases e
    exact hg_retI rfl (by decide) (fit_I _) (kr _ _ rfl _ (rgn (-1) rfl) A6)
def c97 (l1 : Int) (h : hS) : Option (Int) :=
  if (0 : Int) = l1 then
  some (hI h 15 4)
  else
  if (1 : Int) = l1 then
  some (hI h 15 5)
  else
  some (-1)
theorem t97 {d : Nat} (hd : 1 ≤ d) {l1 : Int} {h : hS} {w : mmW} {o : Int} (A : Abs h w) (rl1 : rg l1) (e : c97 l1 h = some o) : hEv d 97 [vR 8, vI l1] w (qIp o w) := by
  obtain ⟨d, rfl⟩ : ∃ d1, d = d1 + 1 := ⟨d - 1, by omega⟩
  have hd : 0 ≤ d := by omega
  refine hEv_start (args := [vr 8, vi l1]) (nl := 2) rfl (Nat.le_of_ble_eq_true rfl) ?_
  show hG d 97 0 [some (vr 8), some (vi l1)] [] w _
  have kr : ∀ v1 : Int, o = v1 → rg v1 → qIp o w (some (.int (Int32.ofInt v1)), w) := fun v1 q r => by cases q; exact ⟨rfl, r⟩
  unfold c97 at e
  refine hg_run 1 (pc' := 1) (ls' := [some (vr 8), some (vi l1)]) (st' := [vI l1]) rfl ?_
  rcases oi e with ⟨q1, e⟩ | ⟨q1, e⟩
  · refine hg_lsw (off := 27) (tgt := 28) rfl rfl rl1 (show (if (0 : Int) = l1 then (27 : Int) else if (1 : Int) = l1 then (35 : Int) else (43 : Int)) = 27 by rw [if_pos q1]) (by decide) ?_
    refine hg_run 1 (pc' := 29) (ls' := [some (vr 8), some (vi l1)]) (st' := [vR 8]) rfl ?_
    refine gs_8_1 rfl A ?_
    refine gs_15_4 rfl A ?_
    cases e
    exact hg_retI rfl (by decide) (fit_I _) (kr _ rfl (Abs_rg A 15 4))
  · rcases oi e with ⟨q2, e⟩ | ⟨q2, e⟩
    · refine hg_lsw (off := 35) (tgt := 36) rfl rfl rl1 (show (if (0 : Int) = l1 then (27 : Int) else if (1 : Int) = l1 then (35 : Int) else (43 : Int)) = 35 by rw [if_neg q1, if_pos q2]) (by decide) ?_
      refine hg_run 1 (pc' := 37) (ls' := [some (vr 8), some (vi l1)]) (st' := [vR 8]) rfl ?_
      refine gs_8_1 rfl A ?_
      refine gs_15_5 rfl A ?_
      cases e
      exact hg_retI rfl (by decide) (fit_I _) (kr _ rfl (Abs_rg A 15 5))
    · refine hg_lsw (off := 43) (tgt := 44) rfl rfl rl1 (show (if (0 : Int) = l1 then (27 : Int) else if (1 : Int) = l1 then (35 : Int) else (43 : Int)) = 43 by rw [if_neg q1, if_neg q2]) (by decide) ?_
      refine hg_run 1 (pc' := 45) (ls' := [some (vr 8), some (vi l1)]) (st' := [vI (-1)]) rfl ?_
      cases e
      exact hg_retI rfl (by decide) (fit_I _) (kr _ rfl (rgn (-1) rfl))
def c98 (h : hS) : Option (Int) :=
  (gI h (hR h 8 7) 18 1).bind (fun v1 =>
  some v1)
theorem t98 {d : Nat} (hd : 1 ≤ d)  {h : hS} {w : mmW} {o : Int} (A : Abs h w)  (e : c98 h = some o) : hEv d 98 [vR 8] w (qIp o w) := by
  obtain ⟨d, rfl⟩ : ∃ d1, d = d1 + 1 := ⟨d - 1, by omega⟩
  have hd : 0 ≤ d := by omega
  refine hEv_start (args := [vr 8]) (nl := 1) rfl (Nat.le_of_ble_eq_true rfl) ?_
  show hG d 98 0 [some (vr 8)] [] w _
  have kr : ∀ v1 : Int, o = v1 → rg v1 → qIp o w (some (.int (Int32.ofInt v1)), w) := fun v1 q r => by cases q; exact ⟨rfl, r⟩
  unfold c98 at e
  refine hg_run 1 (pc' := 1) (ls' := [some (vr 8)]) (st' := [vR 8]) rfl ?_
  refine gs_8_7 rfl A ?_
  obtain ⟨v1, e1, e⟩ := ob e
  refine gd_8_1 rfl A e1 (fun r1 => ?_)
  cases e
  exact hg_retI rfl (by decide) (fit_I _) (kr _ rfl r1)
def c99 (l1 : Int) (l2 : Int) (h : hS) : Option (Int) :=
  if l1 < 0 then
  some (-1)
  else
  (gI h (hR h 8 7) 18 1).bind (fun v2 =>
  if l1 < v2 then
  (gR h (hR h 8 7) 18 0).bind (fun v4 =>
  (aR h v4 17 l1).bind (fun v5 =>
  if l2 < 0 ∨ 5 < l2 then
  some (-1)
  else
  if l2 = 0 then
  (gI h v5 24 0).bind (fun v8 =>
  some v8)
  else
  if l2 = 1 then
  (gR h v5 24 1).bind (fun v10 =>
  (hnul v10).bind (fun b11 =>
  if b11 = true then
  some (-1)
  else
  (gR h v5 24 1).bind (fun v12 =>
  (gI h v12 24 0).bind (fun v13 =>
  some v13))))
  else
  if l2 = 2 then
  (gI h v5 24 2).bind (fun v15 =>
  some v15)
  else
  if l2 = 3 then
  (gI h v5 24 4).bind (fun v17 =>
  some v17)
  else
  if l2 = 4 then
  (gI h v5 24 8).bind (fun v19 =>
  some v19)
  else
  if l2 = 5 then
  (gI h v5 24 11).bind (fun v21 =>
  some v21)
  else
  none))
  else
  some (-1))
theorem t99 {d : Nat} (hd : 1 ≤ d) {l1 : Int} {l2 : Int} {h : hS} {w : mmW} {o : Int} (A : Abs h w) (rl1 : rg l1) (rl2 : rg l2) (e : c99 l1 l2 h = some o) : hEv d 99 [vR 8, vI l1, vI l2] w (qIp o w) := by
  obtain ⟨d, rfl⟩ : ∃ d1, d = d1 + 1 := ⟨d - 1, by omega⟩
  have hd : 0 ≤ d := by omega
  refine hEv_start (args := [vr 8, vi l1, vi l2]) (nl := 4) rfl (Nat.le_of_ble_eq_true rfl) ?_
  show hG d 99 0 [some (vr 8), some (vi l1), some (vi l2), none] [] w _
  have kr : ∀ v1 : Int, o = v1 → rg v1 → qIp o w (some (.int (Int32.ofInt v1)), w) := fun v1 q r => by cases q; exact ⟨rfl, r⟩
  unfold c99 at e
  refine hg_run 1 (pc' := 1) (ls' := [some (vr 8), some (vi l1), some (vi l2), none]) (st' := [vI l1]) rfl ?_
  rcases oi e with ⟨q1, e⟩ | ⟨q1, e⟩
  · refine hg_ifT (tgt := 15) rfl (by decide) rl1 q1 ?_
    refine hg_run 1 (pc' := 16) (ls' := [some (vr 8), some (vi l1), some (vi l2), none]) (st' := [vI (-1)]) rfl ?_
    cases e
    exact hg_retI rfl (by decide) (fit_I _) (kr _ rfl (rgn (-1) rfl))
  · refine hg_ifF (tgt := 15) rfl (by decide) rl1 q1 ?_
    refine hg_run 2 (pc' := 6) (ls' := [some (vr 8), some (vi l1), some (vi l2), none]) (st' := [vR 8, vI l1]) rfl ?_
    refine gs_8_7 rfl A ?_
    obtain ⟨v2, e2, e⟩ := ob e
    refine gd_8_1 rfl A e2 (fun r2 => ?_)
    rcases oi e with ⟨q3, e⟩ | ⟨q3, e⟩
    · refine hg_icT (tgt := 17) rfl (by decide) rl1 r2 q3 ?_
      refine hg_run 1 (pc' := 18) (ls' := [some (vr 8), some (vi l1), some (vi l2), none]) (st' := [vR 8]) rfl ?_
      refine gs_8_7 rfl A ?_
      obtain ⟨v4, e4, e⟩ := ob e
      refine gd_8_0 rfl A e4 ?_
      refine hg_run 1 (pc' := 25) (ls' := [some (vr 8), some (vi l1), some (vi l2), none]) (st' := [vI l1, vR v4]) rfl ?_
      obtain ⟨v5, e5, e⟩ := ob e
      refine hg_aRd 8 rfl (fun _ _ _ _ => rfl) A rfl (by decide) e5 ?_
      refine hg_run 2 (pc' := 28) (ls' := [some (vr 8), some (vi l1), some (vi l2), some (vr v5)]) (st' := [vI l2]) rfl ?_
      rcases oi e with ⟨q6, e⟩ | ⟨q6, e⟩
      · refine hg_tsD (tgt := 112) rfl rl2 q6 (by decide) ?_
        refine hg_run 1 (pc' := 113) (ls' := [some (vr 8), some (vi l1), some (vi l2), some (vr v5)]) (st' := [vI (-1)]) rfl ?_
        cases e
        exact hg_retI rfl (by decide) (fit_I _) (kr _ rfl (rgn (-1) rfl))
      · rcases oi e with ⟨q7, e⟩ | ⟨q7, e⟩
        · refine hg_tsC (tgt := 68) rfl rl2 q7 (by decide) rfl (by decide) ?_
          refine hg_run 1 (pc' := 69) (ls' := [some (vr 8), some (vi l1), some (vi l2), some (vr v5)]) (st' := [vR v5]) rfl ?_
          obtain ⟨v8, e8, e⟩ := ob e
          refine gd_11_0 rfl A e8 (fun r8 => ?_)
          cases e
          exact hg_retI rfl (by decide) (fit_I _) (kr _ rfl r8)
        · rcases oi e with ⟨q9, e⟩ | ⟨q9, e⟩
          · refine hg_tsC (tgt := 73) rfl rl2 q9 (by decide) rfl (by decide) ?_
            refine hg_run 1 (pc' := 74) (ls' := [some (vr 8), some (vi l1), some (vi l2), some (vr v5)]) (st' := [vR v5]) rfl ?_
            obtain ⟨v10, e10, e⟩ := ob e
            refine gd_11_1 rfl A e10 ?_
            obtain ⟨b11, e11, e⟩ := ob e
            rcases oi e with ⟨q11, e⟩ | ⟨q11, e⟩
            · refine hg_nul (yes := false) (tgt := 84) (t2 := 80) rfl (fun _ _ _ _ => rfl) (by decide) (ebT e11 q11) rfl ?_
              refine hg_run 2 (pc' := 91) (ls' := [some (vr 8), some (vi l1), some (vi l2), some (vr v5)]) (st' := [vI (-1)]) rfl ?_
              cases e
              exact hg_retI rfl (by decide) (fit_I _) (kr _ rfl (rgn (-1) rfl))
            · refine hg_nul (yes := false) (tgt := 84) (t2 := 84) rfl (fun _ _ _ _ => rfl) (by decide) (ebF e11 q11) rfl ?_
              refine hg_run 1 (pc' := 85) (ls' := [some (vr 8), some (vi l1), some (vi l2), some (vr v5)]) (st' := [vR v5]) rfl ?_
              obtain ⟨v12, e12, e⟩ := ob e
              refine gd_11_1 rfl A e12 ?_
              obtain ⟨v13, e13, e⟩ := ob e
              refine gd_11_0 rfl A e13 (fun r13 => ?_)
              cases e
              exact hg_retI rfl (by decide) (fit_I _) (kr _ rfl r13)
          · rcases oi e with ⟨q14, e⟩ | ⟨q14, e⟩
            · refine hg_tsC (tgt := 92) rfl rl2 q14 (by decide) rfl (by decide) ?_
              refine hg_run 1 (pc' := 93) (ls' := [some (vr 8), some (vi l1), some (vi l2), some (vr v5)]) (st' := [vR v5]) rfl ?_
              obtain ⟨v15, e15, e⟩ := ob e
              refine gd_11_2 rfl A e15 (fun r15 => ?_)
              cases e
              exact hg_retI rfl (by decide) (fit_I _) (kr _ rfl r15)
            · rcases oi e with ⟨q16, e⟩ | ⟨q16, e⟩
              · refine hg_tsC (tgt := 97) rfl rl2 q16 (by decide) rfl (by decide) ?_
                refine hg_run 1 (pc' := 98) (ls' := [some (vr 8), some (vi l1), some (vi l2), some (vr v5)]) (st' := [vR v5]) rfl ?_
                obtain ⟨v17, e17, e⟩ := ob e
                refine gd_11_4 rfl A e17 (fun r17 => ?_)
                cases e
                exact hg_retI rfl (by decide) (fit_I _) (kr _ rfl r17)
              · rcases oi e with ⟨q18, e⟩ | ⟨q18, e⟩
                · refine hg_tsC (tgt := 102) rfl rl2 q18 (by decide) rfl (by decide) ?_
                  refine hg_run 1 (pc' := 103) (ls' := [some (vr 8), some (vi l1), some (vi l2), some (vr v5)]) (st' := [vR v5]) rfl ?_
                  obtain ⟨v19, e19, e⟩ := ob e
                  refine gd_11_8 rfl A e19 (fun r19 => ?_)
                  cases e
                  exact hg_retI rfl (by decide) (fit_I _) (kr _ rfl r19)
                · rcases oi e with ⟨q20, e⟩ | ⟨q20, e⟩
                  · refine hg_tsC (tgt := 107) rfl rl2 q20 (by decide) rfl (by decide) ?_
                    refine hg_run 1 (pc' := 108) (ls' := [some (vr 8), some (vi l1), some (vi l2), some (vr v5)]) (st' := [vR v5]) rfl ?_
                    obtain ⟨v21, e21, e⟩ := ob e
                    refine gd_11_11 rfl A e21 (fun r21 => ?_)
                    cases e
                    exact hg_retI rfl (by decide) (fit_I _) (kr _ rfl r21)
                  · cases e
    · refine hg_icF (tgt := 17) rfl (by decide) rl1 r2 q3 ?_
      refine hg_run 1 (pc' := 16) (ls' := [some (vr 8), some (vi l1), some (vi l2), none]) (st' := [vI (-1)]) rfl ?_
      cases e
      exact hg_retI rfl (by decide) (fit_I _) (kr _ rfl (rgn (-1) rfl))
def c101_b12 (l0 : Nat) (l2 : Int) (h : hS) : Option ((Int × hS) ⊕ (hS)) :=
  if 40 ≤ l2 then
  some (.inr (h))
  else
  (gR h l0 16 4).bind (fun v4 =>
  (wI h v4 3 l2 (wbol 0)).bind (fun h5 =>
  some (.inl ((wadd l2 1), h5))))
theorem t101_b12 {d : Nat} (hd : 0 ≤ d) {l0 : Nat} {l2 : Int} {l1 : Nat} {z3 : Option hO} {h : hS} {w : mmW} {o : (Int × hS) ⊕ (hS)} {Q : mmO → Prop} (rl2 : rg l2) (A : Abs h w) (e : c101_b12 l0 l2 h = some o) (kb : ∀ (s_0 : Int) (s_1 : hS), o = .inl (s_0, s_1) → ∀ w', rg s_0 → Abs s_1 w' → hG d 101 12 [some (vr l0), some (vr l1), some (vi s_0), z3] [] w' Q) (ke : ∀ (x_0 : hS), o = .inr (x_0) → ∀ w', ∀ (y2 : Option hO), Abs x_0 w' → hG d 101 31 [some (vr l0), some (vr l1), y2, z3] [] w' Q) : hG d 101 12 [some (vr l0), some (vr l1), some (vi l2), z3] [] w Q := by
  unfold c101_b12 at e
  refine hg_run 2 (pc' := 15) (ls' := [some (vr l0), some (vr l1), some (vi l2), z3]) (st' := [vI 40, vI l2]) rfl ?_
  rcases oi e with ⟨q3, e⟩ | ⟨q3, e⟩
  · refine hg_icT (tgt := 31) rfl (by decide) rl2 (rgn 40 rfl) q3 ?_
    cases e
    exact ke h rfl _ _  A
  · refine hg_icF (tgt := 31) rfl (by decide) rl2 (rgn 40 rfl) q3 ?_
    refine hg_run 1 (pc' := 19) (ls' := [some (vr l0), some (vr l1), some (vi l2), z3]) (st' := [vR l0]) rfl ?_
    obtain ⟨v4, e4, e⟩ := ob e
    refine gd_7_4 rfl A e4 ?_
    refine hg_run 2 (pc' := 24) (ls' := [some (vr l0), some (vr l1), some (vi l2), z3]) (st' := [vI 0, vI l2, vR v4]) rfl ?_
    obtain ⟨h5, e5, e⟩ := ob e
    refine hg_wBd rfl A e5 (fun w5 A5 => ?_)
    refine hg_run 2 (pc' := 12) (ls' := [some (vr l0), some (vr l1), some (vi (wadd l2 1)), z3]) (st' := []) rfl ?_
    cases e
    exact kb (wadd l2 1) h5 rfl _ (rg_add _ _) A5
theorem t101_l12 {d : Nat} (hd : 0 ≤ d) {l0 : Nat} {l1 : Nat} {z3 : Option hO} {Q : mmO → Prop}  (n : Nat) {l2 : Int}  {h : hS} {w : mmW} {r : hS} (rl2 : rg l2) (A : Abs h w) (e : lp (fun s => c101_b12 l0 s.1 s.2) n (l2, h) = some r) (ke : ∀ (x_0 : hS), r = (x_0) → ∀ w', ∀ (y2 : Option hO), Abs x_0 w' → hG d 101 31 [some (vr l0), some (vr l1), y2, z3] [] w' Q) : hG d 101 12 [some (vr l0), some (vr l1), some (vi l2), z3] [] w Q := by
  induction n generalizing l2 h w with
  | zero => cases e
  | succ n ih =>
    rcases lp_succ e with ⟨s1, e1, e2⟩ | e1
    · exact t101_b12 hd rl2 A e1 (fun s_0 s_1 q w1 rl2 A1 => by cases q; exact ih rl2 A1 e2) (fun x_0 q => by cases q)
    · exact t101_b12 hd rl2 A e1 (fun s_0 s_1 q => by cases q) (fun x_0 q => by cases q; exact ke _ rfl)
def c101_b39 (l0 : Nat) (l2 : Nat) (l3 : Int) (h : hS) : Option ((Int × hS) ⊕ (hS)) :=
  (gI h l2 24 4).bind (fun v8 =>
  if v8 ≤ l3 then
  some (.inr (h))
  else
  (gR h l0 16 3).bind (fun v10 =>
  (gR h l2 24 5).bind (fun v11 =>
  (aI h v11 1 l3).bind (fun v12 =>
  (gR h l2 24 6).bind (fun v13 =>
  (aI h v13 1 l3).bind (fun v14 =>
  (wI h v10 1 v12 v14).bind (fun h15 =>
  some (.inl ((wadd l3 1), h15)))))))))
theorem t101_b39 {d : Nat} (hd : 0 ≤ d) {l0 : Nat} {l2 : Nat} {l3 : Int} {z1 : Option hO} {h : hS} {w : mmW} {o : (Int × hS) ⊕ (hS)} {Q : mmO → Prop} (rl3 : rg l3) (A : Abs h w) (e : c101_b39 l0 l2 l3 h = some o) (kb : ∀ (s_0 : Int) (s_1 : hS), o = .inl (s_0, s_1) → ∀ w', rg s_0 → Abs s_1 w' → hG d 101 39 [some (vr l0), z1, some (vr l2), some (vi s_0)] [] w' Q) (ke : ∀ (x_0 : hS), o = .inr (x_0) → ∀ w', ∀ (y3 : Option hO), Abs x_0 w' → hG d 101 70 [some (vr l0), z1, some (vr l2), y3] [] w' Q) : hG d 101 39 [some (vr l0), z1, some (vr l2), some (vi l3)] [] w Q := by
  unfold c101_b39 at e
  refine hg_run 2 (pc' := 41) (ls' := [some (vr l0), z1, some (vr l2), some (vi l3)]) (st' := [vR l2, vI l3]) rfl ?_
  obtain ⟨v8, e8, e⟩ := ob e
  refine gd_11_4 rfl A e8 (fun r8 => ?_)
  rcases oi e with ⟨q9, e⟩ | ⟨q9, e⟩
  · refine hg_icT (tgt := 70) rfl (by decide) rl3 r8 q9 ?_
    cases e
    exact ke h rfl _ _  A
  · refine hg_icF (tgt := 70) rfl (by decide) rl3 r8 q9 ?_
    refine hg_run 1 (pc' := 48) (ls' := [some (vr l0), z1, some (vr l2), some (vi l3)]) (st' := [vR l0]) rfl ?_
    obtain ⟨v10, e10, e⟩ := ob e
    refine gd_7_3 rfl A e10 ?_
    refine hg_run 1 (pc' := 52) (ls' := [some (vr l0), z1, some (vr l2), some (vi l3)]) (st' := [vR l2, vR v10]) rfl ?_
    obtain ⟨v11, e11, e⟩ := ob e
    refine gd_11_5 rfl A e11 ?_
    refine hg_run 1 (pc' := 56) (ls' := [some (vr l0), z1, some (vr l2), some (vi l3)]) (st' := [vI l3, vR v11, vR v10]) rfl ?_
    obtain ⟨v12, e12, e⟩ := ob e
    refine hg_aId 0 rfl (fun _ _ _ _ => rfl) A rfl (by decide) e12 (fun r12 => ?_)
    refine hg_run 1 (pc' := 58) (ls' := [some (vr l0), z1, some (vr l2), some (vi l3)]) (st' := [vR l2, vI v12, vR v10]) rfl ?_
    obtain ⟨v13, e13, e⟩ := ob e
    refine gd_11_6 rfl A e13 ?_
    refine hg_run 1 (pc' := 62) (ls' := [some (vr l0), z1, some (vr l2), some (vi l3)]) (st' := [vI l3, vR v13, vI v12, vR v10]) rfl ?_
    obtain ⟨v14, e14, e⟩ := ob e
    refine hg_aId 0 rfl (fun _ _ _ _ => rfl) A rfl (by decide) e14 (fun r14 => ?_)
    obtain ⟨h15, e15, e⟩ := ob e
    refine hg_wId rfl A r14 e15 (fun w15 A15 => ?_)
    refine hg_run 2 (pc' := 39) (ls' := [some (vr l0), z1, some (vr l2), some (vi (wadd l3 1))]) (st' := []) rfl ?_
    cases e
    exact kb (wadd l3 1) h15 rfl _ (rg_add _ _) A15
theorem t101_l39 {d : Nat} (hd : 0 ≤ d) {l0 : Nat} {l2 : Nat} {z1 : Option hO} {Q : mmO → Prop}  (n : Nat) {l3 : Int}  {h : hS} {w : mmW} {r : hS} (rl3 : rg l3) (A : Abs h w) (e : lp (fun s => c101_b39 l0 l2 s.1 s.2) n (l3, h) = some r) (ke : ∀ (x_0 : hS), r = (x_0) → ∀ w', ∀ (y3 : Option hO), Abs x_0 w' → hG d 101 70 [some (vr l0), z1, some (vr l2), y3] [] w' Q) : hG d 101 39 [some (vr l0), z1, some (vr l2), some (vi l3)] [] w Q := by
  induction n generalizing l3 h w with
  | zero => cases e
  | succ n ih =>
    rcases lp_succ e with ⟨s1, e1, e2⟩ | e1
    · exact t101_b39 hd rl3 A e1 (fun s_0 s_1 q w1 rl3 A1 => by cases q; exact ih rl3 A1 e2) (fun x_0 q => by cases q)
    · exact t101_b39 hd rl3 A e1 (fun s_0 s_1 q => by cases q) (fun x_0 q => by cases q; exact ke _ rfl)
def c101_b33 (l0 : Nat) (l2 : Nat) (h : hS) : Option ((Nat × hS) ⊕ (hS)) :=
  (hnul l2).bind (fun b7 =>
  if b7 = true then
  some (.inr (h))
  else
  (lp (fun s => c101_b39 l0 l2 s.1 s.2) hF0 (0, h)).bind (fun r16 =>
  (gR r16 l2 24 1).bind (fun v17 =>
  some (.inl (v17, r16)))))
theorem t101_b33 {d : Nat} (hd : 0 ≤ d) {l0 : Nat} {l2 : Nat} {z1 : Option hO} {z3 : Option hO} {h : hS} {w : mmW} {o : (Nat × hS) ⊕ (hS)} {Q : mmO → Prop}  (A : Abs h w) (e : c101_b33 l0 l2 h = some o) (kb : ∀ (s_0 : Nat) (s_1 : hS), o = .inl (s_0, s_1) → ∀ w', ∀ (y3 : Option hO), Abs s_1 w' → hG d 101 33 [some (vr l0), z1, some (vr s_0), y3] [] w' Q) (ke : ∀ (x_0 : hS), o = .inr (x_0) → ∀ w', ∀ (y2 y3 : Option hO), Abs x_0 w' → hG d 101 78 [some (vr l0), z1, y2, y3] [] w' Q) : hG d 101 33 [some (vr l0), z1, some (vr l2), z3] [] w Q := by
  unfold c101_b33 at e
  refine hg_run 1 (pc' := 34) (ls' := [some (vr l0), z1, some (vr l2), z3]) (st' := [vR l2]) rfl ?_
  obtain ⟨b7, e7, e⟩ := ob e
  rcases oi e with ⟨q7, e⟩ | ⟨q7, e⟩
  · refine hg_nul (yes := true) (tgt := 78) (t2 := 78) rfl (fun _ _ _ _ => rfl) (by decide) (ebT e7 q7) rfl ?_
    cases e
    exact ke h rfl _ _ _  A
  · refine hg_nul (yes := true) (tgt := 78) (t2 := 37) rfl (fun _ _ _ _ => rfl) (by decide) (ebF e7 q7) rfl ?_
    refine hg_run 2 (pc' := 39) (ls' := [some (vr l0), z1, some (vr l2), some (vi 0)]) (st' := []) rfl ?_
    obtain ⟨r16, e16, e⟩ := ob e
    refine t101_l39 hd  _ (rgn 0 rfl) A e16 ?_
    intro x16_0 qq16 w16 z16_3 A16
    subst qq16
    refine hg_run 1 (pc' := 71) (ls' := [some (vr l0), z1, some (vr l2), z16_3]) (st' := [vR l2]) rfl ?_
    obtain ⟨v17, e17, e⟩ := ob e
    refine gd_11_1 rfl A16 e17 ?_
    refine hg_run 2 (pc' := 33) (ls' := [some (vr l0), z1, some (vr v17), z16_3]) (st' := []) rfl ?_
    cases e
    exact kb v17 r16 rfl _ _  A16
theorem t101_l33 {d : Nat} (hd : 0 ≤ d) {l0 : Nat} {z1 : Option hO} {Q : mmO → Prop}  (n : Nat) {l2 : Nat} {z3 : Option hO} {h : hS} {w : mmW} {r : hS}  (A : Abs h w) (e : lp (fun s => c101_b33 l0 s.1 s.2) n (l2, h) = some r) (ke : ∀ (x_0 : hS), r = (x_0) → ∀ w', ∀ (y2 y3 : Option hO), Abs x_0 w' → hG d 101 78 [some (vr l0), z1, y2, y3] [] w' Q) : hG d 101 33 [some (vr l0), z1, some (vr l2), z3] [] w Q := by
  induction n generalizing l2 z3 h w with
  | zero => cases e
  | succ n ih =>
    rcases lp_succ e with ⟨s1, e1, e2⟩ | e1
    · exact t101_b33 hd  A e1 (fun s_0 s_1 q w1 y3 A1 => by cases q; exact ih  A1 e2) (fun x_0 q => by cases q)
    · exact t101_b33 hd  A e1 (fun s_0 s_1 q => by cases q) (fun x_0 q => by cases q; exact ke _ rfl)
def c101 (l0 : Nat) (l1 : Nat) (h : hS) : Option (hS) :=
  (pI h l0 16 1 1).bind (fun h1 =>
  (pR h1 l0 16 2 l1).bind (fun h2 =>
  (lp (fun s => c101_b12 l0 s.1 s.2) hF0 (0, h2)).bind (fun r6 =>
  (lp (fun s => c101_b33 l0 s.1 s.2) hF0 (l1, r6)).bind (fun r18 =>
  some r18))))
theorem t101 {d : Nat} (hd : 1 ≤ d) {l0 : Nat} {l1 : Nat} {h : hS} {w : mmW} {o : hS} (A : Abs h w)  (e : c101 l0 l1 h = some o) : hEv d 101 [vR l0, vR l1] w (qV o) := by
  obtain ⟨d, rfl⟩ : ∃ d1, d = d1 + 1 := ⟨d - 1, by omega⟩
  have hd : 0 ≤ d := by omega
  refine hEv_start (args := [vr l0, vr l1]) (nl := 4) rfl (Nat.le_of_ble_eq_true rfl) ?_
  show hG d 101 0 [some (vr l0), some (vr l1), none, none] [] w _
  have kr : ∀ h1 : hS, o = h1 → ∀ w', Abs h1 w' → qV o (none, w') := fun h1 q w' A' => by cases q; exact ⟨rfl, A'⟩
  unfold c101 at e
  refine hg_run 2 (pc' := 2) (ls' := [some (vr l0), some (vr l1), none, none]) (st' := [vI 1, vR l0]) rfl ?_
  obtain ⟨h1, e1, e⟩ := ob e
  refine pd_7_1 rfl A (rgn 1 rfl) (.inr rfl) e1 (fun w1 A1 => ?_)
  refine hg_run 2 (pc' := 7) (ls' := [some (vr l0), some (vr l1), none, none]) (st' := [vR l1, vR l0]) rfl ?_
  obtain ⟨h2, e2, e⟩ := ob e
  refine pd_7_2 rfl A1 e2 (fun w2 A2 => ?_)
  refine hg_run 2 (pc' := 12) (ls' := [some (vr l0), some (vr l1), some (vi 0), none]) (st' := []) rfl ?_
  obtain ⟨r6, e6, e⟩ := ob e
  refine t101_l12 hd  _ (rgn 0 rfl) A2 e6 ?_
  intro x6_0 qq6 w6 z6_2 A6
  subst qq6
  refine hg_run 2 (pc' := 33) (ls' := [some (vr l0), some (vr l1), some (vr l1), none]) (st' := []) rfl ?_
  obtain ⟨r18, e18, e⟩ := ob e
  refine t101_l33 hd  _  A6 e18 ?_
  intro x18_0 qq18 w18 z18_2 z18_3 A18
  subst qq18
  cases e
  exact hg_retV rfl (kr _ rfl _ A18)
def c100 (l1 : Int) (h : hS) : Option (Int × hS) :=
  (kT h (hR h 8 7) 18).bind (fun u2 =>
  (c47 (hR h 8 7) l1 h).bind (fun v1 =>
  (hnul v1).bind (fun b3 =>
  if b3 = true then
  some ((-1), h)
  else
  if (hI h 8 8) < 40 then
  (aRs h 19 40 (hI h 8 8)).bind (fun v5 =>
  (kT h v5 16).bind (fun u7 =>
  (c101 v5 v1 h).bind (fun h6 =>
  (wIs h6 20 40 (hI h6 8 8) 3).bind (fun h8 =>
  (some (sI h8 8 8 (wadd (hI h8 8 8) 1))).bind (fun h9 =>
  some ((wsub (hI h9 8 8) 1), h9))))))
  else
  some ((-1), h))))
theorem t100 {d : Nat} (hd : 2 ≤ d) {l1 : Int} {h : hS} {w : mmW} {o : Int × hS} (A : Abs h w) (rl1 : rg l1) (e : c100 l1 h = some o) : hEv d 100 [vR 8, vI l1] w (qI o) := by
  obtain ⟨d, rfl⟩ : ∃ d1, d = d1 + 1 := ⟨d - 1, by omega⟩
  have hd : 1 ≤ d := by omega
  refine hEv_start (args := [vr 8, vi l1]) (nl := 3) rfl (Nat.le_of_ble_eq_true rfl) ?_
  show hG d 100 0 [some (vr 8), some (vi l1), none] [] w _
  have kr : ∀ (v1 : Int) (h1 : hS), o = (v1, h1) → ∀ w', rg v1 → Abs h1 w' → qI o (some (.int (Int32.ofInt v1)), w') := fun v1 h1 q w' r A' => by cases q; exact ⟨rfl, r, A'⟩
  unfold c100 at e
  refine hg_run 1 (pc' := 1) (ls' := [some (vr 8), some (vi l1), none]) (st' := [vR 8]) rfl ?_
  refine gs_8_7 rfl A ?_
  refine hg_run 1 (pc' := 5) (ls' := [some (vr 8), some (vi l1), none]) (st' := [vI l1, vR (hR h 8 7)]) rfl ?_
  obtain ⟨u2, e2, e⟩ := ob e
  obtain ⟨v1, e1, e⟩ := ob e
  refine hg_cRp (as := [vR (hR h 8 7), vI l1]) (st' := []) rfl (fun _ _ _ _ => rfl) rfl rfl (Nat.le_of_ble_eq_true rfl) (Nat.le_of_ble_eq_true rfl) (recvV A (a := 8) (kT_e e2)) (t47 (by omega) A rl1 e1) ?_
  refine hg_run 2 (pc' := 10) (ls' := [some (vr 8), some (vi l1), some (vr v1)]) (st' := [vR v1]) rfl ?_
  obtain ⟨b3, e3, e⟩ := ob e
  rcases oi e with ⟨q3, e⟩ | ⟨q3, e⟩
  · refine hg_nul (yes := true) (tgt := 22) (t2 := 22) rfl (fun _ _ _ _ => rfl) (by decide) (ebT e3 q3) rfl ?_
    refine hg_run 1 (pc' := 23) (ls' := [some (vr 8), some (vi l1), some (vr v1)]) (st' := [vI (-1)]) rfl ?_
    cases e
    exact hg_retI rfl (by decide) (fit_I _) (kr _ _ rfl _ (rgn (-1) rfl) A)
  · refine hg_nul (yes := true) (tgt := 22) (t2 := 13) rfl (fun _ _ _ _ => rfl) (by decide) (ebF e3 q3) rfl ?_
    refine hg_run 1 (pc' := 14) (ls' := [some (vr 8), some (vi l1), some (vr v1)]) (st' := [vR 8]) rfl ?_
    refine gs_8_8 rfl A ?_
    refine hg_run 1 (pc' := 19) (ls' := [some (vr 8), some (vi l1), some (vr v1)]) (st' := [vI 40, vI (hI h 8 8)]) rfl ?_
    rcases oi e with ⟨q4, e⟩ | ⟨q4, e⟩
    · refine hg_icT (tgt := 24) rfl (by decide) (Abs_rg A 8 8) (rgn 40 rfl) q4 ?_
      refine hg_run 1 (pc' := 25) (ls' := [some (vr 8), some (vi l1), some (vr v1)]) (st' := [vR 8]) rfl ?_
      refine gs_8_2 rfl A ?_
      refine hg_run 1 (pc' := 29) (ls' := [some (vr 8), some (vi l1), some (vr v1)]) (st' := [vR 8, vR 19]) rfl ?_
      refine gs_8_8 rfl A ?_
      obtain ⟨v5, e5, e⟩ := ob e
      refine hg_aRs 4 rfl (fun _ _ _ _ => rfl) A (Abs_ks A (i := 10) rfl) rfl (by decide) e5 ?_
      refine hg_run 1 (pc' := 34) (ls' := [some (vr 8), some (vi l1), some (vr v1)]) (st' := [vR v1, vR v5]) rfl ?_
      obtain ⟨u7, e7, e⟩ := ob e
      obtain ⟨h6, e6, e⟩ := ob e
      refine hg_cV (as := [vR v5, vR v1]) (st' := []) rfl (fun _ _ _ _ => rfl) rfl rfl (Nat.le_of_ble_eq_true rfl) (Nat.le_of_ble_eq_true rfl) (recvV A (a := 7) (kT_e e7)) (t101 (by omega) A  e6) (fun w6 A6 => ?_)
      refine hg_run 1 (pc' := 38) (ls' := [some (vr 8), some (vi l1), some (vr v1)]) (st' := [vR 8]) rfl ?_
      refine gs_8_3 rfl A6 ?_
      refine hg_run 1 (pc' := 42) (ls' := [some (vr 8), some (vi l1), some (vr v1)]) (st' := [vR 8, vR 20]) rfl ?_
      refine gs_8_8 rfl A6 ?_
      refine hg_run 1 (pc' := 46) (ls' := [some (vr 8), some (vi l1), some (vr v1)]) (st' := [vI 3, vI (hI h6 8 8), vR 20]) rfl ?_
      obtain ⟨h8, e8, e⟩ := ob e
      refine hg_wIs rfl A6 (Abs_ks A6 (i := 11) rfl) (by decide) (rgn 3 rfl) e8 (fun w8 A8 => ?_)
      refine hg_run 2 (pc' := 49) (ls' := [some (vr 8), some (vi l1), some (vr v1)]) (st' := [vR 8, vR 8]) rfl ?_
      refine gs_8_8 rfl A8 ?_
      refine hg_run 2 (pc' := 54) (ls' := [some (vr 8), some (vi l1), some (vr v1)]) (st' := [vI (wadd (hI h8 8 8) 1), vR 8]) rfl ?_
      obtain ⟨h9, e9, e⟩ := ob e
      refine ps_8_8 rfl A8 (rg_add _ _) e9 (fun w9 A9 => ?_)
      refine hg_run 1 (pc' := 58) (ls' := [some (vr 8), some (vi l1), some (vr v1)]) (st' := [vR 8]) rfl ?_
      refine gs_8_8 rfl A9 ?_
      refine hg_run 2 (pc' := 63) (ls' := [some (vr 8), some (vi l1), some (vr v1)]) (st' := [vI (wsub (hI h9 8 8) 1)]) rfl ?_
      cases e
      exact hg_retI rfl (by decide) (fit_I _) (kr _ _ rfl _ (rg_sub _ _) A9)
    · refine hg_icF (tgt := 24) rfl (by decide) (Abs_rg A 8 8) (rgn 40 rfl) q4 ?_
      refine hg_run 1 (pc' := 23) (ls' := [some (vr 8), some (vi l1), some (vr v1)]) (st' := [vI (-1)]) rfl ?_
      cases e
      exact hg_retI rfl (by decide) (fit_I _) (kr _ _ rfl _ (rgn (-1) rfl) A)
def c103 (l1 : Int) (h : hS) : Option (Int) :=
  if l1 < 0 then
  some 0
  else
  if 40 ≤ l1 then
  some 0
  else
  (aRs h 19 40 l1).bind (fun v3 =>
  (gI h v3 16 1).bind (fun v4 =>
  if v4 = 0 then
  some 0
  else
  some 1))
theorem t103 {d : Nat} (hd : 1 ≤ d) {l1 : Int} {h : hS} {w : mmW} {o : Int} (A : Abs h w) (rl1 : rg l1) (e : c103 l1 h = some o) : hEv d 103 [vR 8, vI l1] w (qIp o w) := by
  obtain ⟨d, rfl⟩ : ∃ d1, d = d1 + 1 := ⟨d - 1, by omega⟩
  have hd : 0 ≤ d := by omega
  refine hEv_start (args := [vr 8, vi l1]) (nl := 2) rfl (Nat.le_of_ble_eq_true rfl) ?_
  show hG d 103 0 [some (vr 8), some (vi l1)] [] w _
  have kr : ∀ v1 : Int, o = v1 → rg v1 → qIp o w (some (.int (Int32.ofInt v1)), w) := fun v1 q r => by cases q; exact ⟨rfl, r⟩
  unfold c103 at e
  refine hg_run 1 (pc' := 1) (ls' := [some (vr 8), some (vi l1)]) (st' := [vI l1]) rfl ?_
  rcases oi e with ⟨q1, e⟩ | ⟨q1, e⟩
  · refine hg_ifT (tgt := 26) rfl (by decide) rl1 q1 ?_
    refine hg_run 1 (pc' := 27) (ls' := [some (vr 8), some (vi l1)]) (st' := [vI 0]) rfl ?_
    cases e
    exact hg_retI rfl (by decide) (fit_B (.inl rfl)) (kr _ rfl (rgn 0 rfl))
  · refine hg_ifF (tgt := 26) rfl (by decide) rl1 q1 ?_
    refine hg_run 2 (pc' := 7) (ls' := [some (vr 8), some (vi l1)]) (st' := [vI 40, vI l1]) rfl ?_
    rcases oi e with ⟨q2, e⟩ | ⟨q2, e⟩
    · refine hg_icT (tgt := 26) rfl (by decide) rl1 (rgn 40 rfl) q2 ?_
      refine hg_run 1 (pc' := 27) (ls' := [some (vr 8), some (vi l1)]) (st' := [vI 0]) rfl ?_
      cases e
      exact hg_retI rfl (by decide) (fit_B (.inl rfl)) (kr _ rfl (rgn 0 rfl))
    · refine hg_icF (tgt := 26) rfl (by decide) rl1 (rgn 40 rfl) q2 ?_
      refine hg_run 1 (pc' := 11) (ls' := [some (vr 8), some (vi l1)]) (st' := [vR 8]) rfl ?_
      refine gs_8_2 rfl A ?_
      refine hg_run 1 (pc' := 15) (ls' := [some (vr 8), some (vi l1)]) (st' := [vI l1, vR 19]) rfl ?_
      obtain ⟨v3, e3, e⟩ := ob e
      refine hg_aRs 4 rfl (fun _ _ _ _ => rfl) A (Abs_ks A (i := 10) rfl) rfl (by decide) e3 ?_
      obtain ⟨v4, e4, e⟩ := ob e
      refine gd_7_1 rfl A e4 (fun r4 => ?_)
      rcases oi e with ⟨q5, e⟩ | ⟨q5, e⟩
      · refine hg_ifT (tgt := 26) rfl (by decide) r4 q5 ?_
        refine hg_run 1 (pc' := 27) (ls' := [some (vr 8), some (vi l1)]) (st' := [vI 0]) rfl ?_
        cases e
        exact hg_retI rfl (by decide) (fit_B (.inl rfl)) (kr _ rfl (rgn 0 rfl))
      · refine hg_ifF (tgt := 26) rfl (by decide) r4 q5 ?_
        refine hg_run 2 (pc' := 27) (ls' := [some (vr 8), some (vi l1)]) (st' := [vI 1]) rfl ?_
        cases e
        exact hg_retI rfl (by decide) (fit_B (.inr rfl)) (kr _ rfl (rgn 1 rfl))
def c102 (l1 : Int) (h : hS) : Option (Int) :=
  (c103 l1 h).bind (fun v1 =>
  if v1 = 0 then
  some (-1)
  else
  (aRs h 19 40 l1).bind (fun v3 =>
  (gR h v3 16 2).bind (fun v4 =>
  (gI h v4 24 0).bind (fun v5 =>
  some v5))))
theorem t102 {d : Nat} (hd : 2 ≤ d) {l1 : Int} {h : hS} {w : mmW} {o : Int} (A : Abs h w) (rl1 : rg l1) (e : c102 l1 h = some o) : hEv d 102 [vR 8, vI l1] w (qIp o w) := by
  obtain ⟨d, rfl⟩ : ∃ d1, d = d1 + 1 := ⟨d - 1, by omega⟩
  have hd : 1 ≤ d := by omega
  refine hEv_start (args := [vr 8, vi l1]) (nl := 2) rfl (Nat.le_of_ble_eq_true rfl) ?_
  show hG d 102 0 [some (vr 8), some (vi l1)] [] w _
  have kr : ∀ v1 : Int, o = v1 → rg v1 → qIp o w (some (.int (Int32.ofInt v1)), w) := fun v1 q r => by cases q; exact ⟨rfl, r⟩
  unfold c102 at e
  refine hg_run 2 (pc' := 2) (ls' := [some (vr 8), some (vi l1)]) (st' := [vI l1, vR 8]) rfl ?_
  obtain ⟨v1, e1, e⟩ := ob e
  refine hg_cIp (as := [vR 8, vI l1]) (st' := []) rfl (fun _ _ _ _ => rfl) rfl rfl (Nat.le_of_ble_eq_true rfl) (Nat.le_of_ble_eq_true rfl) (recvV A (a := 0) (Abs_ks A (i := 0) rfl).1) (t103 (by omega) A rl1 e1) (fun r1 => ?_)
  rcases oi e with ⟨q2, e⟩ | ⟨q2, e⟩
  · refine hg_ifT (tgt := 23) rfl (by decide) r1 q2 ?_
    refine hg_run 1 (pc' := 24) (ls' := [some (vr 8), some (vi l1)]) (st' := [vI (-1)]) rfl ?_
    cases e
    exact hg_retI rfl (by decide) (fit_I _) (kr _ rfl (rgn (-1) rfl))
  · refine hg_ifF (tgt := 23) rfl (by decide) r1 q2 ?_
    refine hg_run 1 (pc' := 9) (ls' := [some (vr 8), some (vi l1)]) (st' := [vR 8]) rfl ?_
    refine gs_8_2 rfl A ?_
    refine hg_run 1 (pc' := 13) (ls' := [some (vr 8), some (vi l1)]) (st' := [vI l1, vR 19]) rfl ?_
    obtain ⟨v3, e3, e⟩ := ob e
    refine hg_aRs 4 rfl (fun _ _ _ _ => rfl) A (Abs_ks A (i := 10) rfl) rfl (by decide) e3 ?_
    obtain ⟨v4, e4, e⟩ := ob e
    refine gd_7_2 rfl A e4 ?_
    obtain ⟨v5, e5, e⟩ := ob e
    refine gd_11_0 rfl A e5 (fun r5 => ?_)
    refine hg_run 1 (pc' := 24) (ls' := [some (vr 8), some (vi l1)]) (st' := [vI v5]) rfl ?_
    cases e
    exact hg_retI rfl (by decide) (fit_I _) (kr _ rfl r5)
def c104 (l1 : Int) (h : hS) : Option (Int) :=
  (c103 l1 h).bind (fun v1 =>
  if v1 = 0 then
  some (-1)
  else
  (aRs h 19 40 l1).bind (fun v3 =>
  (gR h v3 16 2).bind (fun v4 =>
  (gI h v4 24 2).bind (fun v5 =>
  some v5))))
theorem t104 {d : Nat} (hd : 2 ≤ d) {l1 : Int} {h : hS} {w : mmW} {o : Int} (A : Abs h w) (rl1 : rg l1) (e : c104 l1 h = some o) : hEv d 104 [vR 8, vI l1] w (qIp o w) := by
  obtain ⟨d, rfl⟩ : ∃ d1, d = d1 + 1 := ⟨d - 1, by omega⟩
  have hd : 1 ≤ d := by omega
  refine hEv_start (args := [vr 8, vi l1]) (nl := 2) rfl (Nat.le_of_ble_eq_true rfl) ?_
  show hG d 104 0 [some (vr 8), some (vi l1)] [] w _
  have kr : ∀ v1 : Int, o = v1 → rg v1 → qIp o w (some (.int (Int32.ofInt v1)), w) := fun v1 q r => by cases q; exact ⟨rfl, r⟩
  unfold c104 at e
  refine hg_run 2 (pc' := 2) (ls' := [some (vr 8), some (vi l1)]) (st' := [vI l1, vR 8]) rfl ?_
  obtain ⟨v1, e1, e⟩ := ob e
  refine hg_cIp (as := [vR 8, vI l1]) (st' := []) rfl (fun _ _ _ _ => rfl) rfl rfl (Nat.le_of_ble_eq_true rfl) (Nat.le_of_ble_eq_true rfl) (recvV A (a := 0) (Abs_ks A (i := 0) rfl).1) (t103 (by omega) A rl1 e1) (fun r1 => ?_)
  rcases oi e with ⟨q2, e⟩ | ⟨q2, e⟩
  · refine hg_ifT (tgt := 23) rfl (by decide) r1 q2 ?_
    refine hg_run 1 (pc' := 24) (ls' := [some (vr 8), some (vi l1)]) (st' := [vI (-1)]) rfl ?_
    cases e
    exact hg_retI rfl (by decide) (fit_I _) (kr _ rfl (rgn (-1) rfl))
  · refine hg_ifF (tgt := 23) rfl (by decide) r1 q2 ?_
    refine hg_run 1 (pc' := 9) (ls' := [some (vr 8), some (vi l1)]) (st' := [vR 8]) rfl ?_
    refine gs_8_2 rfl A ?_
    refine hg_run 1 (pc' := 13) (ls' := [some (vr 8), some (vi l1)]) (st' := [vI l1, vR 19]) rfl ?_
    obtain ⟨v3, e3, e⟩ := ob e
    refine hg_aRs 4 rfl (fun _ _ _ _ => rfl) A (Abs_ks A (i := 10) rfl) rfl (by decide) e3 ?_
    obtain ⟨v4, e4, e⟩ := ob e
    refine gd_7_2 rfl A e4 ?_
    obtain ⟨v5, e5, e⟩ := ob e
    refine gd_11_2 rfl A e5 (fun r5 => ?_)
    refine hg_run 1 (pc' := 24) (ls' := [some (vr 8), some (vi l1)]) (st' := [vI v5]) rfl ?_
    cases e
    exact hg_retI rfl (by decide) (fit_I _) (kr _ rfl r5)
def c106 (l0 : Nat) (l1 : Int) (h : hS) : Option (Int) :=
  if l1 < 0 then
  some 0
  else
  if 40 ≤ l1 then
  some 0
  else
  (gR h l0 24 14).bind (fun v3 =>
  (aI h v3 3 l1).bind (fun v4 =>
  if v4 = 0 then
  some 0
  else
  some 1))
theorem t106 {d : Nat} (hd : 1 ≤ d) {l0 : Nat} {l1 : Int} {h : hS} {w : mmW} {o : Int} (A : Abs h w) (rl1 : rg l1) (e : c106 l0 l1 h = some o) : hEv d 106 [vR l0, vI l1] w (qIp o w) := by
  obtain ⟨d, rfl⟩ : ∃ d1, d = d1 + 1 := ⟨d - 1, by omega⟩
  have hd : 0 ≤ d := by omega
  refine hEv_start (args := [vr l0, vi l1]) (nl := 2) rfl (Nat.le_of_ble_eq_true rfl) ?_
  show hG d 106 0 [some (vr l0), some (vi l1)] [] w _
  have kr : ∀ v1 : Int, o = v1 → rg v1 → qIp o w (some (.int (Int32.ofInt v1)), w) := fun v1 q r => by cases q; exact ⟨rfl, r⟩
  unfold c106 at e
  refine hg_run 1 (pc' := 1) (ls' := [some (vr l0), some (vi l1)]) (st' := [vI l1]) rfl ?_
  rcases oi e with ⟨q1, e⟩ | ⟨q1, e⟩
  · refine hg_ifT (tgt := 23) rfl (by decide) rl1 q1 ?_
    refine hg_run 1 (pc' := 24) (ls' := [some (vr l0), some (vi l1)]) (st' := [vI 0]) rfl ?_
    cases e
    exact hg_retI rfl (by decide) (fit_B (.inl rfl)) (kr _ rfl (rgn 0 rfl))
  · refine hg_ifF (tgt := 23) rfl (by decide) rl1 q1 ?_
    refine hg_run 2 (pc' := 7) (ls' := [some (vr l0), some (vi l1)]) (st' := [vI 40, vI l1]) rfl ?_
    rcases oi e with ⟨q2, e⟩ | ⟨q2, e⟩
    · refine hg_icT (tgt := 23) rfl (by decide) rl1 (rgn 40 rfl) q2 ?_
      refine hg_run 1 (pc' := 24) (ls' := [some (vr l0), some (vi l1)]) (st' := [vI 0]) rfl ?_
      cases e
      exact hg_retI rfl (by decide) (fit_B (.inl rfl)) (kr _ rfl (rgn 0 rfl))
    · refine hg_icF (tgt := 23) rfl (by decide) rl1 (rgn 40 rfl) q2 ?_
      refine hg_run 1 (pc' := 11) (ls' := [some (vr l0), some (vi l1)]) (st' := [vR l0]) rfl ?_
      obtain ⟨v3, e3, e⟩ := ob e
      refine gd_11_14 rfl A e3 ?_
      refine hg_run 1 (pc' := 15) (ls' := [some (vr l0), some (vi l1)]) (st' := [vI l1, vR v3]) rfl ?_
      obtain ⟨v4, e4, e⟩ := ob e
      refine hg_aId 1 rfl (fun _ _ _ _ => rfl) A rfl (by decide) e4 (fun r4 => ?_)
      rcases oi e with ⟨q5, e⟩ | ⟨q5, e⟩
      · refine hg_ifT (tgt := 23) rfl (by decide) r4 q5 ?_
        refine hg_run 1 (pc' := 24) (ls' := [some (vr l0), some (vi l1)]) (st' := [vI 0]) rfl ?_
        cases e
        exact hg_retI rfl (by decide) (fit_B (.inl rfl)) (kr _ rfl (rgn 0 rfl))
      · refine hg_ifF (tgt := 23) rfl (by decide) r4 q5 ?_
        refine hg_run 2 (pc' := 24) (ls' := [some (vr l0), some (vi l1)]) (st' := [vI 1]) rfl ?_
        cases e
        exact hg_retI rfl (by decide) (fit_B (.inr rfl)) (kr _ rfl (rgn 1 rfl))
def c105 (l1 : Int) (l2 : Int) (h : hS) : Option (Int) :=
  (c103 l1 h).bind (fun v1 =>
  if v1 = 0 then
  some 0
  else
  (aRs h 19 40 l1).bind (fun v3 =>
  (gR h v3 16 2).bind (fun v4 =>
  (kT h v4 24).bind (fun u6 =>
  (c106 v4 l2 h).bind (fun v5 =>
  if v5 = 0 then
  some 0
  else
  some 1)))))
theorem t105 {d : Nat} (hd : 2 ≤ d) {l1 : Int} {l2 : Int} {h : hS} {w : mmW} {o : Int} (A : Abs h w) (rl1 : rg l1) (rl2 : rg l2) (e : c105 l1 l2 h = some o) : hEv d 105 [vR 8, vI l1, vI l2] w (qIp o w) := by
  obtain ⟨d, rfl⟩ : ∃ d1, d = d1 + 1 := ⟨d - 1, by omega⟩
  have hd : 1 ≤ d := by omega
  refine hEv_start (args := [vr 8, vi l1, vi l2]) (nl := 3) rfl (Nat.le_of_ble_eq_true rfl) ?_
  show hG d 105 0 [some (vr 8), some (vi l1), some (vi l2)] [] w _
  have kr : ∀ v1 : Int, o = v1 → rg v1 → qIp o w (some (.int (Int32.ofInt v1)), w) := fun v1 q r => by cases q; exact ⟨rfl, r⟩
  unfold c105 at e
  refine hg_run 2 (pc' := 2) (ls' := [some (vr 8), some (vi l1), some (vi l2)]) (st' := [vI l1, vR 8]) rfl ?_
  obtain ⟨v1, e1, e⟩ := ob e
  refine hg_cIp (as := [vR 8, vI l1]) (st' := []) rfl (fun _ _ _ _ => rfl) rfl rfl (Nat.le_of_ble_eq_true rfl) (Nat.le_of_ble_eq_true rfl) (recvV A (a := 0) (Abs_ks A (i := 0) rfl).1) (t103 (by omega) A rl1 e1) (fun r1 => ?_)
  rcases oi e with ⟨q2, e⟩ | ⟨q2, e⟩
  · refine hg_ifT (tgt := 28) rfl (by decide) r1 q2 ?_
    refine hg_run 1 (pc' := 29) (ls' := [some (vr 8), some (vi l1), some (vi l2)]) (st' := [vI 0]) rfl ?_
    cases e
    exact hg_retI rfl (by decide) (fit_B (.inl rfl)) (kr _ rfl (rgn 0 rfl))
  · refine hg_ifF (tgt := 28) rfl (by decide) r1 q2 ?_
    refine hg_run 1 (pc' := 9) (ls' := [some (vr 8), some (vi l1), some (vi l2)]) (st' := [vR 8]) rfl ?_
    refine gs_8_2 rfl A ?_
    refine hg_run 1 (pc' := 13) (ls' := [some (vr 8), some (vi l1), some (vi l2)]) (st' := [vI l1, vR 19]) rfl ?_
    obtain ⟨v3, e3, e⟩ := ob e
    refine hg_aRs 4 rfl (fun _ _ _ _ => rfl) A (Abs_ks A (i := 10) rfl) rfl (by decide) e3 ?_
    obtain ⟨v4, e4, e⟩ := ob e
    refine gd_7_2 rfl A e4 ?_
    refine hg_run 1 (pc' := 18) (ls' := [some (vr 8), some (vi l1), some (vi l2)]) (st' := [vI l2, vR v4]) rfl ?_
    obtain ⟨u6, e6, e⟩ := ob e
    obtain ⟨v5, e5, e⟩ := ob e
    refine hg_cIp (as := [vR v4, vI l2]) (st' := []) rfl (fun _ _ _ _ => rfl) rfl rfl (Nat.le_of_ble_eq_true rfl) (Nat.le_of_ble_eq_true rfl) (recvV A (a := 11) (kT_e e6)) (t106 (by omega) A rl2 e5) (fun r5 => ?_)
    rcases oi e with ⟨q7, e⟩ | ⟨q7, e⟩
    · refine hg_ifT (tgt := 28) rfl (by decide) r5 q7 ?_
      refine hg_run 1 (pc' := 29) (ls' := [some (vr 8), some (vi l1), some (vi l2)]) (st' := [vI 0]) rfl ?_
      cases e
      exact hg_retI rfl (by decide) (fit_B (.inl rfl)) (kr _ rfl (rgn 0 rfl))
    · refine hg_ifF (tgt := 28) rfl (by decide) r5 q7 ?_
      refine hg_run 2 (pc' := 29) (ls' := [some (vr 8), some (vi l1), some (vi l2)]) (st' := [vI 1]) rfl ?_
      cases e
      exact hg_retI rfl (by decide) (fit_B (.inr rfl)) (kr _ rfl (rgn 1 rfl))
def c108 (l0 : Int) (h : hS) : Option (Int) :=
  if l0 < 0 then
  some 0
  else
  if 40 ≤ l0 then
  some 0
  else
  some 1
theorem t108 {d : Nat} (hd : 1 ≤ d) {l0 : Int} {h : hS} {w : mmW} {o : Int} (A : Abs h w) (rl0 : rg l0) (e : c108 l0 h = some o) : hEv d 108 [vI l0] w (qIp o w) := by
  obtain ⟨d, rfl⟩ : ∃ d1, d = d1 + 1 := ⟨d - 1, by omega⟩
  have hd : 0 ≤ d := by omega
  refine hEv_start (args := [vi l0]) (nl := 1) rfl (Nat.le_of_ble_eq_true rfl) ?_
  show hG d 108 0 [some (vi l0)] [] w _
  have kr : ∀ v1 : Int, o = v1 → rg v1 → qIp o w (some (.int (Int32.ofInt v1)), w) := fun v1 q r => by cases q; exact ⟨rfl, r⟩
  unfold c108 at e
  refine hg_run 1 (pc' := 1) (ls' := [some (vi l0)]) (st' := [vI l0]) rfl ?_
  rcases oi e with ⟨q1, e⟩ | ⟨q1, e⟩
  · refine hg_ifT (tgt := 14) rfl (by decide) rl0 q1 ?_
    refine hg_run 1 (pc' := 15) (ls' := [some (vi l0)]) (st' := [vI 0]) rfl ?_
    cases e
    exact hg_retI rfl (by decide) (fit_B (.inl rfl)) (kr _ rfl (rgn 0 rfl))
  · refine hg_ifF (tgt := 14) rfl (by decide) rl0 q1 ?_
    refine hg_run 2 (pc' := 7) (ls' := [some (vi l0)]) (st' := [vI 40, vI l0]) rfl ?_
    rcases oi e with ⟨q2, e⟩ | ⟨q2, e⟩
    · refine hg_icT (tgt := 14) rfl (by decide) rl0 (rgn 40 rfl) q2 ?_
      refine hg_run 1 (pc' := 15) (ls' := [some (vi l0)]) (st' := [vI 0]) rfl ?_
      cases e
      exact hg_retI rfl (by decide) (fit_B (.inl rfl)) (kr _ rfl (rgn 0 rfl))
    · refine hg_icF (tgt := 14) rfl (by decide) rl0 (rgn 40 rfl) q2 ?_
      refine hg_run 2 (pc' := 15) (ls' := [some (vi l0)]) (st' := [vI 1]) rfl ?_
      cases e
      exact hg_retI rfl (by decide) (fit_B (.inr rfl)) (kr _ rfl (rgn 1 rfl))
def c107 (l1 : Int) (l2 : Int) (h : hS) : Option (Int) :=
  (c103 l1 h).bind (fun v1 =>
  if v1 = 0 then
  some 0
  else
  (c108 l2 h).bind (fun v3 =>
  if v3 = 0 then
  some 0
  else
  (aRs h 19 40 l1).bind (fun v5 =>
  (gR h v5 16 2).bind (fun v6 =>
  (kT h v6 24).bind (fun u8 =>
  (c106 v6 l2 h).bind (fun v7 =>
  if v7 = 0 then
  (gR h v5 16 4).bind (fun v10 =>
  (aI h v10 3 l2).bind (fun v11 =>
  if v11 = 0 then
  some 0
  else
  (gR h v5 16 5).bind (fun v13 =>
  (aI h v13 1 l2).bind (fun v14 =>
  some v14))))
  else
  (gR h v5 16 3).bind (fun v15 =>
  (aI h v15 1 l2).bind (fun v16 =>
  some v16))))))))
theorem t107 {d : Nat} (hd : 2 ≤ d) {l1 : Int} {l2 : Int} {h : hS} {w : mmW} {o : Int} (A : Abs h w) (rl1 : rg l1) (rl2 : rg l2) (e : c107 l1 l2 h = some o) : hEv d 107 [vR 8, vI l1, vI l2] w (qIp o w) := by
  obtain ⟨d, rfl⟩ : ∃ d1, d = d1 + 1 := ⟨d - 1, by omega⟩
  have hd : 1 ≤ d := by omega
  refine hEv_start (args := [vr 8, vi l1, vi l2]) (nl := 4) rfl (Nat.le_of_ble_eq_true rfl) ?_
  show hG d 107 0 [some (vr 8), some (vi l1), some (vi l2), none] [] w _
  have kr : ∀ v1 : Int, o = v1 → rg v1 → qIp o w (some (.int (Int32.ofInt v1)), w) := fun v1 q r => by cases q; exact ⟨rfl, r⟩
  unfold c107 at e
  refine hg_run 2 (pc' := 2) (ls' := [some (vr 8), some (vi l1), some (vi l2), none]) (st' := [vI l1, vR 8]) rfl ?_
  obtain ⟨v1, e1, e⟩ := ob e
  refine hg_cIp (as := [vR 8, vI l1]) (st' := []) rfl (fun _ _ _ _ => rfl) rfl rfl (Nat.le_of_ble_eq_true rfl) (Nat.le_of_ble_eq_true rfl) (recvV A (a := 0) (Abs_ks A (i := 0) rfl).1) (t103 (by omega) A rl1 e1) (fun r1 => ?_)
  rcases oi e with ⟨q2, e⟩ | ⟨q2, e⟩
  · refine hg_ifT (tgt := 15) rfl (by decide) r1 q2 ?_
    refine hg_run 1 (pc' := 16) (ls' := [some (vr 8), some (vi l1), some (vi l2), none]) (st' := [vI 0]) rfl ?_
    cases e
    exact hg_retI rfl (by decide) (fit_I _) (kr _ rfl (rgn 0 rfl))
  · refine hg_ifF (tgt := 15) rfl (by decide) r1 q2 ?_
    refine hg_run 1 (pc' := 9) (ls' := [some (vr 8), some (vi l1), some (vi l2), none]) (st' := [vI l2]) rfl ?_
    obtain ⟨v3, e3, e⟩ := ob e
    refine hg_cIp (as := [vI l2]) (st' := []) rfl (fun _ _ _ _ => rfl) rfl rfl (Nat.le_of_ble_eq_true rfl) (Nat.le_of_ble_eq_true rfl) recv0 (t108 (by omega) A rl2 e3) (fun r3 => ?_)
    rcases oi e with ⟨q4, e⟩ | ⟨q4, e⟩
    · refine hg_ifF (tgt := 17) rfl (by decide) r3 (show ¬ ¬ (v3 = 0) from fun f => f q4) ?_
      refine hg_run 1 (pc' := 16) (ls' := [some (vr 8), some (vi l1), some (vi l2), none]) (st' := [vI 0]) rfl ?_
      cases e
      exact hg_retI rfl (by decide) (fit_I _) (kr _ rfl (rgn 0 rfl))
    · refine hg_ifT (tgt := 17) rfl (by decide) r3 (show ¬ (v3 = 0) from q4) ?_
      refine hg_run 1 (pc' := 18) (ls' := [some (vr 8), some (vi l1), some (vi l2), none]) (st' := [vR 8]) rfl ?_
      refine gs_8_2 rfl A ?_
      refine hg_run 1 (pc' := 22) (ls' := [some (vr 8), some (vi l1), some (vi l2), none]) (st' := [vI l1, vR 19]) rfl ?_
      obtain ⟨v5, e5, e⟩ := ob e
      refine hg_aRs 4 rfl (fun _ _ _ _ => rfl) A (Abs_ks A (i := 10) rfl) rfl (by decide) e5 ?_
      refine hg_run 2 (pc' := 25) (ls' := [some (vr 8), some (vi l1), some (vi l2), some (vr v5)]) (st' := [vR v5]) rfl ?_
      obtain ⟨v6, e6, e⟩ := ob e
      refine gd_7_2 rfl A e6 ?_
      refine hg_run 1 (pc' := 29) (ls' := [some (vr 8), some (vi l1), some (vi l2), some (vr v5)]) (st' := [vI l2, vR v6]) rfl ?_
      obtain ⟨u8, e8, e⟩ := ob e
      obtain ⟨v7, e7, e⟩ := ob e
      refine hg_cIp (as := [vR v6, vI l2]) (st' := []) rfl (fun _ _ _ _ => rfl) rfl rfl (Nat.le_of_ble_eq_true rfl) (Nat.le_of_ble_eq_true rfl) (recvV A (a := 11) (kT_e e8)) (t106 (by omega) A rl2 e7) (fun r7 => ?_)
      rcases oi e with ⟨q9, e⟩ | ⟨q9, e⟩
      · refine hg_ifT (tgt := 42) rfl (by decide) r7 q9 ?_
        refine hg_run 1 (pc' := 43) (ls' := [some (vr 8), some (vi l1), some (vi l2), some (vr v5)]) (st' := [vR v5]) rfl ?_
        obtain ⟨v10, e10, e⟩ := ob e
        refine gd_7_4 rfl A e10 ?_
        refine hg_run 1 (pc' := 47) (ls' := [some (vr 8), some (vi l1), some (vi l2), some (vr v5)]) (st' := [vI l2, vR v10]) rfl ?_
        obtain ⟨v11, e11, e⟩ := ob e
        refine hg_aId 1 rfl (fun _ _ _ _ => rfl) A rfl (by decide) e11 (fun r11 => ?_)
        rcases oi e with ⟨q12, e⟩ | ⟨q12, e⟩
        · refine hg_ifT (tgt := 60) rfl (by decide) r11 q12 ?_
          refine hg_run 1 (pc' := 61) (ls' := [some (vr 8), some (vi l1), some (vi l2), some (vr v5)]) (st' := [vI 0]) rfl ?_
          cases e
          exact hg_retI rfl (by decide) (fit_I _) (kr _ rfl (rgn 0 rfl))
        · refine hg_ifF (tgt := 60) rfl (by decide) r11 q12 ?_
          refine hg_run 1 (pc' := 52) (ls' := [some (vr 8), some (vi l1), some (vi l2), some (vr v5)]) (st' := [vR v5]) rfl ?_
          obtain ⟨v13, e13, e⟩ := ob e
          refine gd_7_5 rfl A e13 ?_
          refine hg_run 1 (pc' := 56) (ls' := [some (vr 8), some (vi l1), some (vi l2), some (vr v5)]) (st' := [vI l2, vR v13]) rfl ?_
          obtain ⟨v14, e14, e⟩ := ob e
          refine hg_aId 0 rfl (fun _ _ _ _ => rfl) A rfl (by decide) e14 (fun r14 => ?_)
          refine hg_run 1 (pc' := 61) (ls' := [some (vr 8), some (vi l1), some (vi l2), some (vr v5)]) (st' := [vI v14]) rfl ?_
          cases e
          exact hg_retI rfl (by decide) (fit_I _) (kr _ rfl r14)
      · refine hg_ifF (tgt := 42) rfl (by decide) r7 q9 ?_
        refine hg_run 1 (pc' := 36) (ls' := [some (vr 8), some (vi l1), some (vi l2), some (vr v5)]) (st' := [vR v5]) rfl ?_
        obtain ⟨v15, e15, e⟩ := ob e
        refine gd_7_3 rfl A e15 ?_
        refine hg_run 1 (pc' := 40) (ls' := [some (vr 8), some (vi l1), some (vi l2), some (vr v5)]) (st' := [vI l2, vR v15]) rfl ?_
        obtain ⟨v16, e16, e⟩ := ob e
        refine hg_aId 0 rfl (fun _ _ _ _ => rfl) A rfl (by decide) e16 (fun r16 => ?_)
        cases e
        exact hg_retI rfl (by decide) (fit_I _) (kr _ rfl r16)
def c109 (l1 : Int) (l2 : Int) (l3 : Int) (h : hS) : Option (Int × hS) :=
  (c103 l1 h).bind (fun v1 =>
  if v1 = 0 then
  some (0, h)
  else
  (aRs h 19 40 l1).bind (fun v3 =>
  (gR h v3 16 2).bind (fun v4 =>
  (kT h v4 24).bind (fun u6 =>
  (c106 v4 l2 h).bind (fun v5 =>
  if v5 = 0 then
  some (0, h)
  else
  (aRs h 19 40 l1).bind (fun v8 =>
  (gR h v8 16 3).bind (fun v9 =>
  (wI h v9 1 l2 l3).bind (fun h10 =>
  some (1, h10)))))))))
theorem t109 {d : Nat} (hd : 2 ≤ d) {l1 : Int} {l2 : Int} {l3 : Int} {h : hS} {w : mmW} {o : Int × hS} (A : Abs h w) (rl1 : rg l1) (rl2 : rg l2) (rl3 : rg l3) (e : c109 l1 l2 l3 h = some o) : hEv d 109 [vR 8, vI l1, vI l2, vI l3] w (qI o) := by
  obtain ⟨d, rfl⟩ : ∃ d1, d = d1 + 1 := ⟨d - 1, by omega⟩
  have hd : 1 ≤ d := by omega
  refine hEv_start (args := [vr 8, vi l1, vi l2, vi l3]) (nl := 4) rfl (Nat.le_of_ble_eq_true rfl) ?_
  show hG d 109 0 [some (vr 8), some (vi l1), some (vi l2), some (vi l3)] [] w _
  have kr : ∀ (v1 : Int) (h1 : hS), o = (v1, h1) → ∀ w', rg v1 → Abs h1 w' → qI o (some (.int (Int32.ofInt v1)), w') := fun v1 h1 q w' r A' => by cases q; exact ⟨rfl, r, A'⟩
  unfold c109 at e
  refine hg_run 2 (pc' := 2) (ls' := [some (vr 8), some (vi l1), some (vi l2), some (vi l3)]) (st' := [vI l1, vR 8]) rfl ?_
  obtain ⟨v1, e1, e⟩ := ob e
  refine hg_cIp (as := [vR 8, vI l1]) (st' := []) rfl (fun _ _ _ _ => rfl) rfl rfl (Nat.le_of_ble_eq_true rfl) (Nat.le_of_ble_eq_true rfl) (recvV A (a := 0) (Abs_ks A (i := 0) rfl).1) (t103 (by omega) A rl1 e1) (fun r1 => ?_)
  rcases oi e with ⟨q2, e⟩ | ⟨q2, e⟩
  · refine hg_ifT (tgt := 24) rfl (by decide) r1 q2 ?_
    refine hg_run 1 (pc' := 25) (ls' := [some (vr 8), some (vi l1), some (vi l2), some (vi l3)]) (st' := [vI 0]) rfl ?_
    cases e
    exact hg_retI rfl (by decide) (fit_B (.inl rfl)) (kr _ _ rfl _ (rgn 0 rfl) A)
  · refine hg_ifF (tgt := 24) rfl (by decide) r1 q2 ?_
    refine hg_run 1 (pc' := 9) (ls' := [some (vr 8), some (vi l1), some (vi l2), some (vi l3)]) (st' := [vR 8]) rfl ?_
    refine gs_8_2 rfl A ?_
    refine hg_run 1 (pc' := 13) (ls' := [some (vr 8), some (vi l1), some (vi l2), some (vi l3)]) (st' := [vI l1, vR 19]) rfl ?_
    obtain ⟨v3, e3, e⟩ := ob e
    refine hg_aRs 4 rfl (fun _ _ _ _ => rfl) A (Abs_ks A (i := 10) rfl) rfl (by decide) e3 ?_
    obtain ⟨v4, e4, e⟩ := ob e
    refine gd_7_2 rfl A e4 ?_
    refine hg_run 1 (pc' := 18) (ls' := [some (vr 8), some (vi l1), some (vi l2), some (vi l3)]) (st' := [vI l2, vR v4]) rfl ?_
    obtain ⟨u6, e6, e⟩ := ob e
    obtain ⟨v5, e5, e⟩ := ob e
    refine hg_cIp (as := [vR v4, vI l2]) (st' := []) rfl (fun _ _ _ _ => rfl) rfl rfl (Nat.le_of_ble_eq_true rfl) (Nat.le_of_ble_eq_true rfl) (recvV A (a := 11) (kT_e e6)) (t106 (by omega) A rl2 e5) (fun r5 => ?_)
    rcases oi e with ⟨q7, e⟩ | ⟨q7, e⟩
    · refine hg_ifF (tgt := 26) rfl (by decide) r5 (show ¬ ¬ (v5 = 0) from fun f => f q7) ?_
      refine hg_run 1 (pc' := 25) (ls' := [some (vr 8), some (vi l1), some (vi l2), some (vi l3)]) (st' := [vI 0]) rfl ?_
      cases e
      exact hg_retI rfl (by decide) (fit_B (.inl rfl)) (kr _ _ rfl _ (rgn 0 rfl) A)
    · refine hg_ifT (tgt := 26) rfl (by decide) r5 (show ¬ (v5 = 0) from q7) ?_
      refine hg_run 1 (pc' := 27) (ls' := [some (vr 8), some (vi l1), some (vi l2), some (vi l3)]) (st' := [vR 8]) rfl ?_
      refine gs_8_2 rfl A ?_
      refine hg_run 1 (pc' := 31) (ls' := [some (vr 8), some (vi l1), some (vi l2), some (vi l3)]) (st' := [vI l1, vR 19]) rfl ?_
      obtain ⟨v8, e8, e⟩ := ob e
      refine hg_aRs 4 rfl (fun _ _ _ _ => rfl) A (Abs_ks A (i := 10) rfl) rfl (by decide) e8 ?_
      obtain ⟨v9, e9, e⟩ := ob e
      refine gd_7_3 rfl A e9 ?_
      refine hg_run 2 (pc' := 37) (ls' := [some (vr 8), some (vi l1), some (vi l2), some (vi l3)]) (st' := [vI l3, vI l2, vR v9]) rfl ?_
      obtain ⟨h10, e10, e⟩ := ob e
      refine hg_wId rfl A rl3 e10 (fun w10 A10 => ?_)
      refine hg_run 1 (pc' := 39) (ls' := [some (vr 8), some (vi l1), some (vi l2), some (vi l3)]) (st' := [vI 1]) rfl ?_
      cases e
      exact hg_retI rfl (by decide) (fit_B (.inr rfl)) (kr _ _ rfl _ (rgn 1 rfl) A10)
def c111_j19  : Option (Nat) :=
  some 0
theorem t111_j19 {d : Nat} (hd : 0 ≤ d)  {z0 : Option hO} {z1 : Option hO} {h : hS} {w : mmW} {o : Nat} {Q : mmO → Prop}  (A : Abs h w) (e : c111_j19  = some o) (kr : ∀ v1 : Nat, o = v1 → Q (some (rv v1), w)) : hG d 111 19 [z0, z1] [] w Q := by
  unfold c111_j19 at e
  refine hg_run 1 (pc' := 20) (ls' := [z0, z1]) (st' := [vR 0]) rfl ?_
  cases e
  exact hg_retR rfl (kr _ rfl)
def c111 (l0 : Nat) (l1 : Int) (h : hS) : Option (Nat) :=
  if l1 < 0 then
  c111_j19 
  else
  if 40 ≤ l1 then
  c111_j19 
  else
  (gR h l0 24 15).bind (fun v3 =>
  (aR h v3 17 l1).bind (fun v4 =>
  some v4))
theorem t111 {d : Nat} (hd : 1 ≤ d) {l0 : Nat} {l1 : Int} {h : hS} {w : mmW} {o : Nat} (A : Abs h w) (rl1 : rg l1) (e : c111 l0 l1 h = some o) : hEv d 111 [vR l0, vI l1] w (qRp o w) := by
  obtain ⟨d, rfl⟩ : ∃ d1, d = d1 + 1 := ⟨d - 1, by omega⟩
  have hd : 0 ≤ d := by omega
  refine hEv_start (args := [vr l0, vi l1]) (nl := 2) rfl (Nat.le_of_ble_eq_true rfl) ?_
  show hG d 111 0 [some (vr l0), some (vi l1)] [] w _
  have kr : ∀ v1 : Nat, o = v1 → qRp o w (some (rv v1), w) := fun v1 q => by cases q; rfl
  unfold c111 at e
  refine hg_run 1 (pc' := 1) (ls' := [some (vr l0), some (vi l1)]) (st' := [vI l1]) rfl ?_
  rcases oi e with ⟨q1, e⟩ | ⟨q1, e⟩
  · refine hg_ifT (tgt := 19) rfl (by decide) rl1 q1 ?_
    exact t111_j19 hd  A e kr
  · refine hg_ifF (tgt := 19) rfl (by decide) rl1 q1 ?_
    refine hg_run 2 (pc' := 7) (ls' := [some (vr l0), some (vi l1)]) (st' := [vI 40, vI l1]) rfl ?_
    rcases oi e with ⟨q2, e⟩ | ⟨q2, e⟩
    · refine hg_icT (tgt := 19) rfl (by decide) rl1 (rgn 40 rfl) q2 ?_
      exact t111_j19 hd  A e kr
    · refine hg_icF (tgt := 19) rfl (by decide) rl1 (rgn 40 rfl) q2 ?_
      refine hg_run 1 (pc' := 11) (ls' := [some (vr l0), some (vi l1)]) (st' := [vR l0]) rfl ?_
      obtain ⟨v3, e3, e⟩ := ob e
      refine gd_11_15 rfl A e3 ?_
      refine hg_run 1 (pc' := 15) (ls' := [some (vr l0), some (vi l1)]) (st' := [vI l1, vR v3]) rfl ?_
      obtain ⟨v4, e4, e⟩ := ob e
      refine hg_aRd 8 rfl (fun _ _ _ _ => rfl) A rfl (by decide) e4 ?_
      refine hg_run 1 (pc' := 20) (ls' := [some (vr l0), some (vi l1)]) (st' := [vR v4]) rfl ?_
      cases e
      exact hg_retR rfl (kr _ rfl)
def c110_j22 (s0 : Nat) (l2 : Int) (l3 : Nat) (h : hS) : Option (Int) :=
  (hnul s0).bind (fun b6 =>
  if b6 = true then
  some 0
  else
  (gR h s0 24 10).bind (fun v7 =>
  (gR h l3 24 16).bind (fun v8 =>
  (aI h v8 1 l2).bind (fun v9 =>
  (aI h v7 1 v9).bind (fun v10 =>
  some v10)))))
theorem t110_j22 {d : Nat} (hd : 1 ≤ d) {s0 : Nat} {l2 : Int} {l3 : Nat} {z1 : Option hO} {z4 : Option hO} {h : hS} {w : mmW} {o : Int} {Q : mmO → Prop} (rl2 : rg l2) (A : Abs h w) (e : c110_j22 s0 l2 l3 h = some o) (kr : ∀ v1 : Int, o = v1 → rg v1 → Q (some (.int (Int32.ofInt v1)), w)) : hG d 110 22 [some (vr 8), z1, some (vi l2), some (vr l3), z4] [vR s0] w Q := by
  unfold c110_j22 at e
  refine hg_run 2 (pc' := 26) (ls' := [some (vr 8), z1, some (vi l2), some (vr l3), some (vr s0)]) (st' := [vR s0]) rfl ?_
  obtain ⟨b6, e6, e⟩ := ob e
  rcases oi e with ⟨q6, e⟩ | ⟨q6, e⟩
  · refine hg_nul (yes := false) (tgt := 33) (t2 := 29) rfl (fun _ _ _ _ => rfl) (by decide) (ebT e6 q6) rfl ?_
    refine hg_run 2 (pc' := 45) (ls' := [some (vr 8), z1, some (vi l2), some (vr l3), some (vr s0)]) (st' := [vI 0]) rfl ?_
    cases e
    exact hg_retI rfl (by decide) (fit_I _) (kr _ rfl (rgn 0 rfl))
  · refine hg_nul (yes := false) (tgt := 33) (t2 := 33) rfl (fun _ _ _ _ => rfl) (by decide) (ebF e6 q6) rfl ?_
    refine hg_run 1 (pc' := 35) (ls' := [some (vr 8), z1, some (vi l2), some (vr l3), some (vr s0)]) (st' := [vR s0]) rfl ?_
    obtain ⟨v7, e7, e⟩ := ob e
    refine gd_11_10 rfl A e7 ?_
    refine hg_run 1 (pc' := 39) (ls' := [some (vr 8), z1, some (vi l2), some (vr l3), some (vr s0)]) (st' := [vR l3, vR v7]) rfl ?_
    obtain ⟨v8, e8, e⟩ := ob e
    refine gd_11_16 rfl A e8 ?_
    refine hg_run 1 (pc' := 43) (ls' := [some (vr 8), z1, some (vi l2), some (vr l3), some (vr s0)]) (st' := [vI l2, vR v8, vR v7]) rfl ?_
    obtain ⟨v9, e9, e⟩ := ob e
    refine hg_aId 0 rfl (fun _ _ _ _ => rfl) A rfl (by decide) e9 (fun r9 => ?_)
    obtain ⟨v10, e10, e⟩ := ob e
    refine hg_aId 0 rfl (fun _ _ _ _ => rfl) A rfl (by decide) e10 (fun r10 => ?_)
    cases e
    exact hg_retI rfl (by decide) (fit_I _) (kr _ rfl r10)
def c110 (l1 : Int) (l2 : Int) (h : hS) : Option (Int) :=
  (kT h (hR h 8 7) 18).bind (fun u2 =>
  (c47 (hR h 8 7) l1 h).bind (fun v1 =>
  (hnul v1).bind (fun b3 =>
  if b3 = true then
  c110_j22 0 l2 v1 h
  else
  (kT h v1 24).bind (fun u5 =>
  (c111 v1 l2 h).bind (fun v4 =>
  c110_j22 v4 l2 v1 h)))))
theorem t110 {d : Nat} (hd : 2 ≤ d) {l1 : Int} {l2 : Int} {h : hS} {w : mmW} {o : Int} (A : Abs h w) (rl1 : rg l1) (rl2 : rg l2) (e : c110 l1 l2 h = some o) : hEv d 110 [vR 8, vI l1, vI l2] w (qIp o w) := by
  obtain ⟨d, rfl⟩ : ∃ d1, d = d1 + 1 := ⟨d - 1, by omega⟩
  have hd : 1 ≤ d := by omega
  refine hEv_start (args := [vr 8, vi l1, vi l2]) (nl := 5) rfl (Nat.le_of_ble_eq_true rfl) ?_
  show hG d 110 0 [some (vr 8), some (vi l1), some (vi l2), none, none] [] w _
  have kr : ∀ v1 : Int, o = v1 → rg v1 → qIp o w (some (.int (Int32.ofInt v1)), w) := fun v1 q r => by cases q; exact ⟨rfl, r⟩
  unfold c110 at e
  refine hg_run 1 (pc' := 1) (ls' := [some (vr 8), some (vi l1), some (vi l2), none, none]) (st' := [vR 8]) rfl ?_
  refine gs_8_7 rfl A ?_
  refine hg_run 1 (pc' := 5) (ls' := [some (vr 8), some (vi l1), some (vi l2), none, none]) (st' := [vI l1, vR (hR h 8 7)]) rfl ?_
  obtain ⟨u2, e2, e⟩ := ob e
  obtain ⟨v1, e1, e⟩ := ob e
  refine hg_cRp (as := [vR (hR h 8 7), vI l1]) (st' := []) rfl (fun _ _ _ _ => rfl) rfl rfl (Nat.le_of_ble_eq_true rfl) (Nat.le_of_ble_eq_true rfl) (recvV A (a := 8) (kT_e e2)) (t47 (by omega) A rl1 e1) ?_
  refine hg_run 2 (pc' := 10) (ls' := [some (vr 8), some (vi l1), some (vi l2), some (vr v1), none]) (st' := [vR v1]) rfl ?_
  obtain ⟨b3, e3, e⟩ := ob e
  rcases oi e with ⟨q3, e⟩ | ⟨q3, e⟩
  · refine hg_nul (yes := false) (tgt := 17) (t2 := 13) rfl (fun _ _ _ _ => rfl) (by decide) (ebT e3 q3) rfl ?_
    refine hg_run 2 (pc' := 22) (ls' := [some (vr 8), some (vi l1), some (vi l2), some (vr v1), none]) (st' := [vR 0]) rfl ?_
    exact t110_j22 hd rl2 A e kr
  · refine hg_nul (yes := false) (tgt := 17) (t2 := 17) rfl (fun _ _ _ _ => rfl) (by decide) (ebF e3 q3) rfl ?_
    refine hg_run 2 (pc' := 19) (ls' := [some (vr 8), some (vi l1), some (vi l2), some (vr v1), none]) (st' := [vI l2, vR v1]) rfl ?_
    obtain ⟨u5, e5, e⟩ := ob e
    obtain ⟨v4, e4, e⟩ := ob e
    refine hg_cRp (as := [vR v1, vI l2]) (st' := []) rfl (fun _ _ _ _ => rfl) rfl rfl (Nat.le_of_ble_eq_true rfl) (Nat.le_of_ble_eq_true rfl) (recvV A (a := 11) (kT_e e5)) (t111 (by omega) A rl2 e4) ?_
    exact t110_j22 hd rl2 A e kr
def c114 (h : hS) : Option (hS) :=
  (some (sI h 22 8 0)).bind (fun h1 =>
  (some (sI h1 22 9 0)).bind (fun h2 =>
  (some (sI h2 22 10 0)).bind (fun h3 =>
  some h3)))
theorem t114 {d : Nat} (hd : 1 ≤ d)  {h : hS} {w : mmW} {o : hS} (A : Abs h w)  (e : c114 h = some o) : hEv d 114 [vR 22] w (qV o) := by
  obtain ⟨d, rfl⟩ : ∃ d1, d = d1 + 1 := ⟨d - 1, by omega⟩
  have hd : 0 ≤ d := by omega
  refine hEv_start (args := [vr 22]) (nl := 1) rfl (Nat.le_of_ble_eq_true rfl) ?_
  show hG d 114 0 [some (vr 22)] [] w _
  have kr : ∀ h1 : hS, o = h1 → ∀ w', Abs h1 w' → qV o (none, w') := fun h1 q w' A' => by cases q; exact ⟨rfl, A'⟩
  unfold c114 at e
  refine hg_run 2 (pc' := 2) (ls' := [some (vr 22)]) (st' := [vI 0, vR 22]) rfl ?_
  obtain ⟨h1, e1, e⟩ := ob e
  refine ps_22_8 rfl A (rgn 0 rfl) e1 (fun w1 A1 => ?_)
  refine hg_run 2 (pc' := 7) (ls' := [some (vr 22)]) (st' := [vI 0, vR 22]) rfl ?_
  obtain ⟨h2, e2, e⟩ := ob e
  refine ps_22_9 rfl A1 (rgn 0 rfl) e2 (fun w2 A2 => ?_)
  refine hg_run 2 (pc' := 12) (ls' := [some (vr 22)]) (st' := [vI 0, vR 22]) rfl ?_
  obtain ⟨h3, e3, e⟩ := ob e
  refine ps_22_10 rfl A2 (rgn 0 rfl) e3 (fun w3 A3 => ?_)
  cases e
  exact hg_retV rfl (kr _ rfl _ A3)
def c115_j19  : Option (Nat) :=
  some 0
theorem t115_j19 {d : Nat} (hd : 0 ≤ d)  {z0 : Option hO} {z1 : Option hO} {h : hS} {w : mmW} {o : Nat} {Q : mmO → Prop}  (A : Abs h w) (e : c115_j19  = some o) (kr : ∀ v1 : Nat, o = v1 → Q (some (rv v1), w)) : hG d 115 19 [z0, z1] [] w Q := by
  unfold c115_j19 at e
  refine hg_run 1 (pc' := 20) (ls' := [z0, z1]) (st' := [vR 0]) rfl ?_
  cases e
  exact hg_retR rfl (kr _ rfl)
def c115 (l0 : Nat) (l1 : Int) (h : hS) : Option (Nat) :=
  if l1 < 0 then
  c115_j19 
  else
  if 40 ≤ l1 then
  c115_j19 
  else
  (gR h l0 24 17).bind (fun v3 =>
  (aR h v3 17 l1).bind (fun v4 =>
  some v4))
theorem t115 {d : Nat} (hd : 1 ≤ d) {l0 : Nat} {l1 : Int} {h : hS} {w : mmW} {o : Nat} (A : Abs h w) (rl1 : rg l1) (e : c115 l0 l1 h = some o) : hEv d 115 [vR l0, vI l1] w (qRp o w) := by
  obtain ⟨d, rfl⟩ : ∃ d1, d = d1 + 1 := ⟨d - 1, by omega⟩
  have hd : 0 ≤ d := by omega
  refine hEv_start (args := [vr l0, vi l1]) (nl := 2) rfl (Nat.le_of_ble_eq_true rfl) ?_
  show hG d 115 0 [some (vr l0), some (vi l1)] [] w _
  have kr : ∀ v1 : Nat, o = v1 → qRp o w (some (rv v1), w) := fun v1 q => by cases q; rfl
  unfold c115 at e
  refine hg_run 1 (pc' := 1) (ls' := [some (vr l0), some (vi l1)]) (st' := [vI l1]) rfl ?_
  rcases oi e with ⟨q1, e⟩ | ⟨q1, e⟩
  · refine hg_ifT (tgt := 19) rfl (by decide) rl1 q1 ?_
    exact t115_j19 hd  A e kr
  · refine hg_ifF (tgt := 19) rfl (by decide) rl1 q1 ?_
    refine hg_run 2 (pc' := 7) (ls' := [some (vr l0), some (vi l1)]) (st' := [vI 40, vI l1]) rfl ?_
    rcases oi e with ⟨q2, e⟩ | ⟨q2, e⟩
    · refine hg_icT (tgt := 19) rfl (by decide) rl1 (rgn 40 rfl) q2 ?_
      exact t115_j19 hd  A e kr
    · refine hg_icF (tgt := 19) rfl (by decide) rl1 (rgn 40 rfl) q2 ?_
      refine hg_run 1 (pc' := 11) (ls' := [some (vr l0), some (vi l1)]) (st' := [vR l0]) rfl ?_
      obtain ⟨v3, e3, e⟩ := ob e
      refine gd_11_17 rfl A e3 ?_
      refine hg_run 1 (pc' := 15) (ls' := [some (vr l0), some (vi l1)]) (st' := [vI l1, vR v3]) rfl ?_
      obtain ⟨v4, e4, e⟩ := ob e
      refine hg_aRd 8 rfl (fun _ _ _ _ => rfl) A rfl (by decide) e4 ?_
      refine hg_run 1 (pc' := 20) (ls' := [some (vr l0), some (vi l1)]) (st' := [vR v4]) rfl ?_
      cases e
      exact hg_retR rfl (kr _ rfl)
def c116 (l0 : Nat) (l1 : Nat) (l2 : Nat) (l3 : Int) (l4 : Int) (h : hS) : Option (hS) :=
  (pR h l0 12 0 l1).bind (fun h1 =>
  (pR h1 l0 12 1 l2).bind (fun h2 =>
  (pI h2 l0 12 2 l3).bind (fun h3 =>
  (gR h3 l2 24 13).bind (fun v4 =>
  (gR h3 l2 24 18).bind (fun v5 =>
  (aI h3 v5 1 l3).bind (fun v6 =>
  (aR h3 v4 21 v6).bind (fun v7 =>
  (pR h3 l0 12 3 v7).bind (fun h8 =>
  (pI h8 l0 12 4 0).bind (fun h9 =>
  (pI h9 l0 12 5 0).bind (fun h10 =>
  (pI h10 l0 12 6 l4).bind (fun h11 =>
  some h11)))))))))))
theorem t116 {d : Nat} (hd : 1 ≤ d) {l0 : Nat} {l1 : Nat} {l2 : Nat} {l3 : Int} {l4 : Int} {h : hS} {w : mmW} {o : hS} (A : Abs h w) (rl3 : rg l3) (rl4 : rg l4) (e : c116 l0 l1 l2 l3 l4 h = some o) : hEv d 116 [vR l0, vR l1, vR l2, vI l3, vI l4] w (qV o) := by
  obtain ⟨d, rfl⟩ : ∃ d1, d = d1 + 1 := ⟨d - 1, by omega⟩
  have hd : 0 ≤ d := by omega
  refine hEv_start (args := [vr l0, vr l1, vr l2, vi l3, vi l4]) (nl := 5) rfl (Nat.le_of_ble_eq_true rfl) ?_
  show hG d 116 0 [some (vr l0), some (vr l1), some (vr l2), some (vi l3), some (vi l4)] [] w _
  have kr : ∀ h1 : hS, o = h1 → ∀ w', Abs h1 w' → qV o (none, w') := fun h1 q w' A' => by cases q; exact ⟨rfl, A'⟩
  unfold c116 at e
  refine hg_run 2 (pc' := 2) (ls' := [some (vr l0), some (vr l1), some (vr l2), some (vi l3), some (vi l4)]) (st' := [vR l1, vR l0]) rfl ?_
  obtain ⟨h1, e1, e⟩ := ob e
  refine pd_5_0 rfl A e1 (fun w1 A1 => ?_)
  refine hg_run 2 (pc' := 7) (ls' := [some (vr l0), some (vr l1), some (vr l2), some (vi l3), some (vi l4)]) (st' := [vR l2, vR l0]) rfl ?_
  obtain ⟨h2, e2, e⟩ := ob e
  refine pd_5_1 rfl A1 e2 (fun w2 A2 => ?_)
  refine hg_run 2 (pc' := 12) (ls' := [some (vr l0), some (vr l1), some (vr l2), some (vi l3), some (vi l4)]) (st' := [vI l3, vR l0]) rfl ?_
  obtain ⟨h3, e3, e⟩ := ob e
  refine pd_5_2 rfl A2 rl3 e3 (fun w3 A3 => ?_)
  refine hg_run 2 (pc' := 17) (ls' := [some (vr l0), some (vr l1), some (vr l2), some (vi l3), some (vi l4)]) (st' := [vR l2, vR l0]) rfl ?_
  obtain ⟨v4, e4, e⟩ := ob e
  refine gd_11_13 rfl A3 e4 ?_
  refine hg_run 1 (pc' := 21) (ls' := [some (vr l0), some (vr l1), some (vr l2), some (vi l3), some (vi l4)]) (st' := [vR l2, vR v4, vR l0]) rfl ?_
  obtain ⟨v5, e5, e⟩ := ob e
  refine gd_11_18 rfl A3 e5 ?_
  refine hg_run 1 (pc' := 25) (ls' := [some (vr l0), some (vr l1), some (vr l2), some (vi l3), some (vi l4)]) (st' := [vI l3, vR v5, vR v4, vR l0]) rfl ?_
  obtain ⟨v6, e6, e⟩ := ob e
  refine hg_aId 0 rfl (fun _ _ _ _ => rfl) A3 rfl (by decide) e6 (fun r6 => ?_)
  obtain ⟨v7, e7, e⟩ := ob e
  refine hg_aRd 10 rfl (fun _ _ _ _ => rfl) A3 rfl (by decide) e7 ?_
  obtain ⟨h8, e8, e⟩ := ob e
  refine pd_5_3 rfl A3 e8 (fun w8 A8 => ?_)
  refine hg_run 2 (pc' := 32) (ls' := [some (vr l0), some (vr l1), some (vr l2), some (vi l3), some (vi l4)]) (st' := [vI 0, vR l0]) rfl ?_
  obtain ⟨h9, e9, e⟩ := ob e
  refine pd_5_4 rfl A8 (rgn 0 rfl) e9 (fun w9 A9 => ?_)
  refine hg_run 2 (pc' := 37) (ls' := [some (vr l0), some (vr l1), some (vr l2), some (vi l3), some (vi l4)]) (st' := [vI 0, vR l0]) rfl ?_
  obtain ⟨h10, e10, e⟩ := ob e
  refine pd_5_5 rfl A9 (rgn 0 rfl) e10 (fun w10 A10 => ?_)
  refine hg_run 2 (pc' := 43) (ls' := [some (vr l0), some (vr l1), some (vr l2), some (vi l3), some (vi l4)]) (st' := [vI l4, vR l0]) rfl ?_
  obtain ⟨h11, e11, e⟩ := ob e
  refine pd_5_6 rfl A10 rl4 e11 (fun w11 A11 => ?_)
  cases e
  exact hg_retV rfl (kr _ rfl _ A11)
def c117 (l1 : Nat) (h : hS) : Option (hS) :=
  if (hI h 22 11) = 0 then
  some h
  else
  if (hI h 22 13) < 50 then
  (gR h l1 12 0).bind (fun v3 =>
  (gI h v3 16 0).bind (fun v4 =>
  (wIs h 26 200 (wmul (hI h 22 13) 4) v4).bind (fun h5 =>
  (gI h5 l1 12 2).bind (fun v6 =>
  (wIs h5 26 200 (wadd (wmul (hI h 22 13) 4) 1) v6).bind (fun h7 =>
  (gR h7 l1 12 1).bind (fun v8 =>
  (gI h7 v8 24 0).bind (fun v9 =>
  (wIs h7 26 200 (wadd (wmul (hI h 22 13) 4) 2) v9).bind (fun h10 =>
  (gR h10 l1 12 1).bind (fun v11 =>
  (gI h10 v11 24 2).bind (fun v12 =>
  (wIs h10 26 200 (wadd (wmul (hI h 22 13) 4) 3) v12).bind (fun h13 =>
  (some (sI h13 22 13 (wadd (hI h13 22 13) 1))).bind (fun h14 =>
  some h14))))))))))))
  else
  some h
theorem t117 {d : Nat} (hd : 1 ≤ d) {l1 : Nat} {h : hS} {w : mmW} {o : hS} (A : Abs h w)  (e : c117 l1 h = some o) : hEv d 117 [vR 22, vR l1] w (qV o) := by
  obtain ⟨d, rfl⟩ : ∃ d1, d = d1 + 1 := ⟨d - 1, by omega⟩
  have hd : 0 ≤ d := by omega
  refine hEv_start (args := [vr 22, vr l1]) (nl := 3) rfl (Nat.le_of_ble_eq_true rfl) ?_
  show hG d 117 0 [some (vr 22), some (vr l1), none] [] w _
  have kr : ∀ h1 : hS, o = h1 → ∀ w', Abs h1 w' → qV o (none, w') := fun h1 q w' A' => by cases q; exact ⟨rfl, A'⟩
  unfold c117 at e
  refine hg_run 1 (pc' := 1) (ls' := [some (vr 22), some (vr l1), none]) (st' := [vR 22]) rfl ?_
  refine gs_22_11 rfl A ?_
  rcases oi e with ⟨q1, e⟩ | ⟨q1, e⟩
  · refine hg_ifT (tgt := 16) rfl (by decide) (Abs_rg A 22 11) q1 ?_
    cases e
    exact hg_retV rfl (kr _ rfl _ A)
  · refine hg_ifF (tgt := 16) rfl (by decide) (Abs_rg A 22 11) q1 ?_
    refine hg_run 1 (pc' := 8) (ls' := [some (vr 22), some (vr l1), none]) (st' := [vR 22]) rfl ?_
    refine gs_22_13 rfl A ?_
    refine hg_run 1 (pc' := 13) (ls' := [some (vr 22), some (vr l1), none]) (st' := [vI 50, vI (hI h 22 13)]) rfl ?_
    rcases oi e with ⟨q2, e⟩ | ⟨q2, e⟩
    · refine hg_icT (tgt := 17) rfl (by decide) (Abs_rg A 22 13) (rgn 50 rfl) q2 ?_
      refine hg_run 1 (pc' := 18) (ls' := [some (vr 22), some (vr l1), none]) (st' := [vR 22]) rfl ?_
      refine gs_22_13 rfl A ?_
      refine hg_run 4 (pc' := 25) (ls' := [some (vr 22), some (vr l1), some (vi (wmul (hI h 22 13) 4))]) (st' := [vR 22]) rfl ?_
      refine gs_22_12 rfl A ?_
      refine hg_run 2 (pc' := 30) (ls' := [some (vr 22), some (vr l1), some (vi (wmul (hI h 22 13) 4))]) (st' := [vR l1, vI (wmul (hI h 22 13) 4), vR 26]) rfl ?_
      obtain ⟨v3, e3, e⟩ := ob e
      refine gd_5_0 rfl A e3 ?_
      obtain ⟨v4, e4, e⟩ := ob e
      refine gd_7_0 rfl A e4 (fun r4 => ?_)
      obtain ⟨h5, e5, e⟩ := ob e
      refine hg_wIs rfl A (Abs_ks A (i := 17) rfl) (by decide) r4 e5 (fun w5 A5 => ?_)
      refine hg_run 1 (pc' := 38) (ls' := [some (vr 22), some (vr l1), some (vi (wmul (hI h 22 13) 4))]) (st' := [vR 22]) rfl ?_
      refine gs_22_12 rfl A5 ?_
      refine hg_run 4 (pc' := 45) (ls' := [some (vr 22), some (vr l1), some (vi (wmul (hI h 22 13) 4))]) (st' := [vR l1, vI (wadd (wmul (hI h 22 13) 4) 1), vR 26]) rfl ?_
      obtain ⟨v6, e6, e⟩ := ob e
      refine gd_5_2 rfl A5 e6 (fun r6 => ?_)
      obtain ⟨h7, e7, e⟩ := ob e
      refine hg_wIs rfl A5 (Abs_ks A5 (i := 17) rfl) (by decide) r6 e7 (fun w7 A7 => ?_)
      refine hg_run 1 (pc' := 50) (ls' := [some (vr 22), some (vr l1), some (vi (wmul (hI h 22 13) 4))]) (st' := [vR 22]) rfl ?_
      refine gs_22_12 rfl A7 ?_
      refine hg_run 4 (pc' := 57) (ls' := [some (vr 22), some (vr l1), some (vi (wmul (hI h 22 13) 4))]) (st' := [vR l1, vI (wadd (wmul (hI h 22 13) 4) 2), vR 26]) rfl ?_
      obtain ⟨v8, e8, e⟩ := ob e
      refine gd_5_1 rfl A7 e8 ?_
      obtain ⟨v9, e9, e⟩ := ob e
      refine gd_11_0 rfl A7 e9 (fun r9 => ?_)
      obtain ⟨h10, e10, e⟩ := ob e
      refine hg_wIs rfl A7 (Abs_ks A7 (i := 17) rfl) (by decide) r9 e10 (fun w10 A10 => ?_)
      refine hg_run 1 (pc' := 65) (ls' := [some (vr 22), some (vr l1), some (vi (wmul (hI h 22 13) 4))]) (st' := [vR 22]) rfl ?_
      refine gs_22_12 rfl A10 ?_
      refine hg_run 4 (pc' := 72) (ls' := [some (vr 22), some (vr l1), some (vi (wmul (hI h 22 13) 4))]) (st' := [vR l1, vI (wadd (wmul (hI h 22 13) 4) 3), vR 26]) rfl ?_
      obtain ⟨v11, e11, e⟩ := ob e
      refine gd_5_1 rfl A10 e11 ?_
      obtain ⟨v12, e12, e⟩ := ob e
      refine gd_11_2 rfl A10 e12 (fun r12 => ?_)
      obtain ⟨h13, e13, e⟩ := ob e
      refine hg_wIs rfl A10 (Abs_ks A10 (i := 17) rfl) (by decide) r12 e13 (fun w13 A13 => ?_)
      refine hg_run 2 (pc' := 81) (ls' := [some (vr 22), some (vr l1), some (vi (wmul (hI h 22 13) 4))]) (st' := [vR 22, vR 22]) rfl ?_
      refine gs_22_13 rfl A13 ?_
      refine hg_run 2 (pc' := 86) (ls' := [some (vr 22), some (vr l1), some (vi (wmul (hI h 22 13) 4))]) (st' := [vI (wadd (hI h13 22 13) 1), vR 22]) rfl ?_
      obtain ⟨h14, e14, e⟩ := ob e
      refine ps_22_13 rfl A13 (rg_add _ _) e14 (fun w14 A14 => ?_)
      cases e
      exact hg_retV rfl (kr _ rfl _ A14)
    · refine hg_icF (tgt := 17) rfl (by decide) (Abs_rg A 22 13) (rgn 50 rfl) q2 ?_
      cases e
      exact hg_retV rfl (kr _ rfl _ A)
