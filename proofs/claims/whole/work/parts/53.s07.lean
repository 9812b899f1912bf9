/-! read as functions: laid by wip/whole/shallow.py -/
def c233_j71 (s0 : Int) (l6 : Int) (h : hS) : Option ((Int × hS) ⊕ (hS)) :=
  (wIs h 396 1000 (hI h 395 1) (wand (wshr s0 (wsub 24 (wmul 8 (wrem l6 4)))) 255)).bind (fun h7 =>
  (some (sI h7 395 1 (wadd (hI h7 395 1) 1))).bind (fun h8 =>
  some (.inl ((wadd l6 1), h8))))
theorem t233_j71 {d : Nat} (hd : 0 ≤ d) {s0 : Int} {l6 : Int} {l1 : Int} {l2 : Int} {l3 : Int} {l4 : Int} {l5 : Int} {z7 : Option hO} {h : hS} {w : mmW} {o : (Int × hS) ⊕ (hS)} {Q : mmO → Prop} (rs0 : rg s0) (rl6 : rg l6) (A : Abs h w) (e : c233_j71 s0 l6 h = some o) (kb : ∀ (s_0 : Int) (s_1 : hS), o = .inl (s_0, s_1) → ∀ w', ∀ (y7 : Option hO), rg s_0 → Abs s_1 w' → hG d 233 18 [some (vr 395), some (vi l1), some (vi l2), some (vi l3), some (vi l4), some (vi l5), some (vi s_0), y7] [] w' Q) (ke : ∀ (x_0 : hS), o = .inr (x_0) → ∀ w', ∀ (y6 y7 : Option hO), Abs x_0 w' → hG d 233 115 [some (vr 395), some (vi l1), some (vi l2), some (vi l3), some (vi l4), some (vi l5), y6, y7] [] w' Q) : hG d 233 71 [some (vr 395), some (vi l1), some (vi l2), some (vi l3), some (vi l4), some (vi l5), some (vi l6), z7] [vI s0] w Q := by
  unfold c233_j71 at e
  refine hg_run 2 (pc' := 74) (ls' := [some (vr 395), some (vi l1), some (vi l2), some (vi l3), some (vi l4), some (vi l5), some (vi l6), some (vi s0)]) (st' := [vR 395]) rfl ?_
  refine gs_395_0 rfl A ?_
  refine hg_run 1 (pc' := 78) (ls' := [some (vr 395), some (vi l1), some (vi l2), some (vi l3), some (vi l4), some (vi l5), some (vi l6), some (vi s0)]) (st' := [vR 395, vR 396]) rfl ?_
  refine gs_395_1 rfl A ?_
  refine hg_run 11 (pc' := 98) (ls' := [some (vr 395), some (vi l1), some (vi l2), some (vi l3), some (vi l4), some (vi l5), some (vi l6), some (vi s0)]) (st' := [vI (wand (wshr s0 (wsub 24 (wmul 8 (wrem l6 4)))) 255), vI (hI h 395 1), vR 396]) rfl ?_
  obtain ⟨h7, e7, e⟩ := ob e
  refine hg_wIs rfl A (Abs_ks A (i := 24) rfl) (by decide) (rg_and _ _) e7 (fun w7 A7 => ?_)
  refine hg_run 2 (pc' := 101) (ls' := [some (vr 395), some (vi l1), some (vi l2), some (vi l3), some (vi l4), some (vi l5), some (vi l6), some (vi s0)]) (st' := [vR 395, vR 395]) rfl ?_
  refine gs_395_1 rfl A7 ?_
  refine hg_run 2 (pc' := 106) (ls' := [some (vr 395), some (vi l1), some (vi l2), some (vi l3), some (vi l4), some (vi l5), some (vi l6), some (vi s0)]) (st' := [vI (wadd (hI h7 395 1) 1), vR 395]) rfl ?_
  obtain ⟨h8, e8, e⟩ := ob e
  refine ps_395_1 rfl A7 (rg_add _ _) e8 (fun w8 A8 => ?_)
  refine hg_run 2 (pc' := 18) (ls' := [some (vr 395), some (vi l1), some (vi l2), some (vi l3), some (vi l4), some (vi l5), some (vi (wadd l6 1)), some (vi s0)]) (st' := []) rfl ?_
  cases e
  exact kb (wadd l6 1) h8 rfl _ _ (rg_add _ _) A8
def c233_b18 (l1 : Int) (l2 : Int) (l3 : Int) (l4 : Int) (l5 : Int) (l6 : Int) (h : hS) : Option ((Int × hS) ⊕ (hS)) :=
  if 20 ≤ l6 then
  some (.inr (h))
  else
  if 4 ≤ l6 then
  if 8 ≤ l6 then
  if 12 ≤ l6 then
  if 16 ≤ l6 then
  c233_j71 l5 l6 h
  else
  c233_j71 l4 l6 h
  else
  c233_j71 l3 l6 h
  else
  c233_j71 l2 l6 h
  else
  c233_j71 l1 l6 h
theorem t233_b18 {d : Nat} (hd : 0 ≤ d) {l1 : Int} {l2 : Int} {l3 : Int} {l4 : Int} {l5 : Int} {l6 : Int} {z7 : Option hO} {h : hS} {w : mmW} {o : (Int × hS) ⊕ (hS)} {Q : mmO → Prop} (rl1 : rg l1) (rl2 : rg l2) (rl3 : rg l3) (rl4 : rg l4) (rl5 : rg l5) (rl6 : rg l6) (A : Abs h w) (e : c233_b18 l1 l2 l3 l4 l5 l6 h = some o) (kb : ∀ (s_0 : Int) (s_1 : hS), o = .inl (s_0, s_1) → ∀ w', ∀ (y7 : Option hO), rg s_0 → Abs s_1 w' → hG d 233 18 [some (vr 395), some (vi l1), some (vi l2), some (vi l3), some (vi l4), some (vi l5), some (vi s_0), y7] [] w' Q) (ke : ∀ (x_0 : hS), o = .inr (x_0) → ∀ w', ∀ (y6 y7 : Option hO), Abs x_0 w' → hG d 233 115 [some (vr 395), some (vi l1), some (vi l2), some (vi l3), some (vi l4), some (vi l5), y6, y7] [] w' Q) : hG d 233 18 [some (vr 395), some (vi l1), some (vi l2), some (vi l3), some (vi l4), some (vi l5), some (vi l6), z7] [] w Q := by
  unfold c233_b18 at e
  refine hg_run 2 (pc' := 22) (ls' := [some (vr 395), some (vi l1), some (vi l2), some (vi l3), some (vi l4), some (vi l5), some (vi l6), z7]) (st' := [vI 20, vI l6]) rfl ?_
  rcases oi e with ⟨q2, e⟩ | ⟨q2, e⟩
  · refine hg_icT (tgt := 115) rfl (by decide) rl6 (rgn 20 rfl) q2 ?_
    cases e
    exact ke h rfl _ _ _  A
  · refine hg_icF (tgt := 115) rfl (by decide) rl6 (rgn 20 rfl) q2 ?_
    refine hg_run 2 (pc' := 28) (ls' := [some (vr 395), some (vi l1), some (vi l2), some (vi l3), some (vi l4), some (vi l5), some (vi l6), z7]) (st' := [vI 4, vI l6]) rfl ?_
    rcases oi e with ⟨q3, e⟩ | ⟨q3, e⟩
    · refine hg_icT (tgt := 35) rfl (by decide) rl6 (rgn 4 rfl) q3 ?_
      refine hg_run 2 (pc' := 39) (ls' := [some (vr 395), some (vi l1), some (vi l2), some (vi l3), some (vi l4), some (vi l5), some (vi l6), z7]) (st' := [vI 8, vI l6]) rfl ?_
      rcases oi e with ⟨q4, e⟩ | ⟨q4, e⟩
      · refine hg_icT (tgt := 46) rfl (by decide) rl6 (rgn 8 rfl) q4 ?_
        refine hg_run 2 (pc' := 50) (ls' := [some (vr 395), some (vi l1), some (vi l2), some (vi l3), some (vi l4), some (vi l5), some (vi l6), z7]) (st' := [vI 12, vI l6]) rfl ?_
        rcases oi e with ⟨q5, e⟩ | ⟨q5, e⟩
        · refine hg_icT (tgt := 57) rfl (by decide) rl6 (rgn 12 rfl) q5 ?_
          refine hg_run 2 (pc' := 61) (ls' := [some (vr 395), some (vi l1), some (vi l2), some (vi l3), some (vi l4), some (vi l5), some (vi l6), z7]) (st' := [vI 16, vI l6]) rfl ?_
          rcases oi e with ⟨q6, e⟩ | ⟨q6, e⟩
          · refine hg_icT (tgt := 69) rfl (by decide) rl6 (rgn 16 rfl) q6 ?_
            refine hg_run 1 (pc' := 71) (ls' := [some (vr 395), some (vi l1), some (vi l2), some (vi l3), some (vi l4), some (vi l5), some (vi l6), z7]) (st' := [vI l5]) rfl ?_
            exact t233_j71 hd rl5 rl6 A e kb ke
          · refine hg_icF (tgt := 69) rfl (by decide) rl6 (rgn 16 rfl) q6 ?_
            refine hg_run 2 (pc' := 71) (ls' := [some (vr 395), some (vi l1), some (vi l2), some (vi l3), some (vi l4), some (vi l5), some (vi l6), z7]) (st' := [vI l4]) rfl ?_
            exact t233_j71 hd rl4 rl6 A e kb ke
        · refine hg_icF (tgt := 57) rfl (by decide) rl6 (rgn 12 rfl) q5 ?_
          refine hg_run 2 (pc' := 71) (ls' := [some (vr 395), some (vi l1), some (vi l2), some (vi l3), some (vi l4), some (vi l5), some (vi l6), z7]) (st' := [vI l3]) rfl ?_
          exact t233_j71 hd rl3 rl6 A e kb ke
      · refine hg_icF (tgt := 46) rfl (by decide) rl6 (rgn 8 rfl) q4 ?_
        refine hg_run 2 (pc' := 71) (ls' := [some (vr 395), some (vi l1), some (vi l2), some (vi l3), some (vi l4), some (vi l5), some (vi l6), z7]) (st' := [vI l2]) rfl ?_
        exact t233_j71 hd rl2 rl6 A e kb ke
    · refine hg_icF (tgt := 35) rfl (by decide) rl6 (rgn 4 rfl) q3 ?_
      refine hg_run 2 (pc' := 71) (ls' := [some (vr 395), some (vi l1), some (vi l2), some (vi l3), some (vi l4), some (vi l5), some (vi l6), z7]) (st' := [vI l1]) rfl ?_
      exact t233_j71 hd rl1 rl6 A e kb ke
theorem t233_l18 {d : Nat} (hd : 0 ≤ d) {l1 : Int} {l2 : Int} {l3 : Int} {l4 : Int} {l5 : Int}  {Q : mmO → Prop} (rl1 : rg l1) (rl2 : rg l2) (rl3 : rg l3) (rl4 : rg l4) (rl5 : rg l5) (n : Nat) {l6 : Int} {z7 : Option hO} {h : hS} {w : mmW} {r : hS} (rl6 : rg l6) (A : Abs h w) (e : lp (fun s => c233_b18 l1 l2 l3 l4 l5 s.1 s.2) n (l6, h) = some r) (ke : ∀ (x_0 : hS), r = (x_0) → ∀ w', ∀ (y6 y7 : Option hO), Abs x_0 w' → hG d 233 115 [some (vr 395), some (vi l1), some (vi l2), some (vi l3), some (vi l4), some (vi l5), y6, y7] [] w' Q) : hG d 233 18 [some (vr 395), some (vi l1), some (vi l2), some (vi l3), some (vi l4), some (vi l5), some (vi l6), z7] [] w Q := by
  induction n generalizing l6 z7 h w with
  | zero => cases e
  | succ n ih =>
    rcases lp_succ e with ⟨s1, e1, e2⟩ | e1
    · exact t233_b18 hd rl1 rl2 rl3 rl4 rl5 rl6 A e1 (fun s_0 s_1 q w1 y7 rl6 A1 => by cases q; exact ih rl6 A1 e2) (fun x_0 q => by cases q)
    · exact t233_b18 hd rl1 rl2 rl3 rl4 rl5 rl6 A e1 (fun s_0 s_1 q => by cases q) (fun x_0 q => by cases q; exact ke _ rfl)
def c233 (l1 : Int) (l2 : Int) (l3 : Int) (l4 : Int) (l5 : Int) (h : hS) : Option (Int × hS) :=
  if (wadd (hI h 395 1) 20) ≤ 1000 then
  (lp (fun s => c233_b18 l1 l2 l3 l4 l5 s.1 s.2) hF0 (0, h)).bind (fun r9 =>
  some ((hI r9 395 1), r9))
  else
  some ((-1), h)
theorem t233 {d : Nat} (hd : 1 ≤ d) {l1 : Int} {l2 : Int} {l3 : Int} {l4 : Int} {l5 : Int} {h : hS} {w : mmW} {o : Int × hS} (A : Abs h w) (rl1 : rg l1) (rl2 : rg l2) (rl3 : rg l3) (rl4 : rg l4) (rl5 : rg l5) (e : c233 l1 l2 l3 l4 l5 h = some o) : hEv d 233 [vR 395, vI l1, vI l2, vI l3, vI l4, vI l5] w (qI o) := by
  obtain ⟨d, rfl⟩ : ∃ d1, d = d1 + 1 := ⟨d - 1, by omega⟩
  have hd : 0 ≤ d := by omega
  refine hEv_start (args := [vr 395, vi l1, vi l2, vi l3, vi l4, vi l5]) (nl := 8) rfl (Nat.le_of_ble_eq_true rfl) ?_
  show hG d 233 0 [some (vr 395), some (vi l1), some (vi l2), some (vi l3), some (vi l4), some (vi l5), none, none] [] w _
  have kr : ∀ (v1 : Int) (h1 : hS), o = (v1, h1) → ∀ w', rg v1 → Abs h1 w' → qI o (some (.int (Int32.ofInt v1)), w') := fun v1 h1 q w' r A' => by cases q; exact ⟨rfl, r, A'⟩
  unfold c233 at e
  refine hg_run 1 (pc' := 1) (ls' := [some (vr 395), some (vi l1), some (vi l2), some (vi l3), some (vi l4), some (vi l5), none, none]) (st' := [vR 395]) rfl ?_
  refine gs_395_1 rfl A ?_
  refine hg_run 3 (pc' := 10) (ls' := [some (vr 395), some (vi l1), some (vi l2), some (vi l3), some (vi l4), some (vi l5), none, none]) (st' := [vI 1000, vI (wadd (hI h 395 1) 20)]) rfl ?_
  rcases oi e with ⟨q1, e⟩ | ⟨q1, e⟩
  · refine hg_icT (tgt := 15) rfl (by decide) (rg_add _ _) (rgn 1000 rfl) q1 ?_
    refine hg_run 2 (pc' := 18) (ls' := [some (vr 395), some (vi l1), some (vi l2), some (vi l3), some (vi l4), some (vi l5), some (vi 0), none]) (st' := []) rfl ?_
    obtain ⟨r9, e9, e⟩ := ob e
    refine t233_l18 hd rl1 rl2 rl3 rl4 rl5 _ (rgn 0 rfl) A e9 ?_
    intro x9_0 qq9 w9 z9_6 z9_7 A9
    subst qq9
    refine hg_run 1 (pc' := 116) (ls' := [some (vr 395), some (vi l1), some (vi l2), some (vi l3), some (vi l4), some (vi l5), z9_6, z9_7]) (st' := [vR 395]) rfl ?_
    refine gs_395_1 rfl A9 ?_
    cases e
    exact hg_retI rfl (by decide) (fit_I _) (kr _ _ rfl _ (Abs_rg A9 395 1) A9)
  · refine hg_icF (tgt := 15) rfl (by decide) (rg_add _ _) (rgn 1000 rfl) q1 ?_
    refine hg_run 1 (pc' := 14) (ls' := [some (vr 395), some (vi l1), some (vi l2), some (vi l3), some (vi l4), some (vi l5), none, none]) (st' := [vI (-1)]) rfl ?_
    cases e
    exact hg_retI rfl (by decide) (fit_I _) (kr _ _ rfl _ (rgn (-1) rfl) A)
def c234 (l1 : Int) (h : hS) : Option (Int × hS) :=
  (c191 l1 0 (hI h 395 1) h).bind (fun v1 =>
  if v1 = 0 then
  some (0, h)
  else
  (some (sI h 395 1 l1)).bind (fun h3 =>
  some (1, h3)))
theorem t234 {d : Nat} (hd : 2 ≤ d) {l1 : Int} {h : hS} {w : mmW} {o : Int × hS} (A : Abs h w) (rl1 : rg l1) (e : c234 l1 h = some o) : hEv d 234 [vR 395, vI l1] w (qI o) := by
  obtain ⟨d, rfl⟩ : ∃ d1, d = d1 + 1 := ⟨d - 1, by omega⟩
  have hd : 1 ≤ d := by omega
  refine hEv_start (args := [vr 395, vi l1]) (nl := 2) rfl (Nat.le_of_ble_eq_true rfl) ?_
  show hG d 234 0 [some (vr 395), some (vi l1)] [] w _
  have kr : ∀ (v1 : Int) (h1 : hS), o = (v1, h1) → ∀ w', rg v1 → Abs h1 w' → qI o (some (.int (Int32.ofInt v1)), w') := fun v1 h1 q w' r A' => by cases q; exact ⟨rfl, r, A'⟩
  unfold c234 at e
  refine hg_run 3 (pc' := 3) (ls' := [some (vr 395), some (vi l1)]) (st' := [vR 395, vI 0, vI l1]) rfl ?_
  refine gs_395_1 rfl A ?_
  obtain ⟨v1, e1, e⟩ := ob e
  refine hg_cIp (as := [vI l1, vI 0, vI (hI h 395 1)]) (st' := []) rfl (fun _ _ _ _ => rfl) rfl rfl (Nat.le_of_ble_eq_true rfl) (Nat.le_of_ble_eq_true rfl) recv0 (t191 (by omega) A rl1 (rgn 0 rfl) (Abs_rg A 395 1) e1) (fun r1 => ?_)
  rcases oi e with ⟨q2, e⟩ | ⟨q2, e⟩
  · refine hg_ifF (tgt := 14) rfl (by decide) r1 (show ¬ ¬ (v1 = 0) from fun f => f q2) ?_
    refine hg_run 1 (pc' := 13) (ls' := [some (vr 395), some (vi l1)]) (st' := [vI 0]) rfl ?_
    cases e
    exact hg_retI rfl (by decide) (fit_B (.inl rfl)) (kr _ _ rfl _ (rgn 0 rfl) A)
  · refine hg_ifT (tgt := 14) rfl (by decide) r1 (show ¬ (v1 = 0) from q2) ?_
    refine hg_run 2 (pc' := 16) (ls' := [some (vr 395), some (vi l1)]) (st' := [vI l1, vR 395]) rfl ?_
    obtain ⟨h3, e3, e⟩ := ob e
    refine ps_395_1 rfl A rl1 e3 (fun w3 A3 => ?_)
    refine hg_run 1 (pc' := 20) (ls' := [some (vr 395), some (vi l1)]) (st' := [vI 1]) rfl ?_
    cases e
    exact hg_retI rfl (by decide) (fit_B (.inr rfl)) (kr _ _ rfl _ (rgn 1 rfl) A3)
def c235_j41 (s0 : Int) (l1 : Int) (l2 : Int) (h : hS) : Option (Int × hS) :=
  (some (sI h 395 11 0)).bind (fun h3 =>
  (some (sI h3 395 1 0)).bind (fun h4 =>
  (some (sI h4 395 13 l1)).bind (fun h5 =>
  (some (sI h5 395 14 l2)).bind (fun h6 =>
  if s0 = 0 then
  some ((-1), h6)
  else
  some ((hI h6 395 17), h6)))))
theorem t235_j41 {d : Nat} (hd : 4 ≤ d) {s0 : Int} {l1 : Int} {l2 : Int} {z3 : Option hO} {h : hS} {w : mmW} {o : Int × hS} {Q : mmO → Prop} (rs0 : rg s0) (rl1 : rg l1) (rl2 : rg l2) (A : Abs h w) (e : c235_j41 s0 l1 l2 h = some o) (kr : ∀ (v1 : Int) (h1 : hS), o = (v1, h1) → ∀ w', rg v1 → Abs h1 w' → Q (some (.int (Int32.ofInt v1)), w')) : hG d 235 41 [some (vr 395), some (vi l1), some (vi l2), z3] [vI s0] w Q := by
  unfold c235_j41 at e
  refine hg_run 3 (pc' := 44) (ls' := [some (vr 395), some (vi l1), some (vi l2), some (vi s0)]) (st' := [vI 0, vR 395]) rfl ?_
  obtain ⟨h3, e3, e⟩ := ob e
  refine ps_395_11 rfl A (rgn 0 rfl) e3 (fun w3 A3 => ?_)
  refine hg_run 2 (pc' := 49) (ls' := [some (vr 395), some (vi l1), some (vi l2), some (vi s0)]) (st' := [vI 0, vR 395]) rfl ?_
  obtain ⟨h4, e4, e⟩ := ob e
  refine ps_395_1 rfl A3 (rgn 0 rfl) e4 (fun w4 A4 => ?_)
  refine hg_run 2 (pc' := 54) (ls' := [some (vr 395), some (vi l1), some (vi l2), some (vi s0)]) (st' := [vI l1, vR 395]) rfl ?_
  obtain ⟨h5, e5, e⟩ := ob e
  refine ps_395_13 rfl A4 rl1 e5 (fun w5 A5 => ?_)
  refine hg_run 2 (pc' := 59) (ls' := [some (vr 395), some (vi l1), some (vi l2), some (vi s0)]) (st' := [vI l2, vR 395]) rfl ?_
  obtain ⟨h6, e6, e⟩ := ob e
  refine ps_395_14 rfl A5 rl2 e6 (fun w6 A6 => ?_)
  refine hg_run 1 (pc' := 63) (ls' := [some (vr 395), some (vi l1), some (vi l2), some (vi s0)]) (st' := [vI s0]) rfl ?_
  rcases oi e with ⟨q7, e⟩ | ⟨q7, e⟩
  · refine hg_ifT (tgt := 73) rfl (by decide) rs0 q7 ?_
    refine hg_run 1 (pc' := 74) (ls' := [some (vr 395), some (vi l1), some (vi l2), some (vi s0)]) (st' := [vI (-1)]) rfl ?_
    cases e
    exact hg_retI rfl (by decide) (fit_I _) (kr _ _ rfl _ (rgn (-1) rfl) A6)
  · refine hg_ifF (tgt := 73) rfl (by decide) rs0 q7 ?_
    refine hg_run 1 (pc' := 67) (ls' := [some (vr 395), some (vi l1), some (vi l2), some (vi s0)]) (st' := [vR 395]) rfl ?_
    refine gs_395_17 rfl A6 ?_
    refine hg_run 1 (pc' := 74) (ls' := [some (vr 395), some (vi l1), some (vi l2), some (vi s0)]) (st' := [vI (hI h6 395 17)]) rfl ?_
    cases e
    exact hg_retI rfl (by decide) (fit_I _) (kr _ _ rfl _ (Abs_rg A6 395 17) A6)
def c235_j40 (l1 : Int) (l2 : Int) (h : hS) : Option (Int × hS) :=
  c235_j41 0 l1 l2 h
theorem t235_j40 {d : Nat} (hd : 4 ≤ d) {l1 : Int} {l2 : Int} {z3 : Option hO} {h : hS} {w : mmW} {o : Int × hS} {Q : mmO → Prop} (rl1 : rg l1) (rl2 : rg l2) (A : Abs h w) (e : c235_j40 l1 l2 h = some o) (kr : ∀ (v1 : Int) (h1 : hS), o = (v1, h1) → ∀ w', rg v1 → Abs h1 w' → Q (some (.int (Int32.ofInt v1)), w')) : hG d 235 40 [some (vr 395), some (vi l1), some (vi l2), z3] [] w Q := by
  unfold c235_j40 at e
  refine hg_run 1 (pc' := 41) (ls' := [some (vr 395), some (vi l1), some (vi l2), z3]) (st' := [vI 0]) rfl ?_
  exact t235_j41 hd (rgn 0 rfl) rl1 rl2 A e kr
def c235 (h : hS) : Option (Int × hS) :=
  (c184  h).bind (fun h1 =>
  if (hI h1 395 3) = 2 then
  (c196  h1).bind (fun v8 =>
  if v8.1 = 0 then
  c235_j40 (hI h 395 13) (hI h 395 14) v8.2
  else
  if (hI v8.2 395 3) = 0 then
  c235_j41 1 (hI h 395 13) (hI h 395 14) v8.2
  else
  c235_j40 (hI h 395 13) (hI h 395 14) v8.2)
  else
  c235_j40 (hI h 395 13) (hI h 395 14) h1)
theorem t235 {d : Nat} (hd : 5 ≤ d)  {h : hS} {w : mmW} {o : Int × hS} (A : Abs h w)  (e : c235 h = some o) : hEv d 235 [vR 395] w (qI o) := by
  obtain ⟨d, rfl⟩ : ∃ d1, d = d1 + 1 := ⟨d - 1, by omega⟩
  have hd : 4 ≤ d := by omega
  refine hEv_start (args := [vr 395]) (nl := 4) rfl (Nat.le_of_ble_eq_true rfl) ?_
  show hG d 235 0 [some (vr 395), none, none, none] [] w _
  have kr : ∀ (v1 : Int) (h1 : hS), o = (v1, h1) → ∀ w', rg v1 → Abs h1 w' → qI o (some (.int (Int32.ofInt v1)), w') := fun v1 h1 q w' r A' => by cases q; exact ⟨rfl, r, A'⟩
  unfold c235 at e
  refine hg_run 1 (pc' := 1) (ls' := [some (vr 395), none, none, none]) (st' := [vR 395]) rfl ?_
  refine gs_395_13 rfl A ?_
  refine hg_run 2 (pc' := 6) (ls' := [some (vr 395), some (vi (hI h 395 13)), none, none]) (st' := [vR 395]) rfl ?_
  refine gs_395_14 rfl A ?_
  refine hg_run 2 (pc' := 11) (ls' := [some (vr 395), some (vi (hI h 395 13)), some (vi (hI h 395 14)), none]) (st' := [vR 395]) rfl ?_
  obtain ⟨h1, e1, e⟩ := ob e
  refine hg_cV (as := [vR 395]) (st' := []) rfl (fun _ _ _ _ => rfl) rfl rfl (Nat.le_of_ble_eq_true rfl) (Nat.le_of_ble_eq_true rfl) (recvV A (a := 13) (Abs_ks A (i := 23) rfl).1) (t184 (by omega) A  e1) (fun w1 A1 => ?_)
  refine hg_run 1 (pc' := 15) (ls' := [some (vr 395), some (vi (hI h 395 13)), some (vi (hI h 395 14)), none]) (st' := [vR 395]) rfl ?_
  refine gs_395_3 rfl A1 ?_
  refine hg_run 1 (pc' := 19) (ls' := [some (vr 395), some (vi (hI h 395 13)), some (vi (hI h 395 14)), none]) (st' := [vI 2, vI (hI h1 395 3)]) rfl ?_
  rcases oi e with ⟨q2, e⟩ | ⟨q2, e⟩
  · refine hg_icF (tgt := 40) rfl (by decide) (Abs_rg A1 395 3) (rgn 2 rfl) (show ¬ ¬ ((hI h1 395 3) = 2) from fun f => f q2) ?_
    refine hg_run 1 (pc' := 23) (ls' := [some (vr 395), some (vi (hI h 395 13)), some (vi (hI h 395 14)), none]) (st' := [vR 395]) rfl ?_
    obtain ⟨v8, e8, e⟩ := ob e
    refine hg_cI (as := [vR 395]) (st' := []) rfl (fun _ _ _ _ => rfl) rfl rfl (Nat.le_of_ble_eq_true rfl) (Nat.le_of_ble_eq_true rfl) (recvV A1 (a := 13) (Abs_ks A1 (i := 23) rfl).1) (t196 (by omega) A1  e8) (fun w8 r8 A8 => ?_)
    rcases oi e with ⟨q9, e⟩ | ⟨q9, e⟩
    · refine hg_ifT (tgt := 40) rfl (by decide) r8 q9 ?_
      exact t235_j40 hd (Abs_rg A 395 13) (Abs_rg A 395 14) A8 e kr
    · refine hg_ifF (tgt := 40) rfl (by decide) r8 q9 ?_
      refine hg_run 1 (pc' := 30) (ls' := [some (vr 395), some (vi (hI h 395 13)), some (vi (hI h 395 14)), none]) (st' := [vR 395]) rfl ?_
      refine gs_395_3 rfl A8 ?_
      rcases oi e with ⟨q10, e⟩ | ⟨q10, e⟩
      · refine hg_ifF (tgt := 40) rfl (by decide) (Abs_rg A8 395 3) (show ¬ ¬ ((hI v8.2 395 3) = 0) from fun f => f q10) ?_
        refine hg_run 2 (pc' := 41) (ls' := [some (vr 395), some (vi (hI h 395 13)), some (vi (hI h 395 14)), none]) (st' := [vI 1]) rfl ?_
        exact t235_j41 hd (rgn 1 rfl) (Abs_rg A 395 13) (Abs_rg A 395 14) A8 e kr
      · refine hg_ifT (tgt := 40) rfl (by decide) (Abs_rg A8 395 3) (show ¬ ((hI v8.2 395 3) = 0) from q10) ?_
        exact t235_j40 hd (Abs_rg A 395 13) (Abs_rg A 395 14) A8 e kr
  · refine hg_icT (tgt := 40) rfl (by decide) (Abs_rg A1 395 3) (rgn 2 rfl) (show ¬ ((hI h1 395 3) = 2) from q2) ?_
    exact t235_j40 hd (Abs_rg A 395 13) (Abs_rg A 395 14) A1 e kr
def c237_b3 (l1 : Int) (l3 : Int) (h : hS) (l4 : Int) : Option ((Int) ⊕ (Int)) :=
  if l4 = (-1) then
  some (.inr (l4))
  else
  (c207 l1 l4 l3 h).bind (fun v2 =>
  if v2 = (-1) then
  (c199 l1 l4 1 h).bind (fun v4 =>
  some (.inl (v4)))
  else
  some (.inr (l4)))
theorem t237_b3 {d : Nat} (hd : 2 ≤ d) {l1 : Int} {l3 : Int} {l4 : Int} {z2 : Option hO} {h : hS} {w : mmW} {o : (Int) ⊕ (Int)} {Q : mmO → Prop} (rl1 : rg l1) (rl3 : rg l3) (rl4 : rg l4) (A : Abs h w) (e : c237_b3 l1 l3 h l4 = some o) (kb : ∀ (s_0 : Int), o = .inl (s_0) → rg s_0 → hG d 237 3 [some (vr 395), some (vi l1), z2, some (vi l3), some (vi s_0)] [] w Q) (ke : ∀ (x_0 : Int), o = .inr (x_0) → rg x_0 → hG d 237 34 [some (vr 395), some (vi l1), z2, some (vi l3), some (vi x_0)] [] w Q) : hG d 237 3 [some (vr 395), some (vi l1), z2, some (vi l3), some (vi l4)] [] w Q := by
  unfold c237_b3 at e
  refine hg_run 2 (pc' := 6) (ls' := [some (vr 395), some (vi l1), z2, some (vi l3), some (vi l4)]) (st' := [vI (-1), vI l4]) rfl ?_
  rcases oi e with ⟨q1, e⟩ | ⟨q1, e⟩
  · refine hg_icT (tgt := 34) rfl (by decide) rl4 (rgn (-1) rfl) q1 ?_
    cases e
    exact ke l4 rfl rl4
  · refine hg_icF (tgt := 34) rfl (by decide) rl4 (rgn (-1) rfl) q1 ?_
    refine hg_run 4 (pc' := 14) (ls' := [some (vr 395), some (vi l1), z2, some (vi l3), some (vi l4)]) (st' := [vI l3, vI l4, vI l1, vR 395]) rfl ?_
    obtain ⟨v2, e2, e⟩ := ob e
    refine hg_cIp (as := [vR 395, vI l1, vI l4, vI l3]) (st' := []) rfl (fun _ _ _ _ => rfl) rfl rfl (Nat.le_of_ble_eq_true rfl) (Nat.le_of_ble_eq_true rfl) (recvV A (a := 13) (Abs_ks A (i := 23) rfl).1) (t207 (by omega) A rl1 rl4 rl3 e2) (fun r2 => ?_)
    refine hg_run 1 (pc' := 18) (ls' := [some (vr 395), some (vi l1), z2, some (vi l3), some (vi l4)]) (st' := [vI (-1), vI v2]) rfl ?_
    rcases oi e with ⟨q3, e⟩ | ⟨q3, e⟩
    · refine hg_icF (tgt := 34) rfl (by decide) r2 (rgn (-1) rfl) (show ¬ ¬ (v2 = (-1)) from fun f => f q3) ?_
      refine hg_run 4 (pc' := 26) (ls' := [some (vr 395), some (vi l1), z2, some (vi l3), some (vi l4)]) (st' := [vI 1, vI l4, vI l1, vR 395]) rfl ?_
      obtain ⟨v4, e4, e⟩ := ob e
      refine hg_cIp (as := [vR 395, vI l1, vI l4, vI 1]) (st' := []) rfl (fun _ _ _ _ => rfl) rfl rfl (Nat.le_of_ble_eq_true rfl) (Nat.le_of_ble_eq_true rfl) (recvV A (a := 13) (Abs_ks A (i := 23) rfl).1) (t199 (by omega) A rl1 rl4 (rgn 1 rfl) e4) (fun r4 => ?_)
      refine hg_run 2 (pc' := 3) (ls' := [some (vr 395), some (vi l1), z2, some (vi l3), some (vi v4)]) (st' := []) rfl ?_
      cases e
      exact kb v4 rfl r4
    · refine hg_icT (tgt := 34) rfl (by decide) r2 (rgn (-1) rfl) (show ¬ (v2 = (-1)) from q3) ?_
      cases e
      exact ke l4 rfl rl4
theorem t237_l3 {d : Nat} (hd : 2 ≤ d) {l1 : Int} {l3 : Int} {z2 : Option hO} {h : hS} {w : mmW} {Q : mmO → Prop} (rl1 : rg l1) (rl3 : rg l3) (n : Nat) {l4 : Int}  {r : Int} (rl4 : rg l4) (A : Abs h w) (e : lp (fun s => c237_b3 l1 l3 h s) n (l4) = some r) (ke : ∀ (x_0 : Int), r = (x_0) → rg x_0 → hG d 237 34 [some (vr 395), some (vi l1), z2, some (vi l3), some (vi x_0)] [] w Q) : hG d 237 3 [some (vr 395), some (vi l1), z2, some (vi l3), some (vi l4)] [] w Q := by
  induction n generalizing l4 with
  | zero => cases e
  | succ n ih =>
    rcases lp_succ e with ⟨s1, e1, e2⟩ | e1
    · exact t237_b3 hd rl1 rl3 rl4 A e1 (fun s_0 q rl4 => by cases q; exact ih rl4 e2) (fun x_0 q => by cases q)
    · exact t237_b3 hd rl1 rl3 rl4 A e1 (fun s_0 q => by cases q) (fun x_0 q => by cases q; exact ke _ rfl)
def c237 (l1 : Int) (l2 : Int) (l3 : Int) (h : hS) : Option (Int) :=
  (lp (fun s => c237_b3 l1 l3 h s) hF0 (l2)).bind (fun r5 =>
  some r5)
theorem t237 {d : Nat} (hd : 3 ≤ d) {l1 : Int} {l2 : Int} {l3 : Int} {h : hS} {w : mmW} {o : Int} (A : Abs h w) (rl1 : rg l1) (rl2 : rg l2) (rl3 : rg l3) (e : c237 l1 l2 l3 h = some o) : hEv d 237 [vR 395, vI l1, vI l2, vI l3] w (qIp o w) := by
  obtain ⟨d, rfl⟩ : ∃ d1, d = d1 + 1 := ⟨d - 1, by omega⟩
  have hd : 2 ≤ d := by omega
  refine hEv_start (args := [vr 395, vi l1, vi l2, vi l3]) (nl := 5) rfl (Nat.le_of_ble_eq_true rfl) ?_
  show hG d 237 0 [some (vr 395), some (vi l1), some (vi l2), some (vi l3), none] [] w _
  have kr : ∀ v1 : Int, o = v1 → rg v1 → qIp o w (some (.int (Int32.ofInt v1)), w) := fun v1 q r => by cases q; exact ⟨rfl, r⟩
  unfold c237 at e
  refine hg_run 2 (pc' := 3) (ls' := [some (vr 395), some (vi l1), some (vi l2), some (vi l3), some (vi l2)]) (st' := []) rfl ?_
  obtain ⟨r5, e5, e⟩ := ob e
  refine t237_l3 hd rl1 rl3 _ rl2 A e5 ?_
  intro x5_0 qq5 q5_4
  subst qq5
  refine hg_run 1 (pc' := 36) (ls' := [some (vr 395), some (vi l1), some (vi l2), some (vi l3), some (vi r5)]) (st' := [vI r5]) rfl ?_
  cases e
  exact hg_retI rfl (by decide) (fit_I _) (kr _ rfl q5_4)
def c236_j112 (s1 : Int) (s2 : Int) (l3 : Int) (l4 : Int) (h : hS) : Option ((Int × hS) ⊕ (hS)) :=
  (wIs h 405 1600 s1 s2).bind (fun h12 =>
  (wIs h12 407 1600 (wadd (wmul 40 l3) l4) (wbol 0)).bind (fun h13 =>
  some (.inl ((wadd l4 1), h13))))
set_option maxRecDepth 100000 in
theorem t236_j112 {d : Nat} (hd : 3 ≤ d) {s1 : Int} {s2 : Int} {l3 : Int} {l4 : Int} {z1 : Option hO} {l2 : Int} {z5 : Option hO} {h : hS} {w : mmW} {o : (Int × hS) ⊕ (hS)} {Q : mmO → Prop} (rs1 : rg s1) (rs2 : rg s2) (rl3 : rg l3) (rl4 : rg l4) (A : Abs h w) (e : c236_j112 s1 s2 l3 l4 h = some o) (kb : ∀ (s_0 : Int) (s_1 : hS), o = .inl (s_0, s_1) → ∀ w', ∀ (y5 : Option hO), rg s_0 → Abs s_1 w' → hG d 236 55 [some (vr 395), z1, some (vi l2), some (vi l3), some (vi s_0), y5] [] w' Q) (ke : ∀ (x_0 : hS), o = .inr (x_0) → ∀ w', ∀ (y4 y5 : Option hO), Abs x_0 w' → hG d 236 132 [some (vr 395), z1, some (vi l2), some (vi l3), y4, y5] [] w' Q) : hG d 236 112 [some (vr 395), z1, some (vi l2), some (vi l3), some (vi l4), z5] [vI s2, vI s1, vR 405] w Q := by
  unfold c236_j112 at e
  obtain ⟨h12, e12, e⟩ := ob e
  refine hg_wIs rfl A (Abs_ks A (i := 33) rfl) (by decide) rs2 e12 (fun w12 A12 => ?_)
  refine hg_run 1 (pc' := 114) (ls' := [some (vr 395), z1, some (vi l2), some (vi l3), some (vi l4), z5]) (st' := [vR 395]) rfl ?_
  refine gs_395_38 rfl A12 ?_
  refine hg_run 6 (pc' := 125) (ls' := [some (vr 395), z1, some (vi l2), some (vi l3), some (vi l4), z5]) (st' := [vI 0, vI (wadd (wmul 40 l3) l4), vR 407]) rfl ?_
  obtain ⟨h13, e13, e⟩ := ob e
  refine hg_wBs rfl A12 (Abs_ks A12 (i := 35) rfl) (by decide) e13 (fun w13 A13 => ?_)
  refine hg_run 2 (pc' := 55) (ls' := [some (vr 395), z1, some (vi l2), some (vi l3), some (vi (wadd l4 1)), z5]) (st' := []) rfl ?_
  cases e
  exact kb (wadd l4 1) h13 rfl _ _ (rg_add _ _) A13
def c236_b55 (l2 : Int) (l3 : Int) (l4 : Int) (h : hS) : Option ((Int × hS) ⊕ (hS)) :=
  if 40 ≤ l4 then
  some (.inr (h))
  else
  (c237 0 l2 l4 h).bind (fun v8 =>
  if v8 = (-1) then
  c236_j112 (wadd (wmul 40 l3) l4) 0 l3 l4 h
  else
  (c207 0 v8 l4 h).bind (fun v10 =>
  (c199 0 v8 (wadd 14 v10) h).bind (fun v11 =>
  c236_j112 (wadd (wmul 40 l3) l4) v11 l3 l4 h)))
set_option maxRecDepth 100000 in
theorem t236_b55 {d : Nat} (hd : 3 ≤ d) {l2 : Int} {l3 : Int} {l4 : Int} {z1 : Option hO} {z5 : Option hO} {h : hS} {w : mmW} {o : (Int × hS) ⊕ (hS)} {Q : mmO → Prop} (rl2 : rg l2) (rl3 : rg l3) (rl4 : rg l4) (A : Abs h w) (e : c236_b55 l2 l3 l4 h = some o) (kb : ∀ (s_0 : Int) (s_1 : hS), o = .inl (s_0, s_1) → ∀ w', ∀ (y5 : Option hO), rg s_0 → Abs s_1 w' → hG d 236 55 [some (vr 395), z1, some (vi l2), some (vi l3), some (vi s_0), y5] [] w' Q) (ke : ∀ (x_0 : hS), o = .inr (x_0) → ∀ w', ∀ (y4 y5 : Option hO), Abs x_0 w' → hG d 236 132 [some (vr 395), z1, some (vi l2), some (vi l3), y4, y5] [] w' Q) : hG d 236 55 [some (vr 395), z1, some (vi l2), some (vi l3), some (vi l4), z5] [] w Q := by
  unfold c236_b55 at e
  refine hg_run 2 (pc' := 59) (ls' := [some (vr 395), z1, some (vi l2), some (vi l3), some (vi l4), z5]) (st' := [vI 40, vI l4]) rfl ?_
  rcases oi e with ⟨q7, e⟩ | ⟨q7, e⟩
  · refine hg_icT (tgt := 132) rfl (by decide) rl4 (rgn 40 rfl) q7 ?_
    cases e
    exact ke h rfl _ _ _  A
  · refine hg_icF (tgt := 132) rfl (by decide) rl4 (rgn 40 rfl) q7 ?_
    refine hg_run 4 (pc' := 67) (ls' := [some (vr 395), z1, some (vi l2), some (vi l3), some (vi l4), z5]) (st' := [vI l4, vI l2, vI 0, vR 395]) rfl ?_
    obtain ⟨v8, e8, e⟩ := ob e
    refine hg_cIp (as := [vR 395, vI 0, vI l2, vI l4]) (st' := []) rfl (fun _ _ _ _ => rfl) rfl rfl (Nat.le_of_ble_eq_true rfl) (Nat.le_of_ble_eq_true rfl) (recvV A (a := 13) (Abs_ks A (i := 23) rfl).1) (t237 (by omega) A (rgn 0 rfl) rl2 rl4 e8) (fun r8 => ?_)
    refine hg_run 2 (pc' := 73) (ls' := [some (vr 395), z1, some (vi l2), some (vi l3), some (vi l4), some (vi v8)]) (st' := [vR 395]) rfl ?_
    refine gs_395_36 rfl A ?_
    refine hg_run 7 (pc' := 86) (ls' := [some (vr 395), z1, some (vi l2), some (vi l3), some (vi l4), some (vi v8)]) (st' := [vI (-1), vI v8, vI (wadd (wmul 40 l3) l4), vR 405]) rfl ?_
    rcases oi e with ⟨q9, e⟩ | ⟨q9, e⟩
    · refine hg_icF (tgt := 93) rfl (by decide) r8 (rgn (-1) rfl) (show ¬ ¬ (v8 = (-1)) from fun f => f q9) ?_
      refine hg_run 2 (pc' := 112) (ls' := [some (vr 395), z1, some (vi l2), some (vi l3), some (vi l4), some (vi v8)]) (st' := [vI 0, vI (wadd (wmul 40 l3) l4), vR 405]) rfl ?_
      exact t236_j112 hd (rg_add _ _) (rgn 0 rfl) rl3 rl4 A e kb ke
    · refine hg_icT (tgt := 93) rfl (by decide) r8 (rgn (-1) rfl) (show ¬ (v8 = (-1)) from q9) ?_
      refine hg_run 8 (pc' := 105) (ls' := [some (vr 395), z1, some (vi l2), some (vi l3), some (vi l4), some (vi v8)]) (st' := [vI l4, vI v8, vI 0, vR 395, vI 14, vI v8, vI 0, vR 395, vI (wadd (wmul 40 l3) l4), vR 405]) rfl ?_
      obtain ⟨v10, e10, e⟩ := ob e
      refine hg_cIp (as := [vR 395, vI 0, vI v8, vI l4]) (st' := [vI 14, vI v8, vI 0, vR 395, vI (wadd (wmul 40 l3) l4), vR 405]) rfl (fun _ _ _ _ => rfl) rfl rfl (Nat.le_of_ble_eq_true rfl) (Nat.le_of_ble_eq_true rfl) (recvV A (a := 13) (Abs_ks A (i := 23) rfl).1) (t207 (by omega) A (rgn 0 rfl) r8 rl4 e10) (fun r10 => ?_)
      refine hg_run 1 (pc' := 109) (ls' := [some (vr 395), z1, some (vi l2), some (vi l3), some (vi l4), some (vi v8)]) (st' := [vI (wadd 14 v10), vI v8, vI 0, vR 395, vI (wadd (wmul 40 l3) l4), vR 405]) rfl ?_
      obtain ⟨v11, e11, e⟩ := ob e
      refine hg_cIp (as := [vR 395, vI 0, vI v8, vI (wadd 14 v10)]) (st' := [vI (wadd (wmul 40 l3) l4), vR 405]) rfl (fun _ _ _ _ => rfl) rfl rfl (Nat.le_of_ble_eq_true rfl) (Nat.le_of_ble_eq_true rfl) (recvV A (a := 13) (Abs_ks A (i := 23) rfl).1) (t199 (by omega) A (rgn 0 rfl) r8 (rg_add _ _) e11) (fun r11 => ?_)
      exact t236_j112 hd (rg_add _ _) r11 rl3 rl4 A e kb ke
set_option maxRecDepth 100000 in
theorem t236_l55 {d : Nat} (hd : 3 ≤ d) {l2 : Int} {l3 : Int} {z1 : Option hO} {Q : mmO → Prop} (rl2 : rg l2) (rl3 : rg l3) (n : Nat) {l4 : Int} {z5 : Option hO} {h : hS} {w : mmW} {r : hS} (rl4 : rg l4) (A : Abs h w) (e : lp (fun s => c236_b55 l2 l3 s.1 s.2) n (l4, h) = some r) (ke : ∀ (x_0 : hS), r = (x_0) → ∀ w', ∀ (y4 y5 : Option hO), Abs x_0 w' → hG d 236 132 [some (vr 395), z1, some (vi l2), some (vi l3), y4, y5] [] w' Q) : hG d 236 55 [some (vr 395), z1, some (vi l2), some (vi l3), some (vi l4), z5] [] w Q := by
  induction n generalizing l4 z5 h w with
  | zero => cases e
  | succ n ih =>
    rcases lp_succ e with ⟨s1, e1, e2⟩ | e1
    · exact t236_b55 hd rl2 rl3 rl4 A e1 (fun s_0 s_1 q w1 y5 rl4 A1 => by cases q; exact ih rl4 A1 e2) (fun x_0 q => by cases q)
    · exact t236_b55 hd rl2 rl3 rl4 A e1 (fun s_0 s_1 q => by cases q) (fun x_0 q => by cases q; exact ke _ rfl)
def c236 (l1 : Int) (h : hS) : Option (Int × hS) :=
  (c197 0 l1 h).bind (fun v1 =>
  if v1 = (-1) then
  some ((-1), h)
  else
  if (hI h 395 33) = 40 then
  some ((-1), h)
  else
  (some (sI h 395 33 (wadd (hI h 395 33) 1))).bind (fun h4 =>
  (wIs h4 403 40 (hI h 395 33) (wbol 1)).bind (fun h5 =>
  (wIs h5 404 40 (hI h 395 33) v1).bind (fun h6 =>
  (lp (fun s => c236_b55 v1 (hI h 395 33) s.1 s.2) hF0 (0, h6)).bind (fun r14 =>
  (wIs r14 418 40 (hI h 395 33) 3).bind (fun h15 =>
  some ((hI h 395 33), h15)))))))
set_option maxRecDepth 100000 in
theorem t236 {d : Nat} (hd : 4 ≤ d) {l1 : Int} {h : hS} {w : mmW} {o : Int × hS} (A : Abs h w) (rl1 : rg l1) (e : c236 l1 h = some o) : hEv d 236 [vR 395, vI l1] w (qI o) := by
  obtain ⟨d, rfl⟩ : ∃ d1, d = d1 + 1 := ⟨d - 1, by omega⟩
  have hd : 3 ≤ d := by omega
  refine hEv_start (args := [vr 395, vi l1]) (nl := 6) rfl (Nat.le_of_ble_eq_true rfl) ?_
  show hG d 236 0 [some (vr 395), some (vi l1), none, none, none, none] [] w _
  have kr : ∀ (v1 : Int) (h1 : hS), o = (v1, h1) → ∀ w', rg v1 → Abs h1 w' → qI o (some (.int (Int32.ofInt v1)), w') := fun v1 h1 q w' r A' => by cases q; exact ⟨rfl, r, A'⟩
  unfold c236 at e
  refine hg_run 3 (pc' := 3) (ls' := [some (vr 395), some (vi l1), none, none, none, none]) (st' := [vI l1, vI 0, vR 395]) rfl ?_
  obtain ⟨v1, e1, e⟩ := ob e
  refine hg_cIp (as := [vR 395, vI 0, vI l1]) (st' := []) rfl (fun _ _ _ _ => rfl) rfl rfl (Nat.le_of_ble_eq_true rfl) (Nat.le_of_ble_eq_true rfl) (recvV A (a := 13) (Abs_ks A (i := 23) rfl).1) (t197 (by omega) A (rgn 0 rfl) rl1 e1) (fun r1 => ?_)
  refine hg_run 3 (pc' := 9) (ls' := [some (vr 395), some (vi l1), some (vi v1), none, none, none]) (st' := [vI (-1), vI v1]) rfl ?_
  rcases oi e with ⟨q2, e⟩ | ⟨q2, e⟩
  · refine hg_icT (tgt := 21) rfl (by decide) r1 (rgn (-1) rfl) q2 ?_
    refine hg_run 1 (pc' := 22) (ls' := [some (vr 395), some (vi l1), some (vi v1), none, none, none]) (st' := [vI (-1)]) rfl ?_
    cases e
    exact hg_retI rfl (by decide) (fit_I _) (kr _ _ rfl _ (rgn (-1) rfl) A)
  · refine hg_icF (tgt := 21) rfl (by decide) r1 (rgn (-1) rfl) q2 ?_
    refine hg_run 1 (pc' := 13) (ls' := [some (vr 395), some (vi l1), some (vi v1), none, none, none]) (st' := [vR 395]) rfl ?_
    refine gs_395_33 rfl A ?_
    refine hg_run 1 (pc' := 18) (ls' := [some (vr 395), some (vi l1), some (vi v1), none, none, none]) (st' := [vI 40, vI (hI h 395 33)]) rfl ?_
    rcases oi e with ⟨q3, e⟩ | ⟨q3, e⟩
    · refine hg_icF (tgt := 23) rfl (by decide) (Abs_rg A 395 33) (rgn 40 rfl) (show ¬ ¬ ((hI h 395 33) = 40) from fun f => f q3) ?_
      refine hg_run 1 (pc' := 22) (ls' := [some (vr 395), some (vi l1), some (vi v1), none, none, none]) (st' := [vI (-1)]) rfl ?_
      cases e
      exact hg_retI rfl (by decide) (fit_I _) (kr _ _ rfl _ (rgn (-1) rfl) A)
    · refine hg_icT (tgt := 23) rfl (by decide) (Abs_rg A 395 33) (rgn 40 rfl) (show ¬ ((hI h 395 33) = 40) from q3) ?_
      refine hg_run 1 (pc' := 24) (ls' := [some (vr 395), some (vi l1), some (vi v1), none, none, none]) (st' := [vR 395]) rfl ?_
      refine gs_395_33 rfl A ?_
      refine hg_run 3 (pc' := 30) (ls' := [some (vr 395), some (vi l1), some (vi v1), some (vi (hI h 395 33)), none, none]) (st' := [vR 395, vR 395]) rfl ?_
      refine gs_395_33 rfl A ?_
      refine hg_run 2 (pc' := 35) (ls' := [some (vr 395), some (vi l1), some (vi v1), some (vi (hI h 395 33)), none, none]) (st' := [vI (wadd (hI h 395 33) 1), vR 395]) rfl ?_
      obtain ⟨h4, e4, e⟩ := ob e
      refine ps_395_33 rfl A (rg_add _ _) e4 (fun w4 A4 => ?_)
      refine hg_run 1 (pc' := 39) (ls' := [some (vr 395), some (vi l1), some (vi v1), some (vi (hI h 395 33)), none, none]) (st' := [vR 395]) rfl ?_
      refine gs_395_34 rfl A4 ?_
      refine hg_run 2 (pc' := 44) (ls' := [some (vr 395), some (vi l1), some (vi v1), some (vi (hI h 395 33)), none, none]) (st' := [vI 1, vI (hI h 395 33), vR 403]) rfl ?_
      obtain ⟨h5, e5, e⟩ := ob e
      refine hg_wBs rfl A4 (Abs_ks A4 (i := 31) rfl) (by decide) e5 (fun w5 A5 => ?_)
      refine hg_run 1 (pc' := 46) (ls' := [some (vr 395), some (vi l1), some (vi v1), some (vi (hI h 395 33)), none, none]) (st' := [vR 395]) rfl ?_
      refine gs_395_35 rfl A5 ?_
      refine hg_run 2 (pc' := 51) (ls' := [some (vr 395), some (vi l1), some (vi v1), some (vi (hI h 395 33)), none, none]) (st' := [vI v1, vI (hI h 395 33), vR 404]) rfl ?_
      obtain ⟨h6, e6, e⟩ := ob e
      refine hg_wIs rfl A5 (Abs_ks A5 (i := 32) rfl) (by decide) r1 e6 (fun w6 A6 => ?_)
      refine hg_run 2 (pc' := 55) (ls' := [some (vr 395), some (vi l1), some (vi v1), some (vi (hI h 395 33)), some (vi 0), none]) (st' := []) rfl ?_
      obtain ⟨r14, e14, e⟩ := ob e
      refine t236_l55 hd r1 (Abs_rg A 395 33) _ (rgn 0 rfl) A6 e14 ?_
      intro x14_0 qq14 w14 z14_4 z14_5 A14
      subst qq14
      refine hg_run 1 (pc' := 133) (ls' := [some (vr 395), some (vi l1), some (vi v1), some (vi (hI h 395 33)), z14_4, z14_5]) (st' := [vR 395]) rfl ?_
      refine gs_395_61 rfl A14 ?_
      refine hg_run 2 (pc' := 138) (ls' := [some (vr 395), some (vi l1), some (vi v1), some (vi (hI h 395 33)), z14_4, z14_5]) (st' := [vI 3, vI (hI h 395 33), vR 418]) rfl ?_
      obtain ⟨h15, e15, e⟩ := ob e
      refine hg_wIs rfl A14 (Abs_ks A14 (i := 46) rfl) (by decide) (rgn 3 rfl) e15 (fun w15 A15 => ?_)
      refine hg_run 1 (pc' := 140) (ls' := [some (vr 395), some (vi l1), some (vi v1), some (vi (hI h 395 33)), z14_4, z14_5]) (st' := [vI (hI h 395 33)]) rfl ?_
      cases e
      exact hg_retI rfl (by decide) (fit_I _) (kr _ _ rfl _ (Abs_rg A 395 33) A15)
def c238 (h : hS) : Option (Int) :=
  (c198 0 h).bind (fun v1 =>
  some v1)
theorem t238 {d : Nat} (hd : 2 ≤ d)  {h : hS} {w : mmW} {o : Int} (A : Abs h w)  (e : c238 h = some o) : hEv d 238 [vR 395] w (qIp o w) := by
  obtain ⟨d, rfl⟩ : ∃ d1, d = d1 + 1 := ⟨d - 1, by omega⟩
  have hd : 1 ≤ d := by omega
  refine hEv_start (args := [vr 395]) (nl := 1) rfl (Nat.le_of_ble_eq_true rfl) ?_
  show hG d 238 0 [some (vr 395)] [] w _
  have kr : ∀ v1 : Int, o = v1 → rg v1 → qIp o w (some (.int (Int32.ofInt v1)), w) := fun v1 q r => by cases q; exact ⟨rfl, r⟩
  unfold c238 at e
  refine hg_run 2 (pc' := 2) (ls' := [some (vr 395)]) (st' := [vI 0, vR 395]) rfl ?_
  obtain ⟨v1, e1, e⟩ := ob e
  refine hg_cIp (as := [vR 395, vI 0]) (st' := []) rfl (fun _ _ _ _ => rfl) rfl rfl (Nat.le_of_ble_eq_true rfl) (Nat.le_of_ble_eq_true rfl) (recvV A (a := 13) (Abs_ks A (i := 23) rfl).1) (t198 (by omega) A (rgn 0 rfl) e1) (fun r1 => ?_)
  cases e
  exact hg_retI rfl (by decide) (fit_I _) (kr _ rfl r1)
def c239 (l1 : Int) (l2 : Int) (h : hS) : Option (Int) :=
  (c198 0 h).bind (fun v1 =>
  (c191 l1 0 (wsub v1 1) h).bind (fun v2 =>
  if v2 = 0 then
  some (-1)
  else
  if l2 < 0 ∨ 5 < l2 then
  some (-1)
  else
  if l2 = 0 then
  (c199 0 l1 0 h).bind (fun v6 =>
  some v6)
  else
  if l2 = 1 then
  (c199 0 l1 1 h).bind (fun v8 =>
  if v8 = (-1) then
  some (-1)
  else
  (c199 0 l1 1 h).bind (fun v10 =>
  (c199 0 v10 0 h).bind (fun v11 =>
  some v11)))
  else
  if l2 = 2 then
  (c199 0 l1 2 h).bind (fun v13 =>
  some v13)
  else
  if l2 = 3 then
  (c199 0 l1 5 h).bind (fun v15 =>
  some v15)
  else
  if l2 = 4 then
  (c199 0 l1 30 h).bind (fun v17 =>
  some v17)
  else
  if l2 = 5 then
  (c199 0 l1 39 h).bind (fun v19 =>
  some v19)
  else
  none))
theorem t239 {d : Nat} (hd : 2 ≤ d) {l1 : Int} {l2 : Int} {h : hS} {w : mmW} {o : Int} (A : Abs h w) (rl1 : rg l1) (rl2 : rg l2) (e : c239 l1 l2 h = some o) : hEv d 239 [vR 395, vI l1, vI l2] w (qIp o w) := by
  obtain ⟨d, rfl⟩ : ∃ d1, d = d1 + 1 := ⟨d - 1, by omega⟩
  have hd : 1 ≤ d := by omega
  refine hEv_start (args := [vr 395, vi l1, vi l2]) (nl := 3) rfl (Nat.le_of_ble_eq_true rfl) ?_
  show hG d 239 0 [some (vr 395), some (vi l1), some (vi l2)] [] w _
  have kr : ∀ v1 : Int, o = v1 → rg v1 → qIp o w (some (.int (Int32.ofInt v1)), w) := fun v1 q r => by cases q; exact ⟨rfl, r⟩
  unfold c239 at e
  refine hg_run 4 (pc' := 4) (ls' := [some (vr 395), some (vi l1), some (vi l2)]) (st' := [vI 0, vR 395, vI 0, vI l1]) rfl ?_
  obtain ⟨v1, e1, e⟩ := ob e
  refine hg_cIp (as := [vR 395, vI 0]) (st' := [vI 0, vI l1]) rfl (fun _ _ _ _ => rfl) rfl rfl (Nat.le_of_ble_eq_true rfl) (Nat.le_of_ble_eq_true rfl) (recvV A (a := 13) (Abs_ks A (i := 23) rfl).1) (t198 (by omega) A (rgn 0 rfl) e1) (fun r1 => ?_)
  refine hg_run 2 (pc' := 9) (ls' := [some (vr 395), some (vi l1), some (vi l2)]) (st' := [vI (wsub v1 1), vI 0, vI l1]) rfl ?_
  obtain ⟨v2, e2, e⟩ := ob e
  refine hg_cIp (as := [vI l1, vI 0, vI (wsub v1 1)]) (st' := []) rfl (fun _ _ _ _ => rfl) rfl rfl (Nat.le_of_ble_eq_true rfl) (Nat.le_of_ble_eq_true rfl) recv0 (t191 (by omega) A rl1 (rgn 0 rfl) (rg_sub _ _) e2) (fun r2 => ?_)
  rcases oi e with ⟨q3, e⟩ | ⟨q3, e⟩
  · refine hg_ifF (tgt := 17) rfl (by decide) r2 (show ¬ ¬ (v2 = 0) from fun f => f q3) ?_
    refine hg_run 1 (pc' := 16) (ls' := [some (vr 395), some (vi l1), some (vi l2)]) (st' := [vI (-1)]) rfl ?_
    cases e
    exact hg_retI rfl (by decide) (fit_I _) (kr _ rfl (rgn (-1) rfl))
  · refine hg_ifT (tgt := 17) rfl (by decide) r2 (show ¬ (v2 = 0) from q3) ?_
    refine hg_run 1 (pc' := 18) (ls' := [some (vr 395), some (vi l1), some (vi l2)]) (st' := [vI l2]) rfl ?_
    rcases oi e with ⟨q4, e⟩ | ⟨q4, e⟩
    · refine hg_tsD (tgt := 127) rfl rl2 q4 (by decide) ?_
      refine hg_run 1 (pc' := 128) (ls' := [some (vr 395), some (vi l1), some (vi l2)]) (st' := [vI (-1)]) rfl ?_
      cases e
      exact hg_retI rfl (by decide) (fit_I _) (kr _ rfl (rgn (-1) rfl))
    · rcases oi e with ⟨q5, e⟩ | ⟨q5, e⟩
      · refine hg_tsC (tgt := 56) rfl rl2 q5 (by decide) rfl (by decide) ?_
        refine hg_run 4 (pc' := 60) (ls' := [some (vr 395), some (vi l1), some (vi l2)]) (st' := [vI 0, vI l1, vI 0, vR 395]) rfl ?_
        obtain ⟨v6, e6, e⟩ := ob e
        refine hg_cIp (as := [vR 395, vI 0, vI l1, vI 0]) (st' := []) rfl (fun _ _ _ _ => rfl) rfl rfl (Nat.le_of_ble_eq_true rfl) (Nat.le_of_ble_eq_true rfl) (recvV A (a := 13) (Abs_ks A (i := 23) rfl).1) (t199 (by omega) A (rgn 0 rfl) rl1 (rgn 0 rfl) e6) (fun r6 => ?_)
        cases e
        exact hg_retI rfl (by decide) (fit_I _) (kr _ rfl r6)
      · rcases oi e with ⟨q7, e⟩ | ⟨q7, e⟩
        · refine hg_tsC (tgt := 64) rfl rl2 q7 (by decide) rfl (by decide) ?_
          refine hg_run 4 (pc' := 68) (ls' := [some (vr 395), some (vi l1), some (vi l2)]) (st' := [vI 1, vI l1, vI 0, vR 395]) rfl ?_
          obtain ⟨v8, e8, e⟩ := ob e
          refine hg_cIp (as := [vR 395, vI 0, vI l1, vI 1]) (st' := []) rfl (fun _ _ _ _ => rfl) rfl rfl (Nat.le_of_ble_eq_true rfl) (Nat.le_of_ble_eq_true rfl) (recvV A (a := 13) (Abs_ks A (i := 23) rfl).1) (t199 (by omega) A (rgn 0 rfl) rl1 (rgn 1 rfl) e8) (fun r8 => ?_)
          refine hg_run 1 (pc' := 72) (ls' := [some (vr 395), some (vi l1), some (vi l2)]) (st' := [vI (-1), vI v8]) rfl ?_
          rcases oi e with ⟨q9, e⟩ | ⟨q9, e⟩
          · refine hg_icF (tgt := 79) rfl (by decide) r8 (rgn (-1) rfl) (show ¬ ¬ (v8 = (-1)) from fun f => f q9) ?_
            refine hg_run 2 (pc' := 92) (ls' := [some (vr 395), some (vi l1), some (vi l2)]) (st' := [vI (-1)]) rfl ?_
            cases e
            exact hg_retI rfl (by decide) (fit_I _) (kr _ rfl (rgn (-1) rfl))
          · refine hg_icT (tgt := 79) rfl (by decide) r8 (rgn (-1) rfl) (show ¬ (v8 = (-1)) from q9) ?_
            refine hg_run 6 (pc' := 85) (ls' := [some (vr 395), some (vi l1), some (vi l2)]) (st' := [vI 1, vI l1, vI 0, vR 395, vI 0, vR 395]) rfl ?_
            obtain ⟨v10, e10, e⟩ := ob e
            refine hg_cIp (as := [vR 395, vI 0, vI l1, vI 1]) (st' := [vI 0, vR 395]) rfl (fun _ _ _ _ => rfl) rfl rfl (Nat.le_of_ble_eq_true rfl) (Nat.le_of_ble_eq_true rfl) (recvV A (a := 13) (Abs_ks A (i := 23) rfl).1) (t199 (by omega) A (rgn 0 rfl) rl1 (rgn 1 rfl) e10) (fun r10 => ?_)
            refine hg_run 1 (pc' := 89) (ls' := [some (vr 395), some (vi l1), some (vi l2)]) (st' := [vI 0, vI v10, vI 0, vR 395]) rfl ?_
            obtain ⟨v11, e11, e⟩ := ob e
            refine hg_cIp (as := [vR 395, vI 0, vI v10, vI 0]) (st' := []) rfl (fun _ _ _ _ => rfl) rfl rfl (Nat.le_of_ble_eq_true rfl) (Nat.le_of_ble_eq_true rfl) (recvV A (a := 13) (Abs_ks A (i := 23) rfl).1) (t199 (by omega) A (rgn 0 rfl) r10 (rgn 0 rfl) e11) (fun r11 => ?_)
            cases e
            exact hg_retI rfl (by decide) (fit_I _) (kr _ rfl r11)
        · rcases oi e with ⟨q12, e⟩ | ⟨q12, e⟩
          · refine hg_tsC (tgt := 93) rfl rl2 q12 (by decide) rfl (by decide) ?_
            refine hg_run 4 (pc' := 97) (ls' := [some (vr 395), some (vi l1), some (vi l2)]) (st' := [vI 2, vI l1, vI 0, vR 395]) rfl ?_
            obtain ⟨v13, e13, e⟩ := ob e
            refine hg_cIp (as := [vR 395, vI 0, vI l1, vI 2]) (st' := []) rfl (fun _ _ _ _ => rfl) rfl rfl (Nat.le_of_ble_eq_true rfl) (Nat.le_of_ble_eq_true rfl) (recvV A (a := 13) (Abs_ks A (i := 23) rfl).1) (t199 (by omega) A (rgn 0 rfl) rl1 (rgn 2 rfl) e13) (fun r13 => ?_)
            cases e
            exact hg_retI rfl (by decide) (fit_I _) (kr _ rfl r13)
          · rcases oi e with ⟨q14, e⟩ | ⟨q14, e⟩
            · refine hg_tsC (tgt := 101) rfl rl2 q14 (by decide) rfl (by decide) ?_
              refine hg_run 4 (pc' := 105) (ls' := [some (vr 395), some (vi l1), some (vi l2)]) (st' := [vI 5, vI l1, vI 0, vR 395]) rfl ?_
              obtain ⟨v15, e15, e⟩ := ob e
              refine hg_cIp (as := [vR 395, vI 0, vI l1, vI 5]) (st' := []) rfl (fun _ _ _ _ => rfl) rfl rfl (Nat.le_of_ble_eq_true rfl) (Nat.le_of_ble_eq_true rfl) (recvV A (a := 13) (Abs_ks A (i := 23) rfl).1) (t199 (by omega) A (rgn 0 rfl) rl1 (rgn 5 rfl) e15) (fun r15 => ?_)
              cases e
              exact hg_retI rfl (by decide) (fit_I _) (kr _ rfl r15)
            · rcases oi e with ⟨q16, e⟩ | ⟨q16, e⟩
              · refine hg_tsC (tgt := 109) rfl rl2 q16 (by decide) rfl (by decide) ?_
                refine hg_run 4 (pc' := 114) (ls' := [some (vr 395), some (vi l1), some (vi l2)]) (st' := [vI 30, vI l1, vI 0, vR 395]) rfl ?_
                obtain ⟨v17, e17, e⟩ := ob e
                refine hg_cIp (as := [vR 395, vI 0, vI l1, vI 30]) (st' := []) rfl (fun _ _ _ _ => rfl) rfl rfl (Nat.le_of_ble_eq_true rfl) (Nat.le_of_ble_eq_true rfl) (recvV A (a := 13) (Abs_ks A (i := 23) rfl).1) (t199 (by omega) A (rgn 0 rfl) rl1 (rgn 30 rfl) e17) (fun r17 => ?_)
                cases e
                exact hg_retI rfl (by decide) (fit_I _) (kr _ rfl r17)
              · rcases oi e with ⟨q18, e⟩ | ⟨q18, e⟩
                · refine hg_tsC (tgt := 118) rfl rl2 q18 (by decide) rfl (by decide) ?_
                  refine hg_run 4 (pc' := 123) (ls' := [some (vr 395), some (vi l1), some (vi l2)]) (st' := [vI 39, vI l1, vI 0, vR 395]) rfl ?_
                  obtain ⟨v19, e19, e⟩ := ob e
                  refine hg_cIp (as := [vR 395, vI 0, vI l1, vI 39]) (st' := []) rfl (fun _ _ _ _ => rfl) rfl rfl (Nat.le_of_ble_eq_true rfl) (Nat.le_of_ble_eq_true rfl) (recvV A (a := 13) (Abs_ks A (i := 23) rfl).1) (t199 (by omega) A (rgn 0 rfl) rl1 (rgn 39 rfl) e19) (fun r19 => ?_)
                  cases e
                  exact hg_retI rfl (by decide) (fit_I _) (kr _ rfl r19)
                · cases e
def c241 (l1 : Int) (h : hS) : Option (Int) :=
  (c191 l1 0 (wsub (hI h 395 33) 1) h).bind (fun v1 =>
  if v1 = 0 then
  some 0
  else
  (aIs h 403 40 l1).bind (fun v3 =>
  if v3 = 0 then
  some 0
  else
  some 1))
theorem t241 {d : Nat} (hd : 2 ≤ d) {l1 : Int} {h : hS} {w : mmW} {o : Int} (A : Abs h w) (rl1 : rg l1) (e : c241 l1 h = some o) : hEv d 241 [vR 395, vI l1] w (qIp o w) := by
  obtain ⟨d, rfl⟩ : ∃ d1, d = d1 + 1 := ⟨d - 1, by omega⟩
  have hd : 1 ≤ d := by omega
  refine hEv_start (args := [vr 395, vi l1]) (nl := 2) rfl (Nat.le_of_ble_eq_true rfl) ?_
  show hG d 241 0 [some (vr 395), some (vi l1)] [] w _
  have kr : ∀ v1 : Int, o = v1 → rg v1 → qIp o w (some (.int (Int32.ofInt v1)), w) := fun v1 q r => by cases q; exact ⟨rfl, r⟩
  unfold c241 at e
  refine hg_run 3 (pc' := 3) (ls' := [some (vr 395), some (vi l1)]) (st' := [vR 395, vI 0, vI l1]) rfl ?_
  refine gs_395_33 rfl A ?_
  refine hg_run 2 (pc' := 8) (ls' := [some (vr 395), some (vi l1)]) (st' := [vI (wsub (hI h 395 33) 1), vI 0, vI l1]) rfl ?_
  obtain ⟨v1, e1, e⟩ := ob e
  refine hg_cIp (as := [vI l1, vI 0, vI (wsub (hI h 395 33) 1)]) (st' := []) rfl (fun _ _ _ _ => rfl) rfl rfl (Nat.le_of_ble_eq_true rfl) (Nat.le_of_ble_eq_true rfl) recv0 (t191 (by omega) A rl1 (rgn 0 rfl) (rg_sub _ _) e1) (fun r1 => ?_)
  rcases oi e with ⟨q2, e⟩ | ⟨q2, e⟩
  · refine hg_ifT (tgt := 27) rfl (by decide) r1 q2 ?_
    refine hg_run 1 (pc' := 28) (ls' := [some (vr 395), some (vi l1)]) (st' := [vI 0]) rfl ?_
    cases e
    exact hg_retI rfl (by decide) (fit_B (.inl rfl)) (kr _ rfl (rgn 0 rfl))
  · refine hg_ifF (tgt := 27) rfl (by decide) r1 q2 ?_
    refine hg_run 1 (pc' := 15) (ls' := [some (vr 395), some (vi l1)]) (st' := [vR 395]) rfl ?_
    refine gs_395_34 rfl A ?_
    refine hg_run 1 (pc' := 19) (ls' := [some (vr 395), some (vi l1)]) (st' := [vI l1, vR 403]) rfl ?_
    obtain ⟨v3, e3, e⟩ := ob e
    refine hg_aIs 1 rfl (fun _ _ _ _ => rfl) A (Abs_ks A (i := 31) rfl) rfl (by decide) e3 (fun r3 => ?_)
    rcases oi e with ⟨q4, e⟩ | ⟨q4, e⟩
    · refine hg_ifT (tgt := 27) rfl (by decide) r3 q4 ?_
      refine hg_run 1 (pc' := 28) (ls' := [some (vr 395), some (vi l1)]) (st' := [vI 0]) rfl ?_
      cases e
      exact hg_retI rfl (by decide) (fit_B (.inl rfl)) (kr _ rfl (rgn 0 rfl))
    · refine hg_ifF (tgt := 27) rfl (by decide) r3 q4 ?_
      refine hg_run 2 (pc' := 28) (ls' := [some (vr 395), some (vi l1)]) (st' := [vI 1]) rfl ?_
      cases e
      exact hg_retI rfl (by decide) (fit_B (.inr rfl)) (kr _ rfl (rgn 1 rfl))
def c240 (l1 : Int) (h : hS) : Option (Int) :=
  (c241 l1 h).bind (fun v1 =>
  if v1 = 0 then
  some (-1)
  else
  (aIs h 404 40 l1).bind (fun v3 =>
  (c199 0 v3 0 h).bind (fun v4 =>
  some v4)))
theorem t240 {d : Nat} (hd : 3 ≤ d) {l1 : Int} {h : hS} {w : mmW} {o : Int} (A : Abs h w) (rl1 : rg l1) (e : c240 l1 h = some o) : hEv d 240 [vR 395, vI l1] w (qIp o w) := by
  obtain ⟨d, rfl⟩ : ∃ d1, d = d1 + 1 := ⟨d - 1, by omega⟩
  have hd : 2 ≤ d := by omega
  refine hEv_start (args := [vr 395, vi l1]) (nl := 2) rfl (Nat.le_of_ble_eq_true rfl) ?_
  show hG d 240 0 [some (vr 395), some (vi l1)] [] w _
  have kr : ∀ v1 : Int, o = v1 → rg v1 → qIp o w (some (.int (Int32.ofInt v1)), w) := fun v1 q r => by cases q; exact ⟨rfl, r⟩
  unfold c240 at e
  refine hg_run 2 (pc' := 2) (ls' := [some (vr 395), some (vi l1)]) (st' := [vI l1, vR 395]) rfl ?_
  obtain ⟨v1, e1, e⟩ := ob e
  refine hg_cIp (as := [vR 395, vI l1]) (st' := []) rfl (fun _ _ _ _ => rfl) rfl rfl (Nat.le_of_ble_eq_true rfl) (Nat.le_of_ble_eq_true rfl) (recvV A (a := 13) (Abs_ks A (i := 23) rfl).1) (t241 (by omega) A rl1 e1) (fun r1 => ?_)
  rcases oi e with ⟨q2, e⟩ | ⟨q2, e⟩
  · refine hg_ifT (tgt := 23) rfl (by decide) r1 q2 ?_
    refine hg_run 1 (pc' := 24) (ls' := [some (vr 395), some (vi l1)]) (st' := [vI (-1)]) rfl ?_
    cases e
    exact hg_retI rfl (by decide) (fit_I _) (kr _ rfl (rgn (-1) rfl))
  · refine hg_ifF (tgt := 23) rfl (by decide) r1 q2 ?_
    refine hg_run 3 (pc' := 11) (ls' := [some (vr 395), some (vi l1)]) (st' := [vR 395, vI 0, vR 395]) rfl ?_
    refine gs_395_35 rfl A ?_
    refine hg_run 1 (pc' := 15) (ls' := [some (vr 395), some (vi l1)]) (st' := [vI l1, vR 404, vI 0, vR 395]) rfl ?_
    obtain ⟨v3, e3, e⟩ := ob e
    refine hg_aIs 0 rfl (fun _ _ _ _ => rfl) A (Abs_ks A (i := 32) rfl) rfl (by decide) e3 (fun r3 => ?_)
    refine hg_run 1 (pc' := 17) (ls' := [some (vr 395), some (vi l1)]) (st' := [vI 0, vI v3, vI 0, vR 395]) rfl ?_
    obtain ⟨v4, e4, e⟩ := ob e
    refine hg_cIp (as := [vR 395, vI 0, vI v3, vI 0]) (st' := []) rfl (fun _ _ _ _ => rfl) rfl rfl (Nat.le_of_ble_eq_true rfl) (Nat.le_of_ble_eq_true rfl) (recvV A (a := 13) (Abs_ks A (i := 23) rfl).1) (t199 (by omega) A (rgn 0 rfl) r3 (rgn 0 rfl) e4) (fun r4 => ?_)
    refine hg_run 1 (pc' := 24) (ls' := [some (vr 395), some (vi l1)]) (st' := [vI v4]) rfl ?_
    cases e
    exact hg_retI rfl (by decide) (fit_I _) (kr _ rfl r4)
def c242 (l1 : Int) (h : hS) : Option (Int) :=
  (c241 l1 h).bind (fun v1 =>
  if v1 = 0 then
  some (-1)
  else
  (aIs h 404 40 l1).bind (fun v3 =>
  (c199 0 v3 2 h).bind (fun v4 =>
  some v4)))
theorem t242 {d : Nat} (hd : 3 ≤ d) {l1 : Int} {h : hS} {w : mmW} {o : Int} (A : Abs h w) (rl1 : rg l1) (e : c242 l1 h = some o) : hEv d 242 [vR 395, vI l1] w (qIp o w) := by
  obtain ⟨d, rfl⟩ : ∃ d1, d = d1 + 1 := ⟨d - 1, by omega⟩
  have hd : 2 ≤ d := by omega
  refine hEv_start (args := [vr 395, vi l1]) (nl := 2) rfl (Nat.le_of_ble_eq_true rfl) ?_
  show hG d 242 0 [some (vr 395), some (vi l1)] [] w _
  have kr : ∀ v1 : Int, o = v1 → rg v1 → qIp o w (some (.int (Int32.ofInt v1)), w) := fun v1 q r => by cases q; exact ⟨rfl, r⟩
  unfold c242 at e
  refine hg_run 2 (pc' := 2) (ls' := [some (vr 395), some (vi l1)]) (st' := [vI l1, vR 395]) rfl ?_
  obtain ⟨v1, e1, e⟩ := ob e
  refine hg_cIp (as := [vR 395, vI l1]) (st' := []) rfl (fun _ _ _ _ => rfl) rfl rfl (Nat.le_of_ble_eq_true rfl) (Nat.le_of_ble_eq_true rfl) (recvV A (a := 13) (Abs_ks A (i := 23) rfl).1) (t241 (by omega) A rl1 e1) (fun r1 => ?_)
  rcases oi e with ⟨q2, e⟩ | ⟨q2, e⟩
  · refine hg_ifT (tgt := 23) rfl (by decide) r1 q2 ?_
    refine hg_run 1 (pc' := 24) (ls' := [some (vr 395), some (vi l1)]) (st' := [vI (-1)]) rfl ?_
    cases e
    exact hg_retI rfl (by decide) (fit_I _) (kr _ rfl (rgn (-1) rfl))
  · refine hg_ifF (tgt := 23) rfl (by decide) r1 q2 ?_
    refine hg_run 3 (pc' := 11) (ls' := [some (vr 395), some (vi l1)]) (st' := [vR 395, vI 0, vR 395]) rfl ?_
    refine gs_395_35 rfl A ?_
    refine hg_run 1 (pc' := 15) (ls' := [some (vr 395), some (vi l1)]) (st' := [vI l1, vR 404, vI 0, vR 395]) rfl ?_
    obtain ⟨v3, e3, e⟩ := ob e
    refine hg_aIs 0 rfl (fun _ _ _ _ => rfl) A (Abs_ks A (i := 32) rfl) rfl (by decide) e3 (fun r3 => ?_)
    refine hg_run 1 (pc' := 17) (ls' := [some (vr 395), some (vi l1)]) (st' := [vI 2, vI v3, vI 0, vR 395]) rfl ?_
    obtain ⟨v4, e4, e⟩ := ob e
    refine hg_cIp (as := [vR 395, vI 0, vI v3, vI 2]) (st' := []) rfl (fun _ _ _ _ => rfl) rfl rfl (Nat.le_of_ble_eq_true rfl) (Nat.le_of_ble_eq_true rfl) (recvV A (a := 13) (Abs_ks A (i := 23) rfl).1) (t199 (by omega) A (rgn 0 rfl) r3 (rgn 2 rfl) e4) (fun r4 => ?_)
    refine hg_run 1 (pc' := 24) (ls' := [some (vr 395), some (vi l1)]) (st' := [vI v4]) rfl ?_
    cases e
    exact hg_retI rfl (by decide) (fit_I _) (kr _ rfl r4)
def c244 (l0 : Int) (h : hS) : Option (Int) :=
  (c191 l0 0 39 h).bind (fun v1 =>
  (kB v1).bind (fun u2 =>
  some v1))
theorem t244 {d : Nat} (hd : 2 ≤ d) {l0 : Int} {h : hS} {w : mmW} {o : Int} (A : Abs h w) (rl0 : rg l0) (e : c244 l0 h = some o) : hEv d 244 [vI l0] w (qIp o w) := by
  obtain ⟨d, rfl⟩ : ∃ d1, d = d1 + 1 := ⟨d - 1, by omega⟩
  have hd : 1 ≤ d := by omega
  refine hEv_start (args := [vi l0]) (nl := 1) rfl (Nat.le_of_ble_eq_true rfl) ?_
  show hG d 244 0 [some (vi l0)] [] w _
  have kr : ∀ v1 : Int, o = v1 → rg v1 → qIp o w (some (.int (Int32.ofInt v1)), w) := fun v1 q r => by cases q; exact ⟨rfl, r⟩
  unfold c244 at e
  refine hg_run 3 (pc' := 4) (ls' := [some (vi l0)]) (st' := [vI 39, vI 0, vI l0]) rfl ?_
  obtain ⟨v1, e1, e⟩ := ob e
  refine hg_cIp (as := [vI l0, vI 0, vI 39]) (st' := []) rfl (fun _ _ _ _ => rfl) rfl rfl (Nat.le_of_ble_eq_true rfl) (Nat.le_of_ble_eq_true rfl) recv0 (t191 (by omega) A rl0 (rgn 0 rfl) (rgn 39 rfl) e1) (fun r1 => ?_)
  obtain ⟨u2, e2, e⟩ := ob e
  cases e
  exact hg_retI rfl (by decide) (fit_B (kB_e e2)) (kr _ rfl r1)
def c243 (l1 : Int) (l2 : Int) (h : hS) : Option (Int) :=
  (c241 l1 h).bind (fun v1 =>
  if v1 = 0 then
  some 0
  else
  (c244 l2 h).bind (fun v3 =>
  if v3 = 0 then
  some 0
  else
  (aIs h 404 40 l1).bind (fun v5 =>
  (c237 0 v5 l2 h).bind (fun v6 =>
  if v6 = (-1) then
  some 0
  else
  some 1))))
theorem t243 {d : Nat} (hd : 4 ≤ d) {l1 : Int} {l2 : Int} {h : hS} {w : mmW} {o : Int} (A : Abs h w) (rl1 : rg l1) (rl2 : rg l2) (e : c243 l1 l2 h = some o) : hEv d 243 [vR 395, vI l1, vI l2] w (qIp o w) := by
  obtain ⟨d, rfl⟩ : ∃ d1, d = d1 + 1 := ⟨d - 1, by omega⟩
  have hd : 3 ≤ d := by omega
  refine hEv_start (args := [vr 395, vi l1, vi l2]) (nl := 3) rfl (Nat.le_of_ble_eq_true rfl) ?_
  show hG d 243 0 [some (vr 395), some (vi l1), some (vi l2)] [] w _
  have kr : ∀ v1 : Int, o = v1 → rg v1 → qIp o w (some (.int (Int32.ofInt v1)), w) := fun v1 q r => by cases q; exact ⟨rfl, r⟩
  unfold c243 at e
  refine hg_run 2 (pc' := 2) (ls' := [some (vr 395), some (vi l1), some (vi l2)]) (st' := [vI l1, vR 395]) rfl ?_
  obtain ⟨v1, e1, e⟩ := ob e
  refine hg_cIp (as := [vR 395, vI l1]) (st' := []) rfl (fun _ _ _ _ => rfl) rfl rfl (Nat.le_of_ble_eq_true rfl) (Nat.le_of_ble_eq_true rfl) (recvV A (a := 13) (Abs_ks A (i := 23) rfl).1) (t241 (by omega) A rl1 e1) (fun r1 => ?_)
  rcases oi e with ⟨q2, e⟩ | ⟨q2, e⟩
  · refine hg_ifT (tgt := 35) rfl (by decide) r1 q2 ?_
    refine hg_run 1 (pc' := 36) (ls' := [some (vr 395), some (vi l1), some (vi l2)]) (st' := [vI 0]) rfl ?_
    cases e
    exact hg_retI rfl (by decide) (fit_B (.inl rfl)) (kr _ rfl (rgn 0 rfl))
  · refine hg_ifF (tgt := 35) rfl (by decide) r1 q2 ?_
    refine hg_run 1 (pc' := 9) (ls' := [some (vr 395), some (vi l1), some (vi l2)]) (st' := [vI l2]) rfl ?_
    obtain ⟨v3, e3, e⟩ := ob e
    refine hg_cIp (as := [vI l2]) (st' := []) rfl (fun _ _ _ _ => rfl) rfl rfl (Nat.le_of_ble_eq_true rfl) (Nat.le_of_ble_eq_true rfl) recv0 (t244 (by omega) A rl2 e3) (fun r3 => ?_)
    rcases oi e with ⟨q4, e⟩ | ⟨q4, e⟩
    · refine hg_ifT (tgt := 35) rfl (by decide) r3 q4 ?_
      refine hg_run 1 (pc' := 36) (ls' := [some (vr 395), some (vi l1), some (vi l2)]) (st' := [vI 0]) rfl ?_
      cases e
      exact hg_retI rfl (by decide) (fit_B (.inl rfl)) (kr _ rfl (rgn 0 rfl))
    · refine hg_ifF (tgt := 35) rfl (by decide) r3 q4 ?_
      refine hg_run 3 (pc' := 18) (ls' := [some (vr 395), some (vi l1), some (vi l2)]) (st' := [vR 395, vI 0, vR 395]) rfl ?_
      refine gs_395_35 rfl A ?_
      refine hg_run 1 (pc' := 22) (ls' := [some (vr 395), some (vi l1), some (vi l2)]) (st' := [vI l1, vR 404, vI 0, vR 395]) rfl ?_
      obtain ⟨v5, e5, e⟩ := ob e
      refine hg_aIs 0 rfl (fun _ _ _ _ => rfl) A (Abs_ks A (i := 32) rfl) rfl (by decide) e5 (fun r5 => ?_)
      refine hg_run 1 (pc' := 24) (ls' := [some (vr 395), some (vi l1), some (vi l2)]) (st' := [vI l2, vI v5, vI 0, vR 395]) rfl ?_
      obtain ⟨v6, e6, e⟩ := ob e
      refine hg_cIp (as := [vR 395, vI 0, vI v5, vI l2]) (st' := []) rfl (fun _ _ _ _ => rfl) rfl rfl (Nat.le_of_ble_eq_true rfl) (Nat.le_of_ble_eq_true rfl) (recvV A (a := 13) (Abs_ks A (i := 23) rfl).1) (t237 (by omega) A (rgn 0 rfl) r5 rl2 e6) (fun r6 => ?_)
      refine hg_run 1 (pc' := 28) (ls' := [some (vr 395), some (vi l1), some (vi l2)]) (st' := [vI (-1), vI v6]) rfl ?_
      rcases oi e with ⟨q7, e⟩ | ⟨q7, e⟩
      · refine hg_icT (tgt := 35) rfl (by decide) r6 (rgn (-1) rfl) q7 ?_
        refine hg_run 1 (pc' := 36) (ls' := [some (vr 395), some (vi l1), some (vi l2)]) (st' := [vI 0]) rfl ?_
        cases e
        exact hg_retI rfl (by decide) (fit_B (.inl rfl)) (kr _ rfl (rgn 0 rfl))
      · refine hg_icF (tgt := 35) rfl (by decide) r6 (rgn (-1) rfl) q7 ?_
        refine hg_run 2 (pc' := 36) (ls' := [some (vr 395), some (vi l1), some (vi l2)]) (st' := [vI 1]) rfl ?_
        cases e
        exact hg_retI rfl (by decide) (fit_B (.inr rfl)) (kr _ rfl (rgn 1 rfl))
def c245 (l1 : Int) (l2 : Int) (h : hS) : Option (Int) :=
  (c243 l1 l2 h).bind (fun v1 =>
  if v1 = 0 then
  (c241 l1 h).bind (fun v3 =>
  if v3 = 0 then
  some 0
  else
  (c244 l2 h).bind (fun v5 =>
  if v5 = 0 then
  some 0
  else
  (aIs h 407 1600 (wadd (wmul 40 l1) l2)).bind (fun v7 =>
  if v7 = 0 then
  some 0
  else
  (aIs h 406 1600 (wadd (wmul 40 l1) l2)).bind (fun v9 =>
  some v9))))
  else
  (aIs h 405 1600 (wadd (wmul 40 l1) l2)).bind (fun v10 =>
  some v10))
theorem t245 {d : Nat} (hd : 5 ≤ d) {l1 : Int} {l2 : Int} {h : hS} {w : mmW} {o : Int} (A : Abs h w) (rl1 : rg l1) (rl2 : rg l2) (e : c245 l1 l2 h = some o) : hEv d 245 [vR 395, vI l1, vI l2] w (qIp o w) := by
  obtain ⟨d, rfl⟩ : ∃ d1, d = d1 + 1 := ⟨d - 1, by omega⟩
  have hd : 4 ≤ d := by omega
  refine hEv_start (args := [vr 395, vi l1, vi l2]) (nl := 3) rfl (Nat.le_of_ble_eq_true rfl) ?_
  show hG d 245 0 [some (vr 395), some (vi l1), some (vi l2)] [] w _
  have kr : ∀ v1 : Int, o = v1 → rg v1 → qIp o w (some (.int (Int32.ofInt v1)), w) := fun v1 q r => by cases q; exact ⟨rfl, r⟩
  unfold c245 at e
  refine hg_run 3 (pc' := 3) (ls' := [some (vr 395), some (vi l1), some (vi l2)]) (st' := [vI l2, vI l1, vR 395]) rfl ?_
  obtain ⟨v1, e1, e⟩ := ob e
  refine hg_cIp (as := [vR 395, vI l1, vI l2]) (st' := []) rfl (fun _ _ _ _ => rfl) rfl rfl (Nat.le_of_ble_eq_true rfl) (Nat.le_of_ble_eq_true rfl) (recvV A (a := 13) (Abs_ks A (i := 23) rfl).1) (t243 (by omega) A rl1 rl2 e1) (fun r1 => ?_)
  rcases oi e with ⟨q2, e⟩ | ⟨q2, e⟩
  · refine hg_ifT (tgt := 21) rfl (by decide) r1 q2 ?_
    refine hg_run 2 (pc' := 23) (ls' := [some (vr 395), some (vi l1), some (vi l2)]) (st' := [vI l1, vR 395]) rfl ?_
    obtain ⟨v3, e3, e⟩ := ob e
    refine hg_cIp (as := [vR 395, vI l1]) (st' := []) rfl (fun _ _ _ _ => rfl) rfl rfl (Nat.le_of_ble_eq_true rfl) (Nat.le_of_ble_eq_true rfl) (recvV A (a := 13) (Abs_ks A (i := 23) rfl).1) (t241 (by omega) A rl1 e3) (fun r3 => ?_)
    rcases oi e with ⟨q4, e⟩ | ⟨q4, e⟩
    · refine hg_ifT (tgt := 64) rfl (by decide) r3 q4 ?_
      refine hg_run 1 (pc' := 65) (ls' := [some (vr 395), some (vi l1), some (vi l2)]) (st' := [vI 0]) rfl ?_
      cases e
      exact hg_retI rfl (by decide) (fit_I _) (kr _ rfl (rgn 0 rfl))
    · refine hg_ifF (tgt := 64) rfl (by decide) r3 q4 ?_
      refine hg_run 1 (pc' := 30) (ls' := [some (vr 395), some (vi l1), some (vi l2)]) (st' := [vI l2]) rfl ?_
      obtain ⟨v5, e5, e⟩ := ob e
      refine hg_cIp (as := [vI l2]) (st' := []) rfl (fun _ _ _ _ => rfl) rfl rfl (Nat.le_of_ble_eq_true rfl) (Nat.le_of_ble_eq_true rfl) recv0 (t244 (by omega) A rl2 e5) (fun r5 => ?_)
      rcases oi e with ⟨q6, e⟩ | ⟨q6, e⟩
      · refine hg_ifT (tgt := 64) rfl (by decide) r5 q6 ?_
        refine hg_run 1 (pc' := 65) (ls' := [some (vr 395), some (vi l1), some (vi l2)]) (st' := [vI 0]) rfl ?_
        cases e
        exact hg_retI rfl (by decide) (fit_I _) (kr _ rfl (rgn 0 rfl))
      · refine hg_ifF (tgt := 64) rfl (by decide) r5 q6 ?_
        refine hg_run 1 (pc' := 37) (ls' := [some (vr 395), some (vi l1), some (vi l2)]) (st' := [vR 395]) rfl ?_
        refine gs_395_38 rfl A ?_
        refine hg_run 5 (pc' := 46) (ls' := [some (vr 395), some (vi l1), some (vi l2)]) (st' := [vI (wadd (wmul 40 l1) l2), vR 407]) rfl ?_
        obtain ⟨v7, e7, e⟩ := ob e
        refine hg_aIs 1 rfl (fun _ _ _ _ => rfl) A (Abs_ks A (i := 35) rfl) rfl (by decide) e7 (fun r7 => ?_)
        rcases oi e with ⟨q8, e⟩ | ⟨q8, e⟩
        · refine hg_ifT (tgt := 64) rfl (by decide) r7 q8 ?_
          refine hg_run 1 (pc' := 65) (ls' := [some (vr 395), some (vi l1), some (vi l2)]) (st' := [vI 0]) rfl ?_
          cases e
          exact hg_retI rfl (by decide) (fit_I _) (kr _ rfl (rgn 0 rfl))
        · refine hg_ifF (tgt := 64) rfl (by decide) r7 q8 ?_
          refine hg_run 1 (pc' := 51) (ls' := [some (vr 395), some (vi l1), some (vi l2)]) (st' := [vR 395]) rfl ?_
          refine gs_395_37 rfl A ?_
          refine hg_run 5 (pc' := 60) (ls' := [some (vr 395), some (vi l1), some (vi l2)]) (st' := [vI (wadd (wmul 40 l1) l2), vR 406]) rfl ?_
          obtain ⟨v9, e9, e⟩ := ob e
          refine hg_aIs 0 rfl (fun _ _ _ _ => rfl) A (Abs_ks A (i := 34) rfl) rfl (by decide) e9 (fun r9 => ?_)
          refine hg_run 1 (pc' := 65) (ls' := [some (vr 395), some (vi l1), some (vi l2)]) (st' := [vI v9]) rfl ?_
          cases e
          exact hg_retI rfl (by decide) (fit_I _) (kr _ rfl r9)
  · refine hg_ifF (tgt := 21) rfl (by decide) r1 q2 ?_
    refine hg_run 1 (pc' := 10) (ls' := [some (vr 395), some (vi l1), some (vi l2)]) (st' := [vR 395]) rfl ?_
    refine gs_395_36 rfl A ?_
    refine hg_run 5 (pc' := 19) (ls' := [some (vr 395), some (vi l1), some (vi l2)]) (st' := [vI (wadd (wmul 40 l1) l2), vR 405]) rfl ?_
    obtain ⟨v10, e10, e⟩ := ob e
    refine hg_aIs 0 rfl (fun _ _ _ _ => rfl) A (Abs_ks A (i := 33) rfl) rfl (by decide) e10 (fun r10 => ?_)
    cases e
    exact hg_retI rfl (by decide) (fit_I _) (kr _ rfl r10)
def c246 (l1 : Int) (l2 : Int) (l3 : Int) (h : hS) : Option (Int × hS) :=
  (c243 l1 l2 h).bind (fun v1 =>
  if v1 = 0 then
  some (0, h)
  else
  (wIs h 405 1600 (wadd (wmul 40 l1) l2) l3).bind (fun h3 =>
  some (1, h3)))
theorem t246 {d : Nat} (hd : 5 ≤ d) {l1 : Int} {l2 : Int} {l3 : Int} {h : hS} {w : mmW} {o : Int × hS} (A : Abs h w) (rl1 : rg l1) (rl2 : rg l2) (rl3 : rg l3) (e : c246 l1 l2 l3 h = some o) : hEv d 246 [vR 395, vI l1, vI l2, vI l3] w (qI o) := by
  obtain ⟨d, rfl⟩ : ∃ d1, d = d1 + 1 := ⟨d - 1, by omega⟩
  have hd : 4 ≤ d := by omega
  refine hEv_start (args := [vr 395, vi l1, vi l2, vi l3]) (nl := 4) rfl (Nat.le_of_ble_eq_true rfl) ?_
  show hG d 246 0 [some (vr 395), some (vi l1), some (vi l2), some (vi l3)] [] w _
  have kr : ∀ (v1 : Int) (h1 : hS), o = (v1, h1) → ∀ w', rg v1 → Abs h1 w' → qI o (some (.int (Int32.ofInt v1)), w') := fun v1 h1 q w' r A' => by cases q; exact ⟨rfl, r, A'⟩
  unfold c246 at e
  refine hg_run 3 (pc' := 3) (ls' := [some (vr 395), some (vi l1), some (vi l2), some (vi l3)]) (st' := [vI l2, vI l1, vR 395]) rfl ?_
  obtain ⟨v1, e1, e⟩ := ob e
  refine hg_cIp (as := [vR 395, vI l1, vI l2]) (st' := []) rfl (fun _ _ _ _ => rfl) rfl rfl (Nat.le_of_ble_eq_true rfl) (Nat.le_of_ble_eq_true rfl) (recvV A (a := 13) (Abs_ks A (i := 23) rfl).1) (t243 (by omega) A rl1 rl2 e1) (fun r1 => ?_)
  rcases oi e with ⟨q2, e⟩ | ⟨q2, e⟩
  · refine hg_ifF (tgt := 11) rfl (by decide) r1 (show ¬ ¬ (v1 = 0) from fun f => f q2) ?_
    refine hg_run 1 (pc' := 10) (ls' := [some (vr 395), some (vi l1), some (vi l2), some (vi l3)]) (st' := [vI 0]) rfl ?_
    cases e
    exact hg_retI rfl (by decide) (fit_B (.inl rfl)) (kr _ _ rfl _ (rgn 0 rfl) A)
  · refine hg_ifT (tgt := 11) rfl (by decide) r1 (show ¬ (v1 = 0) from q2) ?_
    refine hg_run 1 (pc' := 12) (ls' := [some (vr 395), some (vi l1), some (vi l2), some (vi l3)]) (st' := [vR 395]) rfl ?_
    refine gs_395_36 rfl A ?_
    refine hg_run 6 (pc' := 22) (ls' := [some (vr 395), some (vi l1), some (vi l2), some (vi l3)]) (st' := [vI l3, vI (wadd (wmul 40 l1) l2), vR 405]) rfl ?_
    obtain ⟨h3, e3, e⟩ := ob e
    refine hg_wIs rfl A (Abs_ks A (i := 33) rfl) (by decide) rl3 e3 (fun w3 A3 => ?_)
    refine hg_run 1 (pc' := 24) (ls' := [some (vr 395), some (vi l1), some (vi l2), some (vi l3)]) (st' := [vI 1]) rfl ?_
    cases e
    exact hg_retI rfl (by decide) (fit_B (.inr rfl)) (kr _ _ rfl _ (rgn 1 rfl) A3)
def c248_b3 (l1 : Int) (l3 : Int) (h : hS) (l4 : Int) : Option ((Int) ⊕ (Int)) :=
  if l4 = (-1) then
  some (.inr (l4))
  else
  (c208 l1 l4 l3 h).bind (fun v2 =>
  if v2 = (-1) then
  (c199 l1 l4 1 h).bind (fun v4 =>
  some (.inl (v4)))
  else
  some (.inr (l4)))
theorem t248_b3 {d : Nat} (hd : 2 ≤ d) {l1 : Int} {l3 : Int} {l4 : Int} {z2 : Option hO} {h : hS} {w : mmW} {o : (Int) ⊕ (Int)} {Q : mmO → Prop} (rl1 : rg l1) (rl3 : rg l3) (rl4 : rg l4) (A : Abs h w) (e : c248_b3 l1 l3 h l4 = some o) (kb : ∀ (s_0 : Int), o = .inl (s_0) → rg s_0 → hG d 248 3 [some (vr 395), some (vi l1), z2, some (vi l3), some (vi s_0)] [] w Q) (ke : ∀ (x_0 : Int), o = .inr (x_0) → rg x_0 → hG d 248 34 [some (vr 395), some (vi l1), z2, some (vi l3), some (vi x_0)] [] w Q) : hG d 248 3 [some (vr 395), some (vi l1), z2, some (vi l3), some (vi l4)] [] w Q := by
  unfold c248_b3 at e
  refine hg_run 2 (pc' := 6) (ls' := [some (vr 395), some (vi l1), z2, some (vi l3), some (vi l4)]) (st' := [vI (-1), vI l4]) rfl ?_
  rcases oi e with ⟨q1, e⟩ | ⟨q1, e⟩
  · refine hg_icT (tgt := 34) rfl (by decide) rl4 (rgn (-1) rfl) q1 ?_
    cases e
    exact ke l4 rfl rl4
  · refine hg_icF (tgt := 34) rfl (by decide) rl4 (rgn (-1) rfl) q1 ?_
    refine hg_run 4 (pc' := 14) (ls' := [some (vr 395), some (vi l1), z2, some (vi l3), some (vi l4)]) (st' := [vI l3, vI l4, vI l1, vR 395]) rfl ?_
    obtain ⟨v2, e2, e⟩ := ob e
    refine hg_cIp (as := [vR 395, vI l1, vI l4, vI l3]) (st' := []) rfl (fun _ _ _ _ => rfl) rfl rfl (Nat.le_of_ble_eq_true rfl) (Nat.le_of_ble_eq_true rfl) (recvV A (a := 13) (Abs_ks A (i := 23) rfl).1) (t208 (by omega) A rl1 rl4 rl3 e2) (fun r2 => ?_)
    refine hg_run 1 (pc' := 18) (ls' := [some (vr 395), some (vi l1), z2, some (vi l3), some (vi l4)]) (st' := [vI (-1), vI v2]) rfl ?_
    rcases oi e with ⟨q3, e⟩ | ⟨q3, e⟩
    · refine hg_icF (tgt := 34) rfl (by decide) r2 (rgn (-1) rfl) (show ¬ ¬ (v2 = (-1)) from fun f => f q3) ?_
      refine hg_run 4 (pc' := 26) (ls' := [some (vr 395), some (vi l1), z2, some (vi l3), some (vi l4)]) (st' := [vI 1, vI l4, vI l1, vR 395]) rfl ?_
      obtain ⟨v4, e4, e⟩ := ob e
      refine hg_cIp (as := [vR 395, vI l1, vI l4, vI 1]) (st' := []) rfl (fun _ _ _ _ => rfl) rfl rfl (Nat.le_of_ble_eq_true rfl) (Nat.le_of_ble_eq_true rfl) (recvV A (a := 13) (Abs_ks A (i := 23) rfl).1) (t199 (by omega) A rl1 rl4 (rgn 1 rfl) e4) (fun r4 => ?_)
      refine hg_run 2 (pc' := 3) (ls' := [some (vr 395), some (vi l1), z2, some (vi l3), some (vi v4)]) (st' := []) rfl ?_
      cases e
      exact kb v4 rfl r4
    · refine hg_icT (tgt := 34) rfl (by decide) r2 (rgn (-1) rfl) (show ¬ (v2 = (-1)) from q3) ?_
      cases e
      exact ke l4 rfl rl4
theorem t248_l3 {d : Nat} (hd : 2 ≤ d) {l1 : Int} {l3 : Int} {z2 : Option hO} {h : hS} {w : mmW} {Q : mmO → Prop} (rl1 : rg l1) (rl3 : rg l3) (n : Nat) {l4 : Int}  {r : Int} (rl4 : rg l4) (A : Abs h w) (e : lp (fun s => c248_b3 l1 l3 h s) n (l4) = some r) (ke : ∀ (x_0 : Int), r = (x_0) → rg x_0 → hG d 248 34 [some (vr 395), some (vi l1), z2, some (vi l3), some (vi x_0)] [] w Q) : hG d 248 3 [some (vr 395), some (vi l1), z2, some (vi l3), some (vi l4)] [] w Q := by
  induction n generalizing l4 with
  | zero => cases e
  | succ n ih =>
    rcases lp_succ e with ⟨s1, e1, e2⟩ | e1
    · exact t248_b3 hd rl1 rl3 rl4 A e1 (fun s_0 q rl4 => by cases q; exact ih rl4 e2) (fun x_0 q => by cases q)
    · exact t248_b3 hd rl1 rl3 rl4 A e1 (fun s_0 q => by cases q) (fun x_0 q => by cases q; exact ke _ rfl)
def c248 (l1 : Int) (l2 : Int) (l3 : Int) (h : hS) : Option (Int) :=
  (lp (fun s => c248_b3 l1 l3 h s) hF0 (l2)).bind (fun r5 =>
  some r5)
theorem t248 {d : Nat} (hd : 3 ≤ d) {l1 : Int} {l2 : Int} {l3 : Int} {h : hS} {w : mmW} {o : Int} (A : Abs h w) (rl1 : rg l1) (rl2 : rg l2) (rl3 : rg l3) (e : c248 l1 l2 l3 h = some o) : hEv d 248 [vR 395, vI l1, vI l2, vI l3] w (qIp o w) := by
  obtain ⟨d, rfl⟩ : ∃ d1, d = d1 + 1 := ⟨d - 1, by omega⟩
  have hd : 2 ≤ d := by omega
  refine hEv_start (args := [vr 395, vi l1, vi l2, vi l3]) (nl := 5) rfl (Nat.le_of_ble_eq_true rfl) ?_
  show hG d 248 0 [some (vr 395), some (vi l1), some (vi l2), some (vi l3), none] [] w _
  have kr : ∀ v1 : Int, o = v1 → rg v1 → qIp o w (some (.int (Int32.ofInt v1)), w) := fun v1 q r => by cases q; exact ⟨rfl, r⟩
  unfold c248 at e
  refine hg_run 2 (pc' := 3) (ls' := [some (vr 395), some (vi l1), some (vi l2), some (vi l3), some (vi l2)]) (st' := []) rfl ?_
  obtain ⟨r5, e5, e⟩ := ob e
  refine t248_l3 hd rl1 rl3 _ rl2 A e5 ?_
  intro x5_0 qq5 q5_4
  subst qq5
  refine hg_run 1 (pc' := 36) (ls' := [some (vr 395), some (vi l1), some (vi l2), some (vi l3), some (vi r5)]) (st' := [vI r5]) rfl ?_
  cases e
  exact hg_retI rfl (by decide) (fit_I _) (kr _ rfl q5_4)
def c247_j30 (s0 : Int) (l2 : Int) (h : hS) : Option (Int) :=
  if s0 = (-1) then
  some 0
  else
  (c208 0 s0 l2 h).bind (fun v4 =>
  (c199 0 s0 (wadd 35 v4) h).bind (fun v5 =>
  some v5))
theorem t247_j30 {d : Nat} (hd : 3 ≤ d) {s0 : Int} {l2 : Int} {z1 : Option hO} {z3 : Option hO} {z4 : Option hO} {h : hS} {w : mmW} {o : Int} {Q : mmO → Prop} (rs0 : rg s0) (rl2 : rg l2) (A : Abs h w) (e : c247_j30 s0 l2 h = some o) (kr : ∀ v1 : Int, o = v1 → rg v1 → Q (some (.int (Int32.ofInt v1)), w)) : hG d 247 30 [some (vr 395), z1, some (vi l2), z3, z4] [vI s0] w Q := by
  unfold c247_j30 at e
  refine hg_run 3 (pc' := 35) (ls' := [some (vr 395), z1, some (vi l2), z3, some (vi s0)]) (st' := [vI (-1), vI s0]) rfl ?_
  rcases oi e with ⟨q3, e⟩ | ⟨q3, e⟩
  · refine hg_icF (tgt := 42) rfl (by decide) rs0 (rgn (-1) rfl) (show ¬ ¬ (s0 = (-1)) from fun f => f q3) ?_
    refine hg_run 2 (pc' := 60) (ls' := [some (vr 395), z1, some (vi l2), z3, some (vi s0)]) (st' := [vI 0]) rfl ?_
    cases e
    exact hg_retI rfl (by decide) (fit_I _) (kr _ rfl (rgn 0 rfl))
  · refine hg_icT (tgt := 42) rfl (by decide) rs0 (rgn (-1) rfl) (show ¬ (s0 = (-1)) from q3) ?_
    refine hg_run 8 (pc' := 53) (ls' := [some (vr 395), z1, some (vi l2), z3, some (vi s0)]) (st' := [vI l2, vI s0, vI 0, vR 395, vI 35, vI s0, vI 0, vR 395]) rfl ?_
    obtain ⟨v4, e4, e⟩ := ob e
    refine hg_cIp (as := [vR 395, vI 0, vI s0, vI l2]) (st' := [vI 35, vI s0, vI 0, vR 395]) rfl (fun _ _ _ _ => rfl) rfl rfl (Nat.le_of_ble_eq_true rfl) (Nat.le_of_ble_eq_true rfl) (recvV A (a := 13) (Abs_ks A (i := 23) rfl).1) (t208 (by omega) A (rgn 0 rfl) rs0 rl2 e4) (fun r4 => ?_)
    refine hg_run 1 (pc' := 57) (ls' := [some (vr 395), z1, some (vi l2), z3, some (vi s0)]) (st' := [vI (wadd 35 v4), vI s0, vI 0, vR 395]) rfl ?_
    obtain ⟨v5, e5, e⟩ := ob e
    refine hg_cIp (as := [vR 395, vI 0, vI s0, vI (wadd 35 v4)]) (st' := []) rfl (fun _ _ _ _ => rfl) rfl rfl (Nat.le_of_ble_eq_true rfl) (Nat.le_of_ble_eq_true rfl) (recvV A (a := 13) (Abs_ks A (i := 23) rfl).1) (t199 (by omega) A (rgn 0 rfl) rs0 (rg_add _ _) e5) (fun r5 => ?_)
    cases e
    exact hg_retI rfl (by decide) (fit_I _) (kr _ rfl r5)
def c247_j19 (l2 : Int) (h : hS) : Option (Int) :=
  c247_j30 (-1) l2 h
theorem t247_j19 {d : Nat} (hd : 3 ≤ d) {l2 : Int} {z1 : Option hO} {z3 : Option hO} {z4 : Option hO} {h : hS} {w : mmW} {o : Int} {Q : mmO → Prop} (rl2 : rg l2) (A : Abs h w) (e : c247_j19 l2 h = some o) (kr : ∀ v1 : Int, o = v1 → rg v1 → Q (some (.int (Int32.ofInt v1)), w)) : hG d 247 19 [some (vr 395), z1, some (vi l2), z3, z4] [] w Q := by
  unfold c247_j19 at e
  refine hg_run 2 (pc' := 30) (ls' := [some (vr 395), z1, some (vi l2), z3, z4]) (st' := [vI (-1)]) rfl ?_
  exact t247_j30 hd (rgn (-1) rfl) rl2 A e kr
def c247 (l1 : Int) (l2 : Int) (h : hS) : Option (Int) :=
  (c197 0 l1 h).bind (fun v1 =>
  if v1 = (-1) then
  c247_j19 l2 h
  else
  (c244 l2 h).bind (fun v6 =>
  if v6 = 0 then
  c247_j19 l2 h
  else
  (c248 0 v1 l2 h).bind (fun v8 =>
  c247_j30 v8 l2 h)))
theorem t247 {d : Nat} (hd : 4 ≤ d) {l1 : Int} {l2 : Int} {h : hS} {w : mmW} {o : Int} (A : Abs h w) (rl1 : rg l1) (rl2 : rg l2) (e : c247 l1 l2 h = some o) : hEv d 247 [vR 395, vI l1, vI l2] w (qIp o w) := by
  obtain ⟨d, rfl⟩ : ∃ d1, d = d1 + 1 := ⟨d - 1, by omega⟩
  have hd : 3 ≤ d := by omega
  refine hEv_start (args := [vr 395, vi l1, vi l2]) (nl := 5) rfl (Nat.le_of_ble_eq_true rfl) ?_
  show hG d 247 0 [some (vr 395), some (vi l1), some (vi l2), none, none] [] w _
  have kr : ∀ v1 : Int, o = v1 → rg v1 → qIp o w (some (.int (Int32.ofInt v1)), w) := fun v1 q r => by cases q; exact ⟨rfl, r⟩
  unfold c247 at e
  refine hg_run 3 (pc' := 3) (ls' := [some (vr 395), some (vi l1), some (vi l2), none, none]) (st' := [vI l1, vI 0, vR 395]) rfl ?_
  obtain ⟨v1, e1, e⟩ := ob e
  refine hg_cIp (as := [vR 395, vI 0, vI l1]) (st' := []) rfl (fun _ _ _ _ => rfl) rfl rfl (Nat.le_of_ble_eq_true rfl) (Nat.le_of_ble_eq_true rfl) (recvV A (a := 13) (Abs_ks A (i := 23) rfl).1) (t197 (by omega) A (rgn 0 rfl) rl1 e1) (fun r1 => ?_)
  refine hg_run 3 (pc' := 9) (ls' := [some (vr 395), some (vi l1), some (vi l2), some (vi v1), none]) (st' := [vI (-1), vI v1]) rfl ?_
  rcases oi e with ⟨q2, e⟩ | ⟨q2, e⟩
  · refine hg_icT (tgt := 19) rfl (by decide) r1 (rgn (-1) rfl) q2 ?_
    exact t247_j19 hd rl2 A e kr
  · refine hg_icF (tgt := 19) rfl (by decide) r1 (rgn (-1) rfl) q2 ?_
    refine hg_run 1 (pc' := 13) (ls' := [some (vr 395), some (vi l1), some (vi l2), some (vi v1), none]) (st' := [vI l2]) rfl ?_
    obtain ⟨v6, e6, e⟩ := ob e
    refine hg_cIp (as := [vI l2]) (st' := []) rfl (fun _ _ _ _ => rfl) rfl rfl (Nat.le_of_ble_eq_true rfl) (Nat.le_of_ble_eq_true rfl) recv0 (t244 (by omega) A rl2 e6) (fun r6 => ?_)
    rcases oi e with ⟨q7, e⟩ | ⟨q7, e⟩
    · refine hg_ifF (tgt := 23) rfl (by decide) r6 (show ¬ ¬ (v6 = 0) from fun f => f q7) ?_
      exact t247_j19 hd rl2 A e kr
    · refine hg_ifT (tgt := 23) rfl (by decide) r6 (show ¬ (v6 = 0) from q7) ?_
      refine hg_run 4 (pc' := 27) (ls' := [some (vr 395), some (vi l1), some (vi l2), some (vi v1), none]) (st' := [vI l2, vI v1, vI 0, vR 395]) rfl ?_
      obtain ⟨v8, e8, e⟩ := ob e
      refine hg_cIp (as := [vR 395, vI 0, vI v1, vI l2]) (st' := []) rfl (fun _ _ _ _ => rfl) rfl rfl (Nat.le_of_ble_eq_true rfl) (Nat.le_of_ble_eq_true rfl) (recvV A (a := 13) (Abs_ks A (i := 23) rfl).1) (t248 (by omega) A (rgn 0 rfl) r1 rl2 e8) (fun r8 => ?_)
      exact t247_j30 hd r8 rl2 A e kr
def c249_b5 (l1 : Int) (h : hS) (l2 : Int64) (l4 : Int) : Option ((Int64 × Int) ⊕ Int64) :=
  if (hI h 395 33) ≤ l4 then some (.inr l2) else
  (c243 l4 l1 h).bind (fun v1 =>
  if v1 = 0 then some (.inl (l2 + Int64.ofNat 0, wadd l4 1)) else
  (aIs h 405 1600 (wadd (wmul 40 l4) l1)).bind (fun v2 => some (.inl (l2 + wlng v2, wadd l4 1))))
def c249 (l1 : Int) (h : hS) : Option Int64 := lp (fun s => c249_b5 l1 h s.1 s.2) hF0 (Int64.ofNat 0, 0)
theorem t249_l5 {d : Nat} (hd : 4 ≤ d) {l1 : Int} {h : hS} {w : mmW} {Q : mmO → Prop} (rl1 : rg l1) (n : Nat) {l2 : Int64} {l4 : Int} {r : Int64} (rl4 : rg l4) (A : Abs h w) (e : lp (fun s => c249_b5 l1 h s.1 s.2) n (l2, l4) = some r) (kr : Q (some (.long r), w)) : hK d 249 5 [some (.ref 387), some (.int (Int32.ofInt l1)), some (.long l2), none, some (.int (Int32.ofInt l4))] [] w Q := by
  induction n generalizing l2 l4 with
  | zero => cases e
  | succ n ih =>
    refine mt_runs 2 (f' := (8, [some (.ref 387), some (.int (Int32.ofInt l1)), some (.long l2), none, some (.int (Int32.ofInt l4))], [.ref 387, .int (Int32.ofInt l4)], w)) rfl ?_
    show hK d 249 8 [some (.ref 387), some (.int (Int32.ofInt l1)), some (.long l2), none, some (.int (Int32.ofInt l4))] [vR 395, vI l4] w _
    refine gs_395_33 rfl A ?_
    have back : ∀ (x : Int64), lp (fun s => c249_b5 l1 h s.1 s.2) n (l2 + x, wadd l4 1) = some r → hK d 249 42 [some (.ref 387), some (.int (Int32.ofInt l1)), some (.long l2), none, some (.int (Int32.ofInt l4))] [vJ x, vJ l2] w Q := by
      intro x ex
      have e1 : Int32.ofInt l4 + 1 = Int32.ofInt (wadd l4 1) := by
        unfold wadd
        rw [Int32.ofInt_toInt]
        rfl
      refine mt_runs 4 (f' := (5, [some (.ref 387), some (.int (Int32.ofInt l1)), some (.long (l2 + x)), none, some (.int (Int32.ofInt l4 + 1))], [], w)) rfl ?_
      rw [e1]
      exact ih (rg_add _ _) ex
    rcases lp_succ e with ⟨s1, e1, e2⟩ | e1
    · unfold c249_b5 at e1
      dsimp only at e1
      rcases oi e1 with ⟨q, e1⟩ | ⟨q, e1⟩
      · cases e1
      · refine hg_icF (tgt := 50) rfl (by decide) rl4 (Abs_rg A 395 33) q ?_
        refine mt_runs 4 (f' := (19, [some (.ref 387), some (.int (Int32.ofInt l1)), some (.long l2), none, some (.int (Int32.ofInt l4))], [.int (Int32.ofInt l1), .int (Int32.ofInt l4), .ref 387, .long l2], w)) rfl ?_
        show hK d 249 19 [some (.ref 387), some (.int (Int32.ofInt l1)), some (.long l2), none, some (.int (Int32.ofInt l4))] [vI l1, vI l4, vR 395, vJ l2] w _
        obtain ⟨v1, e3, e1⟩ := ob e1
        refine hg_cIp (as := [vR 395, vI l4, vI l1]) (st' := [vJ l2]) rfl (fun _ _ _ _ => rfl) rfl rfl (Nat.le_of_ble_eq_true rfl) (Nat.le_of_ble_eq_true rfl) (recvV A (a := 13) (Abs_ks A (i := 23) rfl).1) (t243 (by omega) A rl4 rl1 e3) (fun r3 => ?_)
        rcases oi e1 with ⟨q2, e1⟩ | ⟨q2, e1⟩
        · refine hg_ifT (tgt := 41) rfl (by decide) r3 q2 ?_
          refine mt_runs 1 (f' := (42, [some (.ref 387), some (.int (Int32.ofInt l1)), some (.long l2), none, some (.int (Int32.ofInt l4))], [.long (Int64.ofNat 0), .long l2], w)) rfl ?_
          cases e1
          exact back _ e2
        · refine hg_ifF (tgt := 41) rfl (by decide) r3 q2 ?_
          refine mt_runs 1 (f' := (26, [some (.ref 387), some (.int (Int32.ofInt l1)), some (.long l2), none, some (.int (Int32.ofInt l4))], [.ref 387, .long l2], w)) rfl ?_
          show hK d 249 26 [some (.ref 387), some (.int (Int32.ofInt l1)), some (.long l2), none, some (.int (Int32.ofInt l4))] [vR 395, vJ l2] w _
          refine gs_395_36 rfl A ?_
          have ei : Int32.ofInt 40 * Int32.ofInt l4 + Int32.ofInt l1 = Int32.ofInt (wadd (wmul 40 l4) l1) := by
            unfold wadd wmul
            rw [Int32.ofInt_toInt, Int32.ofInt_toInt]
          refine mt_runs 5 (f' := (36, [some (.ref 387), some (.int (Int32.ofInt l1)), some (.long l2), none, some (.int (Int32.ofInt l4))], [.int (Int32.ofInt 40 * Int32.ofInt l4 + Int32.ofInt l1), .ref 397, .long l2], w)) rfl ?_
          rw [ei]
          show hK d 249 36 [some (.ref 387), some (.int (Int32.ofInt l1)), some (.long l2), none, some (.int (Int32.ofInt l4))] [vI (wadd (wmul 40 l4) l1), vR 405, vJ l2] w _
          obtain ⟨v2, e4, e1⟩ := ob e1
          refine hg_aIs 0 rfl (fun _ _ _ _ => rfl) A (Abs_ks A (i := 33) rfl) rfl (by decide) e4 (fun r4 => ?_)
          refine mt_runs 2 (f' := (42, [some (.ref 387), some (.int (Int32.ofInt l1)), some (.long l2), none, some (.int (Int32.ofInt l4))], [.long (wlng v2), .long l2], w)) rfl ?_
          cases e1
          exact back _ e2
    · unfold c249_b5 at e1
      dsimp only at e1
      rcases oi e1 with ⟨q, e1⟩ | ⟨q, e1⟩
      · refine hg_icT (tgt := 50) rfl (by decide) rl4 (Abs_rg A 395 33) q ?_
        refine mt_runs 1 (f' := (51, [some (.ref 387), some (.int (Int32.ofInt l1)), some (.long l2), none, some (.int (Int32.ofInt l4))], [.long l2], w)) rfl ?_
        show hK d 249 51 [some (.ref 387), some (.int (Int32.ofInt l1)), some (.long l2), none, some (.int (Int32.ofInt l4))] [vJ l2] w _
        cases e1
        exact hg_retJ rfl kr
      · exfalso
        obtain ⟨v1, e3, e1⟩ := ob e1
        rcases oi e1 with ⟨q2, e1⟩ | ⟨q2, e1⟩
        · cases e1
        · obtain ⟨v2, e4, e1⟩ := ob e1
          cases e1
theorem t249 {d : Nat} (hd : 5 ≤ d) {l1 : Int} {h : hS} {w : mmW} {o : Int64} (A : Abs h w) (rl1 : rg l1) (e : c249 l1 h = some o) : hEv d 249 [vR 395, vI l1] w (qJp o w) := by
  obtain ⟨d, rfl⟩ : ∃ d1, d = d1 + 1 := ⟨d - 1, by omega⟩
  unfold c249 at e
  obtain ⟨N, hN⟩ := mu_ev (P := mt_P0) (d := d) (a := 249) (as := [.ref 387, .int (Int32.ofInt l1)]) (w := w) (o0 := (some (.long o), w)) (Nat.le_of_ble_eq_true rfl) (by
    refine mt_runs 4 (f' := (5, [some (.ref 387), some (.int (Int32.ofInt l1)), some (.long (Int64.ofNat 0)), none, some (.int (Int32.ofInt 0))], [], w)) rfl ?_
    exact t249_l5 (by omega) rl1 _ (rgn 0 rfl) A e rfl)
  exact ⟨N, _, hN, rfl⟩

def c251 (h : hS) : Option (hS) :=
  (some (sI h 395 41 0)).bind (fun h1 =>
  (some (sI h1 395 39 0)).bind (fun h2 =>
  (some (sI h2 395 40 0)).bind (fun h3 =>
  (some (sI h3 395 42 0)).bind (fun h4 =>
  some h4))))
theorem t251 {d : Nat} (hd : 1 ≤ d)  {h : hS} {w : mmW} {o : hS} (A : Abs h w)  (e : c251 h = some o) : hEv d 251 [vR 395] w (qV o) := by
  obtain ⟨d, rfl⟩ : ∃ d1, d = d1 + 1 := ⟨d - 1, by omega⟩
  have hd : 0 ≤ d := by omega
  refine hEv_start (args := [vr 395]) (nl := 1) rfl (Nat.le_of_ble_eq_true rfl) ?_
  show hG d 251 0 [some (vr 395)] [] w _
  have kr : ∀ h1 : hS, o = h1 → ∀ w', Abs h1 w' → qV o (none, w') := fun h1 q w' A' => by cases q; exact ⟨rfl, A'⟩
  unfold c251 at e
  refine hg_run 2 (pc' := 2) (ls' := [some (vr 395)]) (st' := [vI 0, vR 395]) rfl ?_
  obtain ⟨h1, e1, e⟩ := ob e
  refine ps_395_41 rfl A (rgn 0 rfl) e1 (fun w1 A1 => ?_)
  refine hg_run 2 (pc' := 7) (ls' := [some (vr 395)]) (st' := [vI 0, vR 395]) rfl ?_
  obtain ⟨h2, e2, e⟩ := ob e
  refine ps_395_39 rfl A1 (rgn 0 rfl) e2 (fun w2 A2 => ?_)
  refine hg_run 2 (pc' := 12) (ls' := [some (vr 395)]) (st' := [vI 0, vR 395]) rfl ?_
  obtain ⟨h3, e3, e⟩ := ob e
  refine ps_395_40 rfl A2 (rgn 0 rfl) e3 (fun w3 A3 => ?_)
  refine hg_run 2 (pc' := 17) (ls' := [some (vr 395)]) (st' := [vI 0, vR 395]) rfl ?_
  obtain ⟨h4, e4, e⟩ := ob e
  refine ps_395_42 rfl A3 (rgn 0 rfl) (.inl rfl) e4 (fun w4 A4 => ?_)
  cases e
  exact hg_retV rfl (kr _ rfl _ A4)
def c253_j98 (l4 : Int) (l5 : Int) (h : hS) : Option ((Int × Int × hS) ⊕ (Int × hS)) :=
  (c199 0 l5 1 h).bind (fun v10 =>
  some (.inl (l4, v10, h)))
theorem t253_j98 {d : Nat} (hd : 2 ≤ d) {l4 : Int} {l5 : Int} {l1 : Int} {z2 : Option hO} {l3 : Int} {z6 : Option hO} {h : hS} {w : mmW} {o : (Int × Int × hS) ⊕ (Int × hS)} {Q : mmO → Prop} (rl4 : rg l4) (rl5 : rg l5) (A : Abs h w) (e : c253_j98 l4 l5 h = some o) (kb : ∀ (s_0 : Int) (s_1 : Int) (s_2 : hS), o = .inl (s_0, s_1, s_2) → ∀ w', ∀ (y6 : Option hO), rg s_0 → rg s_1 → Abs s_2 w' → hG d 253 6 [some (vr 395), some (vi l1), z2, some (vi l3), some (vi s_0), some (vi s_1), y6] [] w' Q) (ke : ∀ (x_0 : Int) (x_1 : hS), o = .inr (x_0, x_1) → ∀ w', ∀ (y5 y6 : Option hO), rg x_0 → Abs x_1 w' → hG d 253 111 [some (vr 395), some (vi l1), z2, some (vi l3), some (vi x_0), y5, y6] [] w' Q) : hG d 253 98 [some (vr 395), some (vi l1), z2, some (vi l3), some (vi l4), some (vi l5), z6] [] w Q := by
  unfold c253_j98 at e
  refine hg_run 4 (pc' := 103) (ls' := [some (vr 395), some (vi l1), z2, some (vi l3), some (vi l4), some (vi l5), z6]) (st' := [vI 1, vI l5, vI 0, vR 395]) rfl ?_
  obtain ⟨v10, e10, e⟩ := ob e
  refine hg_cIp (as := [vR 395, vI 0, vI l5, vI 1]) (st' := []) rfl (fun _ _ _ _ => rfl) rfl rfl (Nat.le_of_ble_eq_true rfl) (Nat.le_of_ble_eq_true rfl) (recvV A (a := 13) (Abs_ks A (i := 23) rfl).1) (t199 (by omega) A (rgn 0 rfl) rl5 (rgn 1 rfl) e10) (fun r10 => ?_)
  refine hg_run 2 (pc' := 6) (ls' := [some (vr 395), some (vi l1), z2, some (vi l3), some (vi l4), some (vi v10), z6]) (st' := []) rfl ?_
  cases e
  exact kb l4 v10 h rfl _ _ rl4 r10 A
def c253_b6 (l1 : Int) (l3 : Int) (l4 : Int) (l5 : Int) (h : hS) : Option ((Int × Int × hS) ⊕ (Int × hS)) :=
  if l5 = (-1) then
  some (.inr (l4, h))
  else
  (c205 0 l5 l3 h).bind (fun v2 =>
  if v2 = (-1) then
  c253_j98 l4 l5 h
  else
  (c199 0 l5 (wadd 48 v2) h).bind (fun v4 =>
  (wIs h 414 252 (wadd (wmul 12 l1) l4) v4).bind (fun h5 =>
  (c199 0 l5 0 h5).bind (fun v6 =>
  (wIs h5 415 252 (wadd (wmul 12 l1) l4) v6).bind (fun h7 =>
  (c199 0 l5 2 h7).bind (fun v8 =>
  (wIs h7 416 252 (wadd (wmul 12 l1) l4) v8).bind (fun h9 =>
  c253_j98 (wadd l4 1) l5 h9)))))))
theorem t253_b6 {d : Nat} (hd : 2 ≤ d) {l1 : Int} {l3 : Int} {l4 : Int} {l5 : Int} {z2 : Option hO} {z6 : Option hO} {h : hS} {w : mmW} {o : (Int × Int × hS) ⊕ (Int × hS)} {Q : mmO → Prop} (rl1 : rg l1) (rl3 : rg l3) (rl4 : rg l4) (rl5 : rg l5) (A : Abs h w) (e : c253_b6 l1 l3 l4 l5 h = some o) (kb : ∀ (s_0 : Int) (s_1 : Int) (s_2 : hS), o = .inl (s_0, s_1, s_2) → ∀ w', ∀ (y6 : Option hO), rg s_0 → rg s_1 → Abs s_2 w' → hG d 253 6 [some (vr 395), some (vi l1), z2, some (vi l3), some (vi s_0), some (vi s_1), y6] [] w' Q) (ke : ∀ (x_0 : Int) (x_1 : hS), o = .inr (x_0, x_1) → ∀ w', ∀ (y5 y6 : Option hO), rg x_0 → Abs x_1 w' → hG d 253 111 [some (vr 395), some (vi l1), z2, some (vi l3), some (vi x_0), y5, y6] [] w' Q) : hG d 253 6 [some (vr 395), some (vi l1), z2, some (vi l3), some (vi l4), some (vi l5), z6] [] w Q := by
  unfold c253_b6 at e
  refine hg_run 2 (pc' := 9) (ls' := [some (vr 395), some (vi l1), z2, some (vi l3), some (vi l4), some (vi l5), z6]) (st' := [vI (-1), vI l5]) rfl ?_
  rcases oi e with ⟨q1, e⟩ | ⟨q1, e⟩
  · refine hg_icT (tgt := 111) rfl (by decide) rl5 (rgn (-1) rfl) q1 ?_
    cases e
    exact ke l4 h rfl _ _ _ rl4 A
  · refine hg_icF (tgt := 111) rfl (by decide) rl5 (rgn (-1) rfl) q1 ?_
    refine hg_run 4 (pc' := 17) (ls' := [some (vr 395), some (vi l1), z2, some (vi l3), some (vi l4), some (vi l5), z6]) (st' := [vI l3, vI l5, vI 0, vR 395]) rfl ?_
    obtain ⟨v2, e2, e⟩ := ob e
    refine hg_cIp (as := [vR 395, vI 0, vI l5, vI l3]) (st' := []) rfl (fun _ _ _ _ => rfl) rfl rfl (Nat.le_of_ble_eq_true rfl) (Nat.le_of_ble_eq_true rfl) (recvV A (a := 13) (Abs_ks A (i := 23) rfl).1) (t205 (by omega) A (rgn 0 rfl) rl5 rl3 e2) (fun r2 => ?_)
    refine hg_run 3 (pc' := 25) (ls' := [some (vr 395), some (vi l1), z2, some (vi l3), some (vi l4), some (vi l5), some (vi v2)]) (st' := [vI (-1), vI v2]) rfl ?_
    rcases oi e with ⟨q3, e⟩ | ⟨q3, e⟩
    · refine hg_icF (tgt := 31) rfl (by decide) r2 (rgn (-1) rfl) (show ¬ ¬ (v2 = (-1)) from fun f => f q3) ?_
      refine hg_run 1 (pc' := 98) (ls' := [some (vr 395), some (vi l1), z2, some (vi l3), some (vi l4), some (vi l5), some (vi v2)]) (st' := []) rfl ?_
      exact t253_j98 hd rl4 rl5 A e kb ke
    · refine hg_icT (tgt := 31) rfl (by decide) r2 (rgn (-1) rfl) (show ¬ (v2 = (-1)) from q3) ?_
      refine hg_run 1 (pc' := 32) (ls' := [some (vr 395), some (vi l1), z2, some (vi l3), some (vi l4), some (vi l5), some (vi v2)]) (st' := [vR 395]) rfl ?_
      refine gs_395_49 rfl A ?_
      refine hg_run 11 (pc' := 51) (ls' := [some (vr 395), some (vi l1), z2, some (vi l3), some (vi l4), some (vi l5), some (vi v2)]) (st' := [vI (wadd 48 v2), vI l5, vI 0, vR 395, vI (wadd (wmul 12 l1) l4), vR 414]) rfl ?_
      obtain ⟨v4, e4, e⟩ := ob e
      refine hg_cIp (as := [vR 395, vI 0, vI l5, vI (wadd 48 v2)]) (st' := [vI (wadd (wmul 12 l1) l4), vR 414]) rfl (fun _ _ _ _ => rfl) rfl rfl (Nat.le_of_ble_eq_true rfl) (Nat.le_of_ble_eq_true rfl) (recvV A (a := 13) (Abs_ks A (i := 23) rfl).1) (t199 (by omega) A (rgn 0 rfl) rl5 (rg_add _ _) e4) (fun r4 => ?_)
      obtain ⟨h5, e5, e⟩ := ob e
      refine hg_wIs rfl A (Abs_ks A (i := 42) rfl) (by decide) r4 e5 (fun w5 A5 => ?_)
      refine hg_run 1 (pc' := 56) (ls' := [some (vr 395), some (vi l1), z2, some (vi l3), some (vi l4), some (vi l5), some (vi v2)]) (st' := [vR 395]) rfl ?_
      refine gs_395_50 rfl A5 ?_
      refine hg_run 9 (pc' := 71) (ls' := [some (vr 395), some (vi l1), z2, some (vi l3), some (vi l4), some (vi l5), some (vi v2)]) (st' := [vI 0, vI l5, vI 0, vR 395, vI (wadd (wmul 12 l1) l4), vR 415]) rfl ?_
      obtain ⟨v6, e6, e⟩ := ob e
      refine hg_cIp (as := [vR 395, vI 0, vI l5, vI 0]) (st' := [vI (wadd (wmul 12 l1) l4), vR 415]) rfl (fun _ _ _ _ => rfl) rfl rfl (Nat.le_of_ble_eq_true rfl) (Nat.le_of_ble_eq_true rfl) (recvV A5 (a := 13) (Abs_ks A5 (i := 23) rfl).1) (t199 (by omega) A5 (rgn 0 rfl) rl5 (rgn 0 rfl) e6) (fun r6 => ?_)
      obtain ⟨h7, e7, e⟩ := ob e
      refine hg_wIs rfl A5 (Abs_ks A5 (i := 43) rfl) (by decide) r6 e7 (fun w7 A7 => ?_)
      refine hg_run 1 (pc' := 76) (ls' := [some (vr 395), some (vi l1), z2, some (vi l3), some (vi l4), some (vi l5), some (vi v2)]) (st' := [vR 395]) rfl ?_
      refine gs_395_51 rfl A7 ?_
      refine hg_run 9 (pc' := 91) (ls' := [some (vr 395), some (vi l1), z2, some (vi l3), some (vi l4), some (vi l5), some (vi v2)]) (st' := [vI 2, vI l5, vI 0, vR 395, vI (wadd (wmul 12 l1) l4), vR 416]) rfl ?_
      obtain ⟨v8, e8, e⟩ := ob e
      refine hg_cIp (as := [vR 395, vI 0, vI l5, vI 2]) (st' := [vI (wadd (wmul 12 l1) l4), vR 416]) rfl (fun _ _ _ _ => rfl) rfl rfl (Nat.le_of_ble_eq_true rfl) (Nat.le_of_ble_eq_true rfl) (recvV A7 (a := 13) (Abs_ks A7 (i := 23) rfl).1) (t199 (by omega) A7 (rgn 0 rfl) rl5 (rgn 2 rfl) e8) (fun r8 => ?_)
      obtain ⟨h9, e9, e⟩ := ob e
      refine hg_wIs rfl A7 (Abs_ks A7 (i := 44) rfl) (by decide) r8 e9 (fun w9 A9 => ?_)
      refine hg_run 1 (pc' := 98) (ls' := [some (vr 395), some (vi l1), z2, some (vi l3), some (vi (wadd l4 1)), some (vi l5), some (vi v2)]) (st' := []) rfl ?_
      exact t253_j98 hd (rg_add _ _) rl5 A9 e kb ke
theorem t253_l6 {d : Nat} (hd : 2 ≤ d) {l1 : Int} {l3 : Int} {z2 : Option hO} {Q : mmO → Prop} (rl1 : rg l1) (rl3 : rg l3) (n : Nat) {l4 : Int} {l5 : Int} {z6 : Option hO} {h : hS} {w : mmW} {r : Int × hS} (rl4 : rg l4) (rl5 : rg l5) (A : Abs h w) (e : lp (fun s => c253_b6 l1 l3 s.1 s.2.1 s.2.2) n (l4, l5, h) = some r) (ke : ∀ (x_0 : Int) (x_1 : hS), r = (x_0, x_1) → ∀ w', ∀ (y5 y6 : Option hO), rg x_0 → Abs x_1 w' → hG d 253 111 [some (vr 395), some (vi l1), z2, some (vi l3), some (vi x_0), y5, y6] [] w' Q) : hG d 253 6 [some (vr 395), some (vi l1), z2, some (vi l3), some (vi l4), some (vi l5), z6] [] w Q := by
  induction n generalizing l4 l5 z6 h w with
  | zero => cases e
  | succ n ih =>
    rcases lp_succ e with ⟨s1, e1, e2⟩ | e1
    · exact t253_b6 hd rl1 rl3 rl4 rl5 A e1 (fun s_0 s_1 s_2 q w1 y6 rl4 rl5 A1 => by cases q; exact ih rl4 rl5 A1 e2) (fun x_0 x_1 q => by cases q)
    · exact t253_b6 hd rl1 rl3 rl4 rl5 A e1 (fun s_0 s_1 s_2 q => by cases q) (fun x_0 x_1 q => by cases q; exact ke _ _ rfl)
def c253 (l1 : Int) (l2 : Int) (l3 : Int) (h : hS) : Option (Int × hS) :=
  (lp (fun s => c253_b6 l1 l3 s.1 s.2.1 s.2.2) hF0 (0, l2, h)).bind (fun r11 =>
  some (r11.1, r11.2))
theorem t253 {d : Nat} (hd : 3 ≤ d) {l1 : Int} {l2 : Int} {l3 : Int} {h : hS} {w : mmW} {o : Int × hS} (A : Abs h w) (rl1 : rg l1) (rl2 : rg l2) (rl3 : rg l3) (e : c253 l1 l2 l3 h = some o) : hEv d 253 [vR 395, vI l1, vI l2, vI l3] w (qI o) := by
  obtain ⟨d, rfl⟩ : ∃ d1, d = d1 + 1 := ⟨d - 1, by omega⟩
  have hd : 2 ≤ d := by omega
  refine hEv_start (args := [vr 395, vi l1, vi l2, vi l3]) (nl := 7) rfl (Nat.le_of_ble_eq_true rfl) ?_
  show hG d 253 0 [some (vr 395), some (vi l1), some (vi l2), some (vi l3), none, none, none] [] w _
  have kr : ∀ (v1 : Int) (h1 : hS), o = (v1, h1) → ∀ w', rg v1 → Abs h1 w' → qI o (some (.int (Int32.ofInt v1)), w') := fun v1 h1 q w' r A' => by cases q; exact ⟨rfl, r, A'⟩
  unfold c253 at e
  refine hg_run 4 (pc' := 6) (ls' := [some (vr 395), some (vi l1), some (vi l2), some (vi l3), some (vi 0), some (vi l2), none]) (st' := []) rfl ?_
  obtain ⟨r11, e11, e⟩ := ob e
  refine t253_l6 hd rl1 rl3 _ (rgn 0 rfl) rl2 A e11 ?_
  intro x11_0 x11_1 qq11 w11 z11_5 z11_6 q11_4 A11
  subst qq11
  try dsimp only at e
  refine hg_run 1 (pc' := 113) (ls' := [some (vr 395), some (vi l1), some (vi l2), some (vi l3), some (vi x11_0), z11_5, z11_6]) (st' := [vI x11_0]) rfl ?_
  cases e
  exact hg_retI rfl (by decide) (fit_I _) (kr _ _ rfl _ q11_4 A11)
def c252 (l1 : Int) (l2 : Int) (l3 : Int) (l4 : Int) (h : hS) : Option (Int × hS) :=
  (aIs h 404 40 l2).bind (fun v1 =>
  (c253 l1 v1 l3 h).bind (fun v2 =>
  (wIs v2.2 411 21 l1 v2.1).bind (fun h3 =>
  (wIs h3 412 21 l1 0).bind (fun h4 =>
  (wIs h4 408 21 l1 l2).bind (fun h5 =>
  (wIs h5 409 21 l1 l4).bind (fun h6 =>
  (wIs h6 410 21 l1 0).bind (fun h7 =>
  (wIs h7 413 21 l1 l3).bind (fun h8 =>
  (aIs h8 411 21 l1).bind (fun v9 =>
  if v9 ≤ 0 then
  some (0, h8)
  else
  some (1, h8))))))))))
theorem t252 {d : Nat} (hd : 4 ≤ d) {l1 : Int} {l2 : Int} {l3 : Int} {l4 : Int} {h : hS} {w : mmW} {o : Int × hS} (A : Abs h w) (rl1 : rg l1) (rl2 : rg l2) (rl3 : rg l3) (rl4 : rg l4) (e : c252 l1 l2 l3 l4 h = some o) : hEv d 252 [vR 395, vI l1, vI l2, vI l3, vI l4] w (qI o) := by
  obtain ⟨d, rfl⟩ : ∃ d1, d = d1 + 1 := ⟨d - 1, by omega⟩
  have hd : 3 ≤ d := by omega
  refine hEv_start (args := [vr 395, vi l1, vi l2, vi l3, vi l4]) (nl := 5) rfl (Nat.le_of_ble_eq_true rfl) ?_
  show hG d 252 0 [some (vr 395), some (vi l1), some (vi l2), some (vi l3), some (vi l4)] [] w _
  have kr : ∀ (v1 : Int) (h1 : hS), o = (v1, h1) → ∀ w', rg v1 → Abs h1 w' → qI o (some (.int (Int32.ofInt v1)), w') := fun v1 h1 q w' r A' => by cases q; exact ⟨rfl, r, A'⟩
  unfold c252 at e
  refine hg_run 1 (pc' := 1) (ls' := [some (vr 395), some (vi l1), some (vi l2), some (vi l3), some (vi l4)]) (st' := [vR 395]) rfl ?_
  refine gs_395_46 rfl A ?_
  refine hg_run 4 (pc' := 8) (ls' := [some (vr 395), some (vi l1), some (vi l2), some (vi l3), some (vi l4)]) (st' := [vR 395, vI l1, vR 395, vI l1, vR 411]) rfl ?_
  refine gs_395_35 rfl A ?_
  refine hg_run 1 (pc' := 12) (ls' := [some (vr 395), some (vi l1), some (vi l2), some (vi l3), some (vi l4)]) (st' := [vI l2, vR 404, vI l1, vR 395, vI l1, vR 411]) rfl ?_
  obtain ⟨v1, e1, e⟩ := ob e
  refine hg_aIs 0 rfl (fun _ _ _ _ => rfl) A (Abs_ks A (i := 32) rfl) rfl (by decide) e1 (fun r1 => ?_)
  refine hg_run 1 (pc' := 14) (ls' := [some (vr 395), some (vi l1), some (vi l2), some (vi l3), some (vi l4)]) (st' := [vI l3, vI v1, vI l1, vR 395, vI l1, vR 411]) rfl ?_
  obtain ⟨v2, e2, e⟩ := ob e
  refine hg_cI (as := [vR 395, vI l1, vI v1, vI l3]) (st' := [vI l1, vR 411]) rfl (fun _ _ _ _ => rfl) rfl rfl (Nat.le_of_ble_eq_true rfl) (Nat.le_of_ble_eq_true rfl) (recvV A (a := 13) (Abs_ks A (i := 23) rfl).1) (t253 (by omega) A rl1 r1 rl3 e2) (fun w2 r2 A2 => ?_)
  obtain ⟨h3, e3, e⟩ := ob e
  refine hg_wIs rfl A2 (Abs_ks A2 (i := 39) rfl) (by decide) r2 e3 (fun w3 A3 => ?_)
  refine hg_run 1 (pc' := 19) (ls' := [some (vr 395), some (vi l1), some (vi l2), some (vi l3), some (vi l4)]) (st' := [vR 395]) rfl ?_
  refine gs_395_47 rfl A3 ?_
  refine hg_run 2 (pc' := 24) (ls' := [some (vr 395), some (vi l1), some (vi l2), some (vi l3), some (vi l4)]) (st' := [vI 0, vI l1, vR 412]) rfl ?_
  obtain ⟨h4, e4, e⟩ := ob e
  refine hg_wIs rfl A3 (Abs_ks A3 (i := 40) rfl) (by decide) (rgn 0 rfl) e4 (fun w4 A4 => ?_)
  refine hg_run 1 (pc' := 26) (ls' := [some (vr 395), some (vi l1), some (vi l2), some (vi l3), some (vi l4)]) (st' := [vR 395]) rfl ?_
  refine gs_395_43 rfl A4 ?_
  refine hg_run 2 (pc' := 31) (ls' := [some (vr 395), some (vi l1), some (vi l2), some (vi l3), some (vi l4)]) (st' := [vI l2, vI l1, vR 408]) rfl ?_
  obtain ⟨h5, e5, e⟩ := ob e
  refine hg_wIs rfl A4 (Abs_ks A4 (i := 36) rfl) (by decide) rl2 e5 (fun w5 A5 => ?_)
  refine hg_run 1 (pc' := 33) (ls' := [some (vr 395), some (vi l1), some (vi l2), some (vi l3), some (vi l4)]) (st' := [vR 395]) rfl ?_
  refine gs_395_44 rfl A5 ?_
  refine hg_run 2 (pc' := 39) (ls' := [some (vr 395), some (vi l1), some (vi l2), some (vi l3), some (vi l4)]) (st' := [vI l4, vI l1, vR 409]) rfl ?_
  obtain ⟨h6, e6, e⟩ := ob e
  refine hg_wIs rfl A5 (Abs_ks A5 (i := 37) rfl) (by decide) rl4 e6 (fun w6 A6 => ?_)
  refine hg_run 1 (pc' := 41) (ls' := [some (vr 395), some (vi l1), some (vi l2), some (vi l3), some (vi l4)]) (st' := [vR 395]) rfl ?_
  refine gs_395_45 rfl A6 ?_
  refine hg_run 2 (pc' := 46) (ls' := [some (vr 395), some (vi l1), some (vi l2), some (vi l3), some (vi l4)]) (st' := [vI 0, vI l1, vR 410]) rfl ?_
  obtain ⟨h7, e7, e⟩ := ob e
  refine hg_wIs rfl A6 (Abs_ks A6 (i := 38) rfl) (by decide) (rgn 0 rfl) e7 (fun w7 A7 => ?_)
  refine hg_run 1 (pc' := 48) (ls' := [some (vr 395), some (vi l1), some (vi l2), some (vi l3), some (vi l4)]) (st' := [vR 395]) rfl ?_
  refine gs_395_48 rfl A7 ?_
  refine hg_run 2 (pc' := 53) (ls' := [some (vr 395), some (vi l1), some (vi l2), some (vi l3), some (vi l4)]) (st' := [vI l3, vI l1, vR 413]) rfl ?_
  obtain ⟨h8, e8, e⟩ := ob e
  refine hg_wIs rfl A7 (Abs_ks A7 (i := 41) rfl) (by decide) rl3 e8 (fun w8 A8 => ?_)
  refine hg_run 1 (pc' := 55) (ls' := [some (vr 395), some (vi l1), some (vi l2), some (vi l3), some (vi l4)]) (st' := [vR 395]) rfl ?_
  refine gs_395_46 rfl A8 ?_
  refine hg_run 1 (pc' := 59) (ls' := [some (vr 395), some (vi l1), some (vi l2), some (vi l3), some (vi l4)]) (st' := [vI l1, vR 411]) rfl ?_
  obtain ⟨v9, e9, e⟩ := ob e
  refine hg_aIs 0 rfl (fun _ _ _ _ => rfl) A8 (Abs_ks A8 (i := 39) rfl) rfl (by decide) e9 (fun r9 => ?_)
  rcases oi e with ⟨q10, e⟩ | ⟨q10, e⟩
  · refine hg_ifT (tgt := 67) rfl (by decide) r9 q10 ?_
    refine hg_run 1 (pc' := 68) (ls' := [some (vr 395), some (vi l1), some (vi l2), some (vi l3), some (vi l4)]) (st' := [vI 0]) rfl ?_
    cases e
    exact hg_retI rfl (by decide) (fit_B (.inl rfl)) (kr _ _ rfl _ (rgn 0 rfl) A8)
  · refine hg_ifF (tgt := 67) rfl (by decide) r9 q10 ?_
    refine hg_run 2 (pc' := 68) (ls' := [some (vr 395), some (vi l1), some (vi l2), some (vi l3), some (vi l4)]) (st' := [vI 1]) rfl ?_
    cases e
    exact hg_retI rfl (by decide) (fit_B (.inr rfl)) (kr _ _ rfl _ (rgn 1 rfl) A8)
def c256 (l1 : Int) (l2 : Int) (h : hS) : Option (Int) :=
  (aIs h 399 48000 (wadd (wmul 5 l1) l2)).bind (fun v1 =>
  some v1)
theorem t256 {d : Nat} (hd : 1 ≤ d) {l1 : Int} {l2 : Int} {h : hS} {w : mmW} {o : Int} (A : Abs h w) (rl1 : rg l1) (rl2 : rg l2) (e : c256 l1 l2 h = some o) : hEv d 256 [vR 395, vI l1, vI l2] w (qIp o w) := by
  obtain ⟨d, rfl⟩ : ∃ d1, d = d1 + 1 := ⟨d - 1, by omega⟩
  have hd : 0 ≤ d := by omega
  refine hEv_start (args := [vr 395, vi l1, vi l2]) (nl := 3) rfl (Nat.le_of_ble_eq_true rfl) ?_
  show hG d 256 0 [some (vr 395), some (vi l1), some (vi l2)] [] w _
  have kr : ∀ v1 : Int, o = v1 → rg v1 → qIp o w (some (.int (Int32.ofInt v1)), w) := fun v1 q r => by cases q; exact ⟨rfl, r⟩
  unfold c256 at e
  refine hg_run 1 (pc' := 1) (ls' := [some (vr 395), some (vi l1), some (vi l2)]) (st' := [vR 395]) rfl ?_
  refine gs_395_15 rfl A ?_
  refine hg_run 5 (pc' := 9) (ls' := [some (vr 395), some (vi l1), some (vi l2)]) (st' := [vI (wadd (wmul 5 l1) l2), vR 399]) rfl ?_
  obtain ⟨v1, e1, e⟩ := ob e
  refine hg_aIs 0 rfl (fun _ _ _ _ => rfl) A (Abs_ks A (i := 27) rfl) rfl (by decide) e1 (fun r1 => ?_)
  cases e
  exact hg_retI rfl (by decide) (fit_I _) (kr _ rfl r1)
def c257 (l1 : Int) (l2 : Int) (h : hS) : Option (Int) :=
  (c256 l1 l2 h).bind (fun v1 =>
  if v1 = (-1) then
  some (-1)
  else
  some (wadd (wmul (wdiv l1 1200) 1200) v1))
theorem t257 {d : Nat} (hd : 2 ≤ d) {l1 : Int} {l2 : Int} {h : hS} {w : mmW} {o : Int} (A : Abs h w) (rl1 : rg l1) (rl2 : rg l2) (e : c257 l1 l2 h = some o) : hEv d 257 [vR 395, vI l1, vI l2] w (qIp o w) := by
  obtain ⟨d, rfl⟩ : ∃ d1, d = d1 + 1 := ⟨d - 1, by omega⟩
  have hd : 1 ≤ d := by omega
  refine hEv_start (args := [vr 395, vi l1, vi l2]) (nl := 4) rfl (Nat.le_of_ble_eq_true rfl) ?_
  show hG d 257 0 [some (vr 395), some (vi l1), some (vi l2), none] [] w _
  have kr : ∀ v1 : Int, o = v1 → rg v1 → qIp o w (some (.int (Int32.ofInt v1)), w) := fun v1 q r => by cases q; exact ⟨rfl, r⟩
  unfold c257 at e
  refine hg_run 3 (pc' := 3) (ls' := [some (vr 395), some (vi l1), some (vi l2), none]) (st' := [vI l2, vI l1, vR 395]) rfl ?_
  obtain ⟨v1, e1, e⟩ := ob e
  refine hg_cIp (as := [vR 395, vI l1, vI l2]) (st' := []) rfl (fun _ _ _ _ => rfl) rfl rfl (Nat.le_of_ble_eq_true rfl) (Nat.le_of_ble_eq_true rfl) (recvV A (a := 13) (Abs_ks A (i := 23) rfl).1) (t256 (by omega) A rl1 rl2 e1) (fun r1 => ?_)
  refine hg_run 3 (pc' := 9) (ls' := [some (vr 395), some (vi l1), some (vi l2), some (vi v1)]) (st' := [vI (-1), vI v1]) rfl ?_
  rcases oi e with ⟨q2, e⟩ | ⟨q2, e⟩
  · refine hg_icF (tgt := 16) rfl (by decide) r1 (rgn (-1) rfl) (show ¬ ¬ (v1 = (-1)) from fun f => f q2) ?_
    refine hg_run 2 (pc' := 27) (ls' := [some (vr 395), some (vi l1), some (vi l2), some (vi v1)]) (st' := [vI (-1)]) rfl ?_
    cases e
    exact hg_retI rfl (by decide) (fit_I _) (kr _ rfl (rgn (-1) rfl))
  · refine hg_icT (tgt := 16) rfl (by decide) r1 (rgn (-1) rfl) (show ¬ (v1 = (-1)) from q2) ?_
    refine hg_run 7 (pc' := 27) (ls' := [some (vr 395), some (vi l1), some (vi l2), some (vi v1)]) (st' := [vI (wadd (wmul (wdiv l1 1200) 1200) v1)]) rfl ?_
    cases e
    exact hg_retI rfl (by decide) (fit_I _) (kr _ rfl (rg_add _ _))
def c260 (l1 : Int) (l2 : Int) (h : hS) : Option (Int) :=
  (aIs h 404 40 l1).bind (fun v1 =>
  (c237 0 v1 l2 h).bind (fun v2 =>
  if v2 = (-1) then
  (aIs h 404 40 l1).bind (fun v4 =>
  (c248 0 v4 l2 h).bind (fun v5 =>
  if v5 = (-1) then
  (aIs h 407 1600 (wadd (wmul 40 l1) l2)).bind (fun v7 =>
  if v7 = 0 then
  some (-1)
  else
  some 2)
  else
  some 1))
  else
  some 0))
theorem t260 {d : Nat} (hd : 4 ≤ d) {l1 : Int} {l2 : Int} {h : hS} {w : mmW} {o : Int} (A : Abs h w) (rl1 : rg l1) (rl2 : rg l2) (e : c260 l1 l2 h = some o) : hEv d 260 [vR 395, vI l1, vI l2] w (qIp o w) := by
  obtain ⟨d, rfl⟩ : ∃ d1, d = d1 + 1 := ⟨d - 1, by omega⟩
  have hd : 3 ≤ d := by omega
  refine hEv_start (args := [vr 395, vi l1, vi l2]) (nl := 3) rfl (Nat.le_of_ble_eq_true rfl) ?_
  show hG d 260 0 [some (vr 395), some (vi l1), some (vi l2)] [] w _
  have kr : ∀ v1 : Int, o = v1 → rg v1 → qIp o w (some (.int (Int32.ofInt v1)), w) := fun v1 q r => by cases q; exact ⟨rfl, r⟩
  unfold c260 at e
  refine hg_run 3 (pc' := 3) (ls' := [some (vr 395), some (vi l1), some (vi l2)]) (st' := [vR 395, vI 0, vR 395]) rfl ?_
  refine gs_395_35 rfl A ?_
  refine hg_run 1 (pc' := 7) (ls' := [some (vr 395), some (vi l1), some (vi l2)]) (st' := [vI l1, vR 404, vI 0, vR 395]) rfl ?_
  obtain ⟨v1, e1, e⟩ := ob e
  refine hg_aIs 0 rfl (fun _ _ _ _ => rfl) A (Abs_ks A (i := 32) rfl) rfl (by decide) e1 (fun r1 => ?_)
  refine hg_run 1 (pc' := 9) (ls' := [some (vr 395), some (vi l1), some (vi l2)]) (st' := [vI l2, vI v1, vI 0, vR 395]) rfl ?_
  obtain ⟨v2, e2, e⟩ := ob e
  refine hg_cIp (as := [vR 395, vI 0, vI v1, vI l2]) (st' := []) rfl (fun _ _ _ _ => rfl) rfl rfl (Nat.le_of_ble_eq_true rfl) (Nat.le_of_ble_eq_true rfl) (recvV A (a := 13) (Abs_ks A (i := 23) rfl).1) (t237 (by omega) A (rgn 0 rfl) r1 rl2 e2) (fun r2 => ?_)
  refine hg_run 1 (pc' := 13) (ls' := [some (vr 395), some (vi l1), some (vi l2)]) (st' := [vI (-1), vI v2]) rfl ?_
  rcases oi e with ⟨q3, e⟩ | ⟨q3, e⟩
  · refine hg_icT (tgt := 18) rfl (by decide) r2 (rgn (-1) rfl) q3 ?_
    refine hg_run 3 (pc' := 21) (ls' := [some (vr 395), some (vi l1), some (vi l2)]) (st' := [vR 395, vI 0, vR 395]) rfl ?_
    refine gs_395_35 rfl A ?_
    refine hg_run 1 (pc' := 25) (ls' := [some (vr 395), some (vi l1), some (vi l2)]) (st' := [vI l1, vR 404, vI 0, vR 395]) rfl ?_
    obtain ⟨v4, e4, e⟩ := ob e
    refine hg_aIs 0 rfl (fun _ _ _ _ => rfl) A (Abs_ks A (i := 32) rfl) rfl (by decide) e4 (fun r4 => ?_)
    refine hg_run 1 (pc' := 27) (ls' := [some (vr 395), some (vi l1), some (vi l2)]) (st' := [vI l2, vI v4, vI 0, vR 395]) rfl ?_
    obtain ⟨v5, e5, e⟩ := ob e
    refine hg_cIp (as := [vR 395, vI 0, vI v4, vI l2]) (st' := []) rfl (fun _ _ _ _ => rfl) rfl rfl (Nat.le_of_ble_eq_true rfl) (Nat.le_of_ble_eq_true rfl) (recvV A (a := 13) (Abs_ks A (i := 23) rfl).1) (t248 (by omega) A (rgn 0 rfl) r4 rl2 e5) (fun r5 => ?_)
    refine hg_run 1 (pc' := 31) (ls' := [some (vr 395), some (vi l1), some (vi l2)]) (st' := [vI (-1), vI v5]) rfl ?_
    rcases oi e with ⟨q6, e⟩ | ⟨q6, e⟩
    · refine hg_icT (tgt := 36) rfl (by decide) r5 (rgn (-1) rfl) q6 ?_
      refine hg_run 1 (pc' := 37) (ls' := [some (vr 395), some (vi l1), some (vi l2)]) (st' := [vR 395]) rfl ?_
      refine gs_395_38 rfl A ?_
      refine hg_run 5 (pc' := 46) (ls' := [some (vr 395), some (vi l1), some (vi l2)]) (st' := [vI (wadd (wmul 40 l1) l2), vR 407]) rfl ?_
      obtain ⟨v7, e7, e⟩ := ob e
      refine hg_aIs 1 rfl (fun _ _ _ _ => rfl) A (Abs_ks A (i := 35) rfl) rfl (by decide) e7 (fun r7 => ?_)
      rcases oi e with ⟨q8, e⟩ | ⟨q8, e⟩
      · refine hg_ifT (tgt := 54) rfl (by decide) r7 q8 ?_
        refine hg_run 1 (pc' := 55) (ls' := [some (vr 395), some (vi l1), some (vi l2)]) (st' := [vI (-1)]) rfl ?_
        cases e
        exact hg_retI rfl (by decide) (fit_I _) (kr _ rfl (rgn (-1) rfl))
      · refine hg_ifF (tgt := 54) rfl (by decide) r7 q8 ?_
        refine hg_run 2 (pc' := 55) (ls' := [some (vr 395), some (vi l1), some (vi l2)]) (st' := [vI 2]) rfl ?_
        cases e
        exact hg_retI rfl (by decide) (fit_I _) (kr _ rfl (rgn 2 rfl))
    · refine hg_icF (tgt := 36) rfl (by decide) r5 (rgn (-1) rfl) q6 ?_
      refine hg_run 1 (pc' := 35) (ls' := [some (vr 395), some (vi l1), some (vi l2)]) (st' := [vI 1]) rfl ?_
      cases e
      exact hg_retI rfl (by decide) (fit_I _) (kr _ rfl (rgn 1 rfl))
  · refine hg_icF (tgt := 18) rfl (by decide) r2 (rgn (-1) rfl) q3 ?_
    refine hg_run 1 (pc' := 17) (ls' := [some (vr 395), some (vi l1), some (vi l2)]) (st' := [vI 0]) rfl ?_
    cases e
    exact hg_retI rfl (by decide) (fit_I _) (kr _ rfl (rgn 0 rfl))
def c261 (l1 : Int) (h : hS) : Option (Int × hS) :=
  (some (sI h 395 39 l1)).bind (fun h1 =>
  some (0, h1))
theorem t261 {d : Nat} (hd : 1 ≤ d) {l1 : Int} {h : hS} {w : mmW} {o : Int × hS} (A : Abs h w) (rl1 : rg l1) (e : c261 l1 h = some o) : hEv d 261 [vR 395, vI l1] w (qI o) := by
  obtain ⟨d, rfl⟩ : ∃ d1, d = d1 + 1 := ⟨d - 1, by omega⟩
  have hd : 0 ≤ d := by omega
  refine hEv_start (args := [vr 395, vi l1]) (nl := 2) rfl (Nat.le_of_ble_eq_true rfl) ?_
  show hG d 261 0 [some (vr 395), some (vi l1)] [] w _
  have kr : ∀ (v1 : Int) (h1 : hS), o = (v1, h1) → ∀ w', rg v1 → Abs h1 w' → qI o (some (.int (Int32.ofInt v1)), w') := fun v1 h1 q w' r A' => by cases q; exact ⟨rfl, r, A'⟩
  unfold c261 at e
  refine hg_run 2 (pc' := 2) (ls' := [some (vr 395), some (vi l1)]) (st' := [vI l1, vR 395]) rfl ?_
  obtain ⟨h1, e1, e⟩ := ob e
  refine ps_395_39 rfl A rl1 e1 (fun w1 A1 => ?_)
  refine hg_run 1 (pc' := 6) (ls' := [some (vr 395), some (vi l1)]) (st' := [vI 0]) rfl ?_
  cases e
  exact hg_retI rfl (by decide) (fit_B (.inl rfl)) (kr _ _ rfl _ (rgn 0 rfl) A1)
def c262 (l0 : Int) (l1 : Int) (l2 : Int) (h : hS) : Option (Int) :=
  if l0 < 10 ∨ 14 < l0 then
  if l1 = l2 then
  some 1
  else
  some 0
  else
  if l0 = 10 then
  some (wadd l1 l2)
  else
  if l0 = 11 then
  some (wsub l1 l2)
  else
  if l0 = 12 then
  some (wmul l1 l2)
  else
  if l0 = 13 then
  (dI l1 l2).bind (fun v7 =>
  some v7)
  else
  if l0 = 14 then
  if l2 ≤ l1 then
  some 0
  else
  some 1
  else
  none
theorem t262 {d : Nat} (hd : 1 ≤ d) {l0 : Int} {l1 : Int} {l2 : Int} {h : hS} {w : mmW} {o : Int} (A : Abs h w) (rl0 : rg l0) (rl1 : rg l1) (rl2 : rg l2) (e : c262 l0 l1 l2 h = some o) : hEv d 262 [vI l0, vI l1, vI l2] w (qIp o w) := by
  obtain ⟨d, rfl⟩ : ∃ d1, d = d1 + 1 := ⟨d - 1, by omega⟩
  have hd : 0 ≤ d := by omega
  refine hEv_start (args := [vi l0, vi l1, vi l2]) (nl := 3) rfl (Nat.le_of_ble_eq_true rfl) ?_
  show hG d 262 0 [some (vi l0), some (vi l1), some (vi l2)] [] w _
  have kr : ∀ v1 : Int, o = v1 → rg v1 → qIp o w (some (.int (Int32.ofInt v1)), w) := fun v1 q r => by cases q; exact ⟨rfl, r⟩
  unfold c262 at e
  refine hg_run 1 (pc' := 1) (ls' := [some (vi l0), some (vi l1), some (vi l2)]) (st' := [vI l0]) rfl ?_
  rcases oi e with ⟨q1, e⟩ | ⟨q1, e⟩
  · refine hg_tsD (tgt := 63) rfl rl0 q1 (by decide) ?_
    refine hg_run 2 (pc' := 65) (ls' := [some (vi l0), some (vi l1), some (vi l2)]) (st' := [vI l2, vI l1]) rfl ?_
    rcases oi e with ⟨q2, e⟩ | ⟨q2, e⟩
    · refine hg_icF (tgt := 72) rfl (by decide) rl1 rl2 (show ¬ ¬ (l1 = l2) from fun f => f q2) ?_
      refine hg_run 2 (pc' := 73) (ls' := [some (vi l0), some (vi l1), some (vi l2)]) (st' := [vI 1]) rfl ?_
      cases e
      exact hg_retI rfl (by decide) (fit_I _) (kr _ rfl (rgn 1 rfl))
    · refine hg_icT (tgt := 72) rfl (by decide) rl1 rl2 (show ¬ (l1 = l2) from q2) ?_
      refine hg_run 1 (pc' := 73) (ls' := [some (vi l0), some (vi l1), some (vi l2)]) (st' := [vI 0]) rfl ?_
      cases e
      exact hg_retI rfl (by decide) (fit_I _) (kr _ rfl (rgn 0 rfl))
  · rcases oi e with ⟨q3, e⟩ | ⟨q3, e⟩
    · refine hg_tsC (tgt := 36) rfl rl0 q3 (by decide) rfl (by decide) ?_
      refine hg_run 3 (pc' := 39) (ls' := [some (vi l0), some (vi l1), some (vi l2)]) (st' := [vI (wadd l1 l2)]) rfl ?_
      cases e
      exact hg_retI rfl (by decide) (fit_I _) (kr _ rfl (rg_add _ _))
    · rcases oi e with ⟨q4, e⟩ | ⟨q4, e⟩
      · refine hg_tsC (tgt := 40) rfl rl0 q4 (by decide) rfl (by decide) ?_
        refine hg_run 3 (pc' := 43) (ls' := [some (vi l0), some (vi l1), some (vi l2)]) (st' := [vI (wsub l1 l2)]) rfl ?_
        cases e
        exact hg_retI rfl (by decide) (fit_I _) (kr _ rfl (rg_sub _ _))
      · rcases oi e with ⟨q5, e⟩ | ⟨q5, e⟩
        · refine hg_tsC (tgt := 44) rfl rl0 q5 (by decide) rfl (by decide) ?_
          refine hg_run 3 (pc' := 47) (ls' := [some (vi l0), some (vi l1), some (vi l2)]) (st' := [vI (wmul l1 l2)]) rfl ?_
          cases e
          exact hg_retI rfl (by decide) (fit_I _) (kr _ rfl (rg_mul _ _))
        · rcases oi e with ⟨q6, e⟩ | ⟨q6, e⟩
          · refine hg_tsC (tgt := 48) rfl rl0 q6 (by decide) rfl (by decide) ?_
            refine hg_run 2 (pc' := 50) (ls' := [some (vi l0), some (vi l1), some (vi l2)]) (st' := [vI l2, vI l1]) rfl ?_
            obtain ⟨v7, e7, e⟩ := ob e
            refine hg_div rfl rl2 (dI_e e7).1 (dI_e e7).2 (fun r7 => ?_)
            cases e
            exact hg_retI rfl (by decide) (fit_I _) (kr _ rfl r7)
          · rcases oi e with ⟨q8, e⟩ | ⟨q8, e⟩
            · refine hg_tsC (tgt := 52) rfl rl0 q8 (by decide) rfl (by decide) ?_
              refine hg_run 2 (pc' := 54) (ls' := [some (vi l0), some (vi l1), some (vi l2)]) (st' := [vI l2, vI l1]) rfl ?_
              rcases oi e with ⟨q9, e⟩ | ⟨q9, e⟩
              · refine hg_icT (tgt := 61) rfl (by decide) rl1 rl2 q9 ?_
                refine hg_run 1 (pc' := 62) (ls' := [some (vi l0), some (vi l1), some (vi l2)]) (st' := [vI 0]) rfl ?_
                cases e
                exact hg_retI rfl (by decide) (fit_I _) (kr _ rfl (rgn 0 rfl))
              · refine hg_icF (tgt := 61) rfl (by decide) rl1 rl2 q9 ?_
                refine hg_run 2 (pc' := 62) (ls' := [some (vi l0), some (vi l1), some (vi l2)]) (st' := [vI 1]) rfl ?_
                cases e
                exact hg_retI rfl (by decide) (fit_I _) (kr _ rfl (rgn 1 rfl))
            · cases e
def c258_b8 (l4 : Int) (h : hS) : Option ((Int × hS) ⊕ (Int × hS)) :=
  (c256 l4 0 h).bind (fun v1 =>
  if v1 < 10 then
  some (.inr (l4, h))
  else
  (wIs h 417 1200 (hI h 395 54) l4).bind (fun h3 =>
  (some (sI h3 395 54 (wadd (hI h3 395 54) 1))).bind (fun h4 =>
  (c257 l4 1 h4).bind (fun v5 =>
  some (.inl (v5, h4))))))
set_option maxRecDepth 100000 in
theorem t258_b8 {d : Nat} {call : Nat → List Int → hS → Option (Int × hS)} (hcall : ∀ (k : Nat) (as : List Int) (h : hS) (w : mmW) (o : Int × hS), Abs h w → (∀ a ∈ as, rg a) → call k as h = some o → hEv d k (vR 395 :: as.map vI) w (qI o)) (hd : 4 ≤ d) {l4 : Int} {z1 : Option hO} {l2 : Int} {l3 : Int} {z5 : Option hO} {z6 : Option hO} {z7 : Option hO} {h : hS} {w : mmW} {o : (Int × hS) ⊕ (Int × hS)} {Q : mmO → Prop} (rl4 : rg l4) (A : Abs h w) (e : c258_b8 l4 h = some o) (kb : ∀ (s_0 : Int) (s_1 : hS), o = .inl (s_0, s_1) → ∀ w', rg s_0 → Abs s_1 w' → hG d 258 8 [some (vr 395), z1, some (vi l2), some (vi l3), some (vi s_0), z5, z6, z7] [] w' Q) (ke : ∀ (x_0 : Int) (x_1 : hS), o = .inr (x_0, x_1) → ∀ w', rg x_0 → Abs x_1 w' → hG d 258 53 [some (vr 395), z1, some (vi l2), some (vi l3), some (vi x_0), z5, z6, z7] [] w' Q) : hG d 258 8 [some (vr 395), z1, some (vi l2), some (vi l3), some (vi l4), z5, z6, z7] [] w Q := by
  unfold c258_b8 at e
  refine hg_run 3 (pc' := 12) (ls' := [some (vr 395), z1, some (vi l2), some (vi l3), some (vi l4), z5, z6, z7]) (st' := [vI 0, vI l4, vR 395]) rfl ?_
  obtain ⟨v1, e1, e⟩ := ob e
  refine hg_cIp (as := [vR 395, vI l4, vI 0]) (st' := []) rfl (fun _ _ _ _ => rfl) rfl rfl (Nat.le_of_ble_eq_true rfl) (Nat.le_of_ble_eq_true rfl) (recvV A (a := 13) (Abs_ks A (i := 23) rfl).1) (t256 (by omega) A rl4 (rgn 0 rfl) e1) (fun r1 => ?_)
  refine hg_run 1 (pc' := 17) (ls' := [some (vr 395), z1, some (vi l2), some (vi l3), some (vi l4), z5, z6, z7]) (st' := [vI 10, vI v1]) rfl ?_
  rcases oi e with ⟨q2, e⟩ | ⟨q2, e⟩
  · refine hg_icT (tgt := 53) rfl (by decide) r1 (rgn 10 rfl) q2 ?_
    cases e
    exact ke l4 h rfl _ rl4 A
  · refine hg_icF (tgt := 53) rfl (by decide) r1 (rgn 10 rfl) q2 ?_
    refine hg_run 1 (pc' := 21) (ls' := [some (vr 395), z1, some (vi l2), some (vi l3), some (vi l4), z5, z6, z7]) (st' := [vR 395]) rfl ?_
    refine gs_395_53 rfl A ?_
    refine hg_run 1 (pc' := 25) (ls' := [some (vr 395), z1, some (vi l2), some (vi l3), some (vi l4), z5, z6, z7]) (st' := [vR 395, vR 417]) rfl ?_
    refine gs_395_54 rfl A ?_
    refine hg_run 1 (pc' := 30) (ls' := [some (vr 395), z1, some (vi l2), some (vi l3), some (vi l4), z5, z6, z7]) (st' := [vI l4, vI (hI h 395 54), vR 417]) rfl ?_
    obtain ⟨h3, e3, e⟩ := ob e
    refine hg_wIs rfl A (Abs_ks A (i := 45) rfl) (by decide) rl4 e3 (fun w3 A3 => ?_)
    refine hg_run 2 (pc' := 33) (ls' := [some (vr 395), z1, some (vi l2), some (vi l3), some (vi l4), z5, z6, z7]) (st' := [vR 395, vR 395]) rfl ?_
    refine gs_395_54 rfl A3 ?_
    refine hg_run 2 (pc' := 38) (ls' := [some (vr 395), z1, some (vi l2), some (vi l3), some (vi l4), z5, z6, z7]) (st' := [vI (wadd (hI h3 395 54) 1), vR 395]) rfl ?_
    obtain ⟨h4, e4, e⟩ := ob e
    refine ps_395_54 rfl A3 (rg_add _ _) e4 (fun w4 A4 => ?_)
    refine hg_run 3 (pc' := 45) (ls' := [some (vr 395), z1, some (vi l2), some (vi l3), some (vi l4), z5, z6, z7]) (st' := [vI 1, vI l4, vR 395]) rfl ?_
    obtain ⟨v5, e5, e⟩ := ob e
    refine hg_cIp (as := [vR 395, vI l4, vI 1]) (st' := []) rfl (fun _ _ _ _ => rfl) rfl rfl (Nat.le_of_ble_eq_true rfl) (Nat.le_of_ble_eq_true rfl) (recvV A4 (a := 13) (Abs_ks A4 (i := 23) rfl).1) (t257 (by omega) A4 rl4 (rgn 1 rfl) e5) (fun r5 => ?_)
    refine hg_run 2 (pc' := 8) (ls' := [some (vr 395), z1, some (vi l2), some (vi l3), some (vi v5), z5, z6, z7]) (st' := []) rfl ?_
    cases e
    exact kb v5 h4 rfl _ r5 A4
set_option maxRecDepth 100000 in
theorem t258_l8 {d : Nat} {call : Nat → List Int → hS → Option (Int × hS)} (hcall : ∀ (k : Nat) (as : List Int) (h : hS) (w : mmW) (o : Int × hS), Abs h w → (∀ a ∈ as, rg a) → call k as h = some o → hEv d k (vR 395 :: as.map vI) w (qI o)) (hd : 4 ≤ d)  {z1 : Option hO} {l2 : Int} {l3 : Int} {z5 : Option hO} {z6 : Option hO} {z7 : Option hO} {Q : mmO → Prop}  (n : Nat) {l4 : Int}  {h : hS} {w : mmW} {r : Int × hS} (rl4 : rg l4) (A : Abs h w) (e : lp (fun s => c258_b8  s.1 s.2) n (l4, h) = some r) (ke : ∀ (x_0 : Int) (x_1 : hS), r = (x_0, x_1) → ∀ w', rg x_0 → Abs x_1 w' → hG d 258 53 [some (vr 395), z1, some (vi l2), some (vi l3), some (vi x_0), z5, z6, z7] [] w' Q) : hG d 258 8 [some (vr 395), z1, some (vi l2), some (vi l3), some (vi l4), z5, z6, z7] [] w Q := by
  induction n generalizing l4 h w with
  | zero => cases e
  | succ n ih =>
    rcases lp_succ e with ⟨s1, e1, e2⟩ | e1
    · exact t258_b8 hcall hd rl4 A e1 (fun s_0 s_1 q w1 rl4 A1 => by cases q; exact ih rl4 A1 e2) (fun x_0 x_1 q => by cases q)
    · exact t258_b8 hcall hd rl4 A e1 (fun s_0 s_1 q => by cases q) (fun x_0 x_1 q => by cases q; exact ke _ _ rfl)
def c258_j166 (l5 : Int) (h : hS) : Option ((Int × hS) ⊕ (Int × hS)) :=
  (some (sI h 395 54 (wsub (hI h 395 54) 1))).bind (fun h15 =>
  some (.inl (l5, h15)))
set_option maxRecDepth 100000 in
theorem t258_j166 {d : Nat} {call : Nat → List Int → hS → Option (Int × hS)} (hcall : ∀ (k : Nat) (as : List Int) (h : hS) (w : mmW) (o : Int × hS), Abs h w → (∀ a ∈ as, rg a) → call k as h = some o → hEv d k (vR 395 :: as.map vI) w (qI o)) (hd : 4 ≤ d) {l5 : Int} {z1 : Option hO} {l2 : Int} {l3 : Int} {z4 : Option hO} {z6 : Option hO} {z7 : Option hO} {h : hS} {w : mmW} {o : (Int × hS) ⊕ (Int × hS)} {Q : mmO → Prop} (rl5 : rg l5) (A : Abs h w) (e : c258_j166 l5 h = some o) (kb : ∀ (s_0 : Int) (s_1 : hS), o = .inl (s_0, s_1) → ∀ w', ∀ (y6 y7 : Option hO), rg s_0 → Abs s_1 w' → hG d 258 62 [some (vr 395), z1, some (vi l2), some (vi l3), z4, some (vi s_0), y6, y7] [] w' Q) (ke : ∀ (x_0 : Int) (x_1 : hS), o = .inr (x_0, x_1) → ∀ w', ∀ (y6 y7 : Option hO), rg x_0 → Abs x_1 w' → hG d 258 179 [some (vr 395), z1, some (vi l2), some (vi l3), z4, some (vi x_0), y6, y7] [] w' Q) : hG d 258 166 [some (vr 395), z1, some (vi l2), some (vi l3), z4, some (vi l5), z6, z7] [] w Q := by
  unfold c258_j166 at e
  refine hg_run 2 (pc' := 168) (ls' := [some (vr 395), z1, some (vi l2), some (vi l3), z4, some (vi l5), z6, z7]) (st' := [vR 395, vR 395]) rfl ?_
  refine gs_395_54 rfl A ?_
  refine hg_run 2 (pc' := 173) (ls' := [some (vr 395), z1, some (vi l2), some (vi l3), z4, some (vi l5), z6, z7]) (st' := [vI (wsub (hI h 395 54) 1), vR 395]) rfl ?_
  obtain ⟨h15, e15, e⟩ := ob e
  refine ps_395_54 rfl A (rg_sub _ _) e15 (fun w15 A15 => ?_)
  refine hg_run 1 (pc' := 62) (ls' := [some (vr 395), z1, some (vi l2), some (vi l3), z4, some (vi l5), z6, z7]) (st' := []) rfl ?_
  cases e
  exact kb l5 h15 rfl _ _ _ rl5 A15
def c258_j141 (l5 : Int) (l6 : Int) (l7 : Int) (h : hS) : Option ((Int × hS) ⊕ (Int × hS)) :=
  if l5 = 0 then
  c258_j166 l5 h
  else
  (c256 l7 0 h).bind (fun v16 =>
  (c262 v16 l6 (hI h 395 52) h).bind (fun v17 =>
  (some (sI h 395 52 v17)).bind (fun h18 =>
  c258_j166 l5 h18)))
set_option maxRecDepth 100000 in
theorem t258_j141 {d : Nat} {call : Nat → List Int → hS → Option (Int × hS)} (hcall : ∀ (k : Nat) (as : List Int) (h : hS) (w : mmW) (o : Int × hS), Abs h w → (∀ a ∈ as, rg a) → call k as h = some o → hEv d k (vR 395 :: as.map vI) w (qI o)) (hd : 4 ≤ d) {l5 : Int} {l6 : Int} {l7 : Int} {z1 : Option hO} {l2 : Int} {l3 : Int} {z4 : Option hO} {h : hS} {w : mmW} {o : (Int × hS) ⊕ (Int × hS)} {Q : mmO → Prop} (rl5 : rg l5) (rl6 : rg l6) (rl7 : rg l7) (A : Abs h w) (e : c258_j141 l5 l6 l7 h = some o) (kb : ∀ (s_0 : Int) (s_1 : hS), o = .inl (s_0, s_1) → ∀ w', ∀ (y6 y7 : Option hO), rg s_0 → Abs s_1 w' → hG d 258 62 [some (vr 395), z1, some (vi l2), some (vi l3), z4, some (vi s_0), y6, y7] [] w' Q) (ke : ∀ (x_0 : Int) (x_1 : hS), o = .inr (x_0, x_1) → ∀ w', ∀ (y6 y7 : Option hO), rg x_0 → Abs x_1 w' → hG d 258 179 [some (vr 395), z1, some (vi l2), some (vi l3), z4, some (vi x_0), y6, y7] [] w' Q) : hG d 258 141 [some (vr 395), z1, some (vi l2), some (vi l3), z4, some (vi l5), some (vi l6), some (vi l7)] [] w Q := by
  unfold c258_j141 at e
  refine hg_run 1 (pc' := 143) (ls' := [some (vr 395), z1, some (vi l2), some (vi l3), z4, some (vi l5), some (vi l6), some (vi l7)]) (st' := [vI l5]) rfl ?_
  rcases oi e with ⟨q14, e⟩ | ⟨q14, e⟩
  · refine hg_ifT (tgt := 166) rfl (by decide) rl5 q14 ?_
    exact t258_j166 hcall hd rl5 A e kb ke
  · refine hg_ifF (tgt := 166) rfl (by decide) rl5 q14 ?_
    refine hg_run 4 (pc' := 151) (ls' := [some (vr 395), z1, some (vi l2), some (vi l3), z4, some (vi l5), some (vi l6), some (vi l7)]) (st' := [vI 0, vI l7, vR 395, vR 395]) rfl ?_
    obtain ⟨v16, e16, e⟩ := ob e
    refine hg_cIp (as := [vR 395, vI l7, vI 0]) (st' := [vR 395]) rfl (fun _ _ _ _ => rfl) rfl rfl (Nat.le_of_ble_eq_true rfl) (Nat.le_of_ble_eq_true rfl) (recvV A (a := 13) (Abs_ks A (i := 23) rfl).1) (t256 (by omega) A rl7 (rgn 0 rfl) e16) (fun r16 => ?_)
    refine hg_run 2 (pc' := 157) (ls' := [some (vr 395), z1, some (vi l2), some (vi l3), z4, some (vi l5), some (vi l6), some (vi l7)]) (st' := [vR 395, vI l6, vI v16, vR 395]) rfl ?_
    refine gs_395_52 rfl A ?_
    obtain ⟨v17, e17, e⟩ := ob e
    refine hg_cIp (as := [vI v16, vI l6, vI (hI h 395 52)]) (st' := [vR 395]) rfl (fun _ _ _ _ => rfl) rfl rfl (Nat.le_of_ble_eq_true rfl) (Nat.le_of_ble_eq_true rfl) recv0 (t262 (by omega) A r16 rl6 (Abs_rg A 395 52) e17) (fun r17 => ?_)
    obtain ⟨h18, e18, e⟩ := ob e
    refine ps_395_52 rfl A r17 e18 (fun w18 A18 => ?_)
    exact t258_j166 hcall hd rl5 A18 e kb ke
def c258_b62 (call : Nat → List Int → hS → Option (Int × hS)) (l2 : Int) (l3 : Int) (l5 : Int) (h : hS) : Option ((Int × hS) ⊕ (Int × hS)) :=
  if l5 = 0 then
  some (.inr (l5, h))
  else
  if (hI h 395 54) ≤ l3 then
  some (.inr (l5, h))
  else
  (aIs h 417 1200 (wsub (hI h 395 54) 1)).bind (fun v10 =>
  (c257 v10 2 h).bind (fun v11 =>
  (call 258 [v11, l2] h).bind (fun v12 =>
  if v12.1 = 0 then
  c258_j141 v12.1 (hI h 395 52) v10 v12.2
  else
  (c256 v10 0 v12.2).bind (fun v19 =>
  if v19 = 13 then
  if (hI v12.2 395 52) = 0 then
  (c261 1002 v12.2).bind (fun v22 =>
  c258_j141 v22.1 (hI h 395 52) v10 v22.2)
  else
  c258_j141 v12.1 (hI h 395 52) v10 v12.2
  else
  c258_j141 v12.1 (hI h 395 52) v10 v12.2))))
set_option maxRecDepth 100000 in
theorem t258_b62 {d : Nat} {call : Nat → List Int → hS → Option (Int × hS)} (hcall : ∀ (k : Nat) (as : List Int) (h : hS) (w : mmW) (o : Int × hS), Abs h w → (∀ a ∈ as, rg a) → call k as h = some o → hEv d k (vR 395 :: as.map vI) w (qI o)) (hd : 4 ≤ d) {l2 : Int} {l3 : Int} {l5 : Int} {z1 : Option hO} {z4 : Option hO} {z6 : Option hO} {z7 : Option hO} {h : hS} {w : mmW} {o : (Int × hS) ⊕ (Int × hS)} {Q : mmO → Prop} (rl2 : rg l2) (rl3 : rg l3) (rl5 : rg l5) (A : Abs h w) (e : c258_b62 call l2 l3 l5 h = some o) (kb : ∀ (s_0 : Int) (s_1 : hS), o = .inl (s_0, s_1) → ∀ w', ∀ (y6 y7 : Option hO), rg s_0 → Abs s_1 w' → hG d 258 62 [some (vr 395), z1, some (vi l2), some (vi l3), z4, some (vi s_0), y6, y7] [] w' Q) (ke : ∀ (x_0 : Int) (x_1 : hS), o = .inr (x_0, x_1) → ∀ w', ∀ (y6 y7 : Option hO), rg x_0 → Abs x_1 w' → hG d 258 179 [some (vr 395), z1, some (vi l2), some (vi l3), z4, some (vi x_0), y6, y7] [] w' Q) : hG d 258 62 [some (vr 395), z1, some (vi l2), some (vi l3), z4, some (vi l5), z6, z7] [] w Q := by
  unfold c258_b62 at e
  refine hg_run 1 (pc' := 64) (ls' := [some (vr 395), z1, some (vi l2), some (vi l3), z4, some (vi l5), z6, z7]) (st' := [vI l5]) rfl ?_
  rcases oi e with ⟨q8, e⟩ | ⟨q8, e⟩
  · refine hg_ifT (tgt := 179) rfl (by decide) rl5 q8 ?_
    cases e
    exact ke l5 h rfl _ _ _ rl5 A
  · refine hg_ifF (tgt := 179) rfl (by decide) rl5 q8 ?_
    refine hg_run 1 (pc' := 68) (ls' := [some (vr 395), z1, some (vi l2), some (vi l3), z4, some (vi l5), z6, z7]) (st' := [vR 395]) rfl ?_
    refine gs_395_54 rfl A ?_
    refine hg_run 1 (pc' := 72) (ls' := [some (vr 395), z1, some (vi l2), some (vi l3), z4, some (vi l5), z6, z7]) (st' := [vI l3, vI (hI h 395 54)]) rfl ?_
    rcases oi e with ⟨q9, e⟩ | ⟨q9, e⟩
    · refine hg_icT (tgt := 179) rfl (by decide) (Abs_rg A 395 54) rl3 q9 ?_
      cases e
      exact ke l5 h rfl _ _ _ rl5 A
    · refine hg_icF (tgt := 179) rfl (by decide) (Abs_rg A 395 54) rl3 q9 ?_
      refine hg_run 1 (pc' := 76) (ls' := [some (vr 395), z1, some (vi l2), some (vi l3), z4, some (vi l5), z6, z7]) (st' := [vR 395]) rfl ?_
      refine gs_395_52 rfl A ?_
      refine hg_run 2 (pc' := 82) (ls' := [some (vr 395), z1, some (vi l2), some (vi l3), z4, some (vi l5), some (vi (hI h 395 52)), z7]) (st' := [vR 395]) rfl ?_
      refine gs_395_53 rfl A ?_
      refine hg_run 1 (pc' := 86) (ls' := [some (vr 395), z1, some (vi l2), some (vi l3), z4, some (vi l5), some (vi (hI h 395 52)), z7]) (st' := [vR 395, vR 417]) rfl ?_
      refine gs_395_54 rfl A ?_
      refine hg_run 2 (pc' := 91) (ls' := [some (vr 395), z1, some (vi l2), some (vi l3), z4, some (vi l5), some (vi (hI h 395 52)), z7]) (st' := [vI (wsub (hI h 395 54) 1), vR 417]) rfl ?_
      obtain ⟨v10, e10, e⟩ := ob e
      refine hg_aIs 0 rfl (fun _ _ _ _ => rfl) A (Abs_ks A (i := 45) rfl) rfl (by decide) e10 (fun r10 => ?_)
      refine hg_run 5 (pc' := 99) (ls' := [some (vr 395), z1, some (vi l2), some (vi l3), z4, some (vi l5), some (vi (hI h 395 52)), some (vi v10)]) (st' := [vI 2, vI v10, vR 395, vR 395]) rfl ?_
      obtain ⟨v11, e11, e⟩ := ob e
      refine hg_cIp (as := [vR 395, vI v10, vI 2]) (st' := [vR 395]) rfl (fun _ _ _ _ => rfl) rfl rfl (Nat.le_of_ble_eq_true rfl) (Nat.le_of_ble_eq_true rfl) (recvV A (a := 13) (Abs_ks A (i := 23) rfl).1) (t257 (by omega) A r10 (rgn 2 rfl) e11) (fun r11 => ?_)
      refine hg_run 1 (pc' := 103) (ls' := [some (vr 395), z1, some (vi l2), some (vi l3), z4, some (vi l5), some (vi (hI h 395 52)), some (vi v10)]) (st' := [vI l2, vI v11, vR 395]) rfl ?_
      obtain ⟨v12, e12, e⟩ := ob e
      refine hg_cI (as := [vR 395, vI v11, vI l2]) (st' := []) rfl (fun _ _ _ _ => rfl) rfl rfl (Nat.le_of_ble_eq_true rfl) (Nat.le_of_ble_eq_true rfl) (recvV A (a := 13) (Abs_ks A (i := 23) rfl).1) (hcall 258 _ _ _ _ A (rglc r11 (rglc rl2 rgl0)) e12) (fun w12 r12 A12 => ?_)
      refine hg_run 2 (pc' := 110) (ls' := [some (vr 395), z1, some (vi l2), some (vi l3), z4, some (vi v12.1), some (vi (hI h 395 52)), some (vi v10)]) (st' := [vI v12.1]) rfl ?_
      rcases oi e with ⟨q13, e⟩ | ⟨q13, e⟩
      · refine hg_ifT (tgt := 141) rfl (by decide) r12 q13 ?_
        exact t258_j141 hcall hd r12 (Abs_rg A 395 52) r10 A12 e kb ke
      · refine hg_ifF (tgt := 141) rfl (by decide) r12 q13 ?_
        refine hg_run 3 (pc' := 117) (ls' := [some (vr 395), z1, some (vi l2), some (vi l3), z4, some (vi v12.1), some (vi (hI h 395 52)), some (vi v10)]) (st' := [vI 0, vI v10, vR 395]) rfl ?_
        obtain ⟨v19, e19, e⟩ := ob e
        refine hg_cIp (as := [vR 395, vI v10, vI 0]) (st' := []) rfl (fun _ _ _ _ => rfl) rfl rfl (Nat.le_of_ble_eq_true rfl) (Nat.le_of_ble_eq_true rfl) (recvV A12 (a := 13) (Abs_ks A12 (i := 23) rfl).1) (t256 (by omega) A12 r10 (rgn 0 rfl) e19) (fun r19 => ?_)
        refine hg_run 1 (pc' := 122) (ls' := [some (vr 395), z1, some (vi l2), some (vi l3), z4, some (vi v12.1), some (vi (hI h 395 52)), some (vi v10)]) (st' := [vI 13, vI v19]) rfl ?_
        rcases oi e with ⟨q20, e⟩ | ⟨q20, e⟩
        · refine hg_icF (tgt := 141) rfl (by decide) r19 (rgn 13 rfl) (show ¬ ¬ (v19 = 13) from fun f => f q20) ?_
          refine hg_run 1 (pc' := 126) (ls' := [some (vr 395), z1, some (vi l2), some (vi l3), z4, some (vi v12.1), some (vi (hI h 395 52)), some (vi v10)]) (st' := [vR 395]) rfl ?_
          refine gs_395_52 rfl A12 ?_
          rcases oi e with ⟨q21, e⟩ | ⟨q21, e⟩
          · refine hg_ifF (tgt := 141) rfl (by decide) (Abs_rg A12 395 52) (show ¬ ¬ ((hI v12.2 395 52) = 0) from fun f => f q21) ?_
            refine hg_run 2 (pc' := 136) (ls' := [some (vr 395), z1, some (vi l2), some (vi l3), z4, some (vi v12.1), some (vi (hI h 395 52)), some (vi v10)]) (st' := [vI 1002, vR 395]) rfl ?_
            obtain ⟨v22, e22, e⟩ := ob e
            refine hg_cI (as := [vR 395, vI 1002]) (st' := []) rfl (fun _ _ _ _ => rfl) rfl rfl (Nat.le_of_ble_eq_true rfl) (Nat.le_of_ble_eq_true rfl) (recvV A12 (a := 13) (Abs_ks A12 (i := 23) rfl).1) (t261 (by omega) A12 (rgn 1002 rfl) e22) (fun w22 r22 A22 => ?_)
            refine hg_run 1 (pc' := 141) (ls' := [some (vr 395), z1, some (vi l2), some (vi l3), z4, some (vi v22.1), some (vi (hI h 395 52)), some (vi v10)]) (st' := []) rfl ?_
            exact t258_j141 hcall hd r22 (Abs_rg A 395 52) r10 A22 e kb ke
          · refine hg_ifT (tgt := 141) rfl (by decide) (Abs_rg A12 395 52) (show ¬ ((hI v12.2 395 52) = 0) from q21) ?_
            exact t258_j141 hcall hd r12 (Abs_rg A 395 52) r10 A12 e kb ke
        · refine hg_icT (tgt := 141) rfl (by decide) r19 (rgn 13 rfl) (show ¬ (v19 = 13) from q20) ?_
          exact t258_j141 hcall hd r12 (Abs_rg A 395 52) r10 A12 e kb ke
set_option maxRecDepth 100000 in
theorem t258_l62 {d : Nat} {call : Nat → List Int → hS → Option (Int × hS)} (hcall : ∀ (k : Nat) (as : List Int) (h : hS) (w : mmW) (o : Int × hS), Abs h w → (∀ a ∈ as, rg a) → call k as h = some o → hEv d k (vR 395 :: as.map vI) w (qI o)) (hd : 4 ≤ d) {l2 : Int} {l3 : Int} {z1 : Option hO} {z4 : Option hO} {Q : mmO → Prop} (rl2 : rg l2) (rl3 : rg l3) (n : Nat) {l5 : Int} {z6 z7 : Option hO} {h : hS} {w : mmW} {r : Int × hS} (rl5 : rg l5) (A : Abs h w) (e : lp (fun s => c258_b62 call l2 l3 s.1 s.2) n (l5, h) = some r) (ke : ∀ (x_0 : Int) (x_1 : hS), r = (x_0, x_1) → ∀ w', ∀ (y6 y7 : Option hO), rg x_0 → Abs x_1 w' → hG d 258 179 [some (vr 395), z1, some (vi l2), some (vi l3), z4, some (vi x_0), y6, y7] [] w' Q) : hG d 258 62 [some (vr 395), z1, some (vi l2), some (vi l3), z4, some (vi l5), z6, z7] [] w Q := by
  induction n generalizing l5 z6 z7 h w with
  | zero => cases e
  | succ n ih =>
    rcases lp_succ e with ⟨s1, e1, e2⟩ | e1
    · exact t258_b62 hcall hd rl2 rl3 rl5 A e1 (fun s_0 s_1 q w1 y6 y7 rl5 A1 => by cases q; exact ih rl5 A1 e2) (fun x_0 x_1 q => by cases q)
    · exact t258_b62 hcall hd rl2 rl3 rl5 A e1 (fun s_0 s_1 q => by cases q) (fun x_0 x_1 q => by cases q; exact ke _ _ rfl)
def c258 (call : Nat → List Int → hS → Option (Int × hS)) (l1 : Int) (l2 : Int) (h : hS) : Option (Int × hS) :=
  (lp (fun s => c258_b8  s.1 s.2) hF0 (l1, h)).bind (fun r6 =>
  (call 259 [r6.1, l2] r6.2).bind (fun v7 =>
  (lp (fun s => c258_b62 call l2 (hI h 395 54) s.1 s.2) hF0 (v7.1, v7.2)).bind (fun r23 =>
  (some (sI r23.2 395 54 (hI h 395 54))).bind (fun h24 =>
  (kB r23.1).bind (fun u25 =>
  some (r23.1, h24))))))
set_option maxRecDepth 100000 in
theorem t258 {d : Nat} {call : Nat → List Int → hS → Option (Int × hS)} (hcall : ∀ (k : Nat) (as : List Int) (h : hS) (w : mmW) (o : Int × hS), Abs h w → (∀ a ∈ as, rg a) → call k as h = some o → hEv d k (vR 395 :: as.map vI) w (qI o)) (hd : 4 ≤ d) {l1 : Int} {l2 : Int} {h : hS} {w : mmW} {o : Int × hS} (A : Abs h w) (rl1 : rg l1) (rl2 : rg l2) (e : c258 call l1 l2 h = some o) : hEv (d + 1) 258 [vR 395, vI l1, vI l2] w (qI o) := by
  refine hEv_start (args := [vr 395, vi l1, vi l2]) (nl := 8) rfl (Nat.le_of_ble_eq_true rfl) ?_
  show hG d 258 0 [some (vr 395), some (vi l1), some (vi l2), none, none, none, none, none] [] w _
  have kr : ∀ (v1 : Int) (h1 : hS), o = (v1, h1) → ∀ w', rg v1 → Abs h1 w' → qI o (some (.int (Int32.ofInt v1)), w') := fun v1 h1 q w' r A' => by cases q; exact ⟨rfl, r, A'⟩
  unfold c258 at e
  refine hg_run 1 (pc' := 1) (ls' := [some (vr 395), some (vi l1), some (vi l2), none, none, none, none, none]) (st' := [vR 395]) rfl ?_
  refine gs_395_54 rfl A ?_
  refine hg_run 3 (pc' := 8) (ls' := [some (vr 395), some (vi l1), some (vi l2), some (vi (hI h 395 54)), some (vi l1), none, none, none]) (st' := []) rfl ?_
  obtain ⟨r6, e6, e⟩ := ob e
  refine t258_l8 hcall hd  _ rl1 A e6 ?_
  intro x6_0 x6_1 qq6 w6 q6_4 A6
  subst qq6
  try dsimp only at e
  refine hg_run 3 (pc' := 57) (ls' := [some (vr 395), some (vi l1), some (vi l2), some (vi (hI h 395 54)), some (vi x6_0), none, none, none]) (st' := [vI l2, vI x6_0, vR 395]) rfl ?_
  obtain ⟨v7, e7, e⟩ := ob e
  refine hg_cI (as := [vR 395, vI x6_0, vI l2]) (st' := []) rfl (fun _ _ _ _ => rfl) rfl rfl (Nat.le_of_ble_eq_true rfl) (Nat.le_of_ble_eq_true rfl) (recvV A6 (a := 13) (Abs_ks A6 (i := 23) rfl).1) (hcall 259 _ _ _ _ A6 (rglc q6_4 (rglc rl2 rgl0)) e7) (fun w7 r7 A7 => ?_)
  refine hg_run 1 (pc' := 62) (ls' := [some (vr 395), some (vi l1), some (vi l2), some (vi (hI h 395 54)), some (vi x6_0), some (vi v7.1), none, none]) (st' := []) rfl ?_
  obtain ⟨r23, e23, e⟩ := ob e
  refine t258_l62 hcall hd rl2 (Abs_rg A 395 54) _ r7 A7 e23 ?_
  intro x23_0 x23_1 qq23 w23 z23_6 z23_7 q23_5 A23
  subst qq23
  try dsimp only at e
  refine hg_run 2 (pc' := 181) (ls' := [some (vr 395), some (vi l1), some (vi l2), some (vi (hI h 395 54)), some (vi x6_0), some (vi x23_0), z23_6, z23_7]) (st' := [vI (hI h 395 54), vR 395]) rfl ?_
  obtain ⟨h24, e24, e⟩ := ob e
  refine ps_395_54 rfl A23 (Abs_rg A 395 54) e24 (fun w24 A24 => ?_)
  refine hg_run 1 (pc' := 186) (ls' := [some (vr 395), some (vi l1), some (vi l2), some (vi (hI h 395 54)), some (vi x6_0), some (vi x23_0), z23_6, z23_7]) (st' := [vI x23_0]) rfl ?_
  obtain ⟨u25, e25, e⟩ := ob e
  cases e
  exact hg_retI rfl (by decide) (fit_B (kB_e e25)) (kr _ _ rfl _ q23_5 A24)
def c259_j63 (s1 : Int) (h : hS) : Option (Int × hS) :=
  (some (sI h 395 52 s1)).bind (fun h7 =>
  some (1, h7))
set_option maxRecDepth 100000 in
theorem t259_j63 {d : Nat} {call : Nat → List Int → hS → Option (Int × hS)} (hcall : ∀ (k : Nat) (as : List Int) (h : hS) (w : mmW) (o : Int × hS), Abs h w → (∀ a ∈ as, rg a) → call k as h = some o → hEv d k (vR 395 :: as.map vI) w (qI o)) (hd : 4 ≤ d) {s1 : Int} {z1 : Option hO} {z2 : Option hO} {z3 : Option hO} {z4 : Option hO} {z5 : Option hO} {z6 : Option hO} {h : hS} {w : mmW} {o : Int × hS} {Q : mmO → Prop} (rs1 : rg s1) (A : Abs h w) (e : c259_j63 s1 h = some o) (kr : ∀ (v1 : Int) (h1 : hS), o = (v1, h1) → ∀ w', rg v1 → Abs h1 w' → Q (some (.int (Int32.ofInt v1)), w')) : hG d 259 63 [some (vr 395), z1, z2, z3, z4, z5, z6] [vI s1, vR 395] w Q := by
  unfold c259_j63 at e
  obtain ⟨h7, e7, e⟩ := ob e
  refine ps_395_52 rfl A rs1 e7 (fun w7 A7 => ?_)
  refine hg_run 1 (pc' := 67) (ls' := [some (vr 395), z1, z2, z3, z4, z5, z6]) (st' := [vI 1]) rfl ?_
  cases e
  exact hg_retI rfl (by decide) (fit_B (.inr rfl)) (kr _ _ rfl _ (rgn 1 rfl) A7)
def c259_j42 (l2 : Int) (l3 : Int) (h : hS) : Option (Int × hS) :=
  if l3 = 3 then
  (aIs h 409 21 l2).bind (fun v8 =>
  c259_j63 v8 h)
  else
  (aIs h 410 21 l2).bind (fun v6 =>
  c259_j63 v6 h)
set_option maxRecDepth 100000 in
theorem t259_j42 {d : Nat} {call : Nat → List Int → hS → Option (Int × hS)} (hcall : ∀ (k : Nat) (as : List Int) (h : hS) (w : mmW) (o : Int × hS), Abs h w → (∀ a ∈ as, rg a) → call k as h = some o → hEv d k (vR 395 :: as.map vI) w (qI o)) (hd : 4 ≤ d) {l2 : Int} {l3 : Int} {z1 : Option hO} {z4 : Option hO} {z5 : Option hO} {z6 : Option hO} {h : hS} {w : mmW} {o : Int × hS} {Q : mmO → Prop} (rl2 : rg l2) (rl3 : rg l3) (A : Abs h w) (e : c259_j42 l2 l3 h = some o) (kr : ∀ (v1 : Int) (h1 : hS), o = (v1, h1) → ∀ w', rg v1 → Abs h1 w' → Q (some (.int (Int32.ofInt v1)), w')) : hG d 259 42 [some (vr 395), z1, some (vi l2), some (vi l3), z4, z5, z6] [] w Q := by
  unfold c259_j42 at e
  refine hg_run 3 (pc' := 45) (ls' := [some (vr 395), z1, some (vi l2), some (vi l3), z4, z5, z6]) (st' := [vI 3, vI l3, vR 395]) rfl ?_
  rcases oi e with ⟨q5, e⟩ | ⟨q5, e⟩
  · refine hg_icF (tgt := 57) rfl (by decide) rl3 (rgn 3 rfl) (show ¬ ¬ (l3 = 3) from fun f => f q5) ?_
    refine hg_run 1 (pc' := 49) (ls' := [some (vr 395), z1, some (vi l2), some (vi l3), z4, z5, z6]) (st' := [vR 395, vR 395]) rfl ?_
    refine gs_395_44 rfl A ?_
    refine hg_run 1 (pc' := 53) (ls' := [some (vr 395), z1, some (vi l2), some (vi l3), z4, z5, z6]) (st' := [vI l2, vR 409, vR 395]) rfl ?_
    obtain ⟨v8, e8, e⟩ := ob e
    refine hg_aIs 0 rfl (fun _ _ _ _ => rfl) A (Abs_ks A (i := 37) rfl) rfl (by decide) e8 (fun r8 => ?_)
    refine hg_run 1 (pc' := 63) (ls' := [some (vr 395), z1, some (vi l2), some (vi l3), z4, z5, z6]) (st' := [vI v8, vR 395]) rfl ?_
    exact t259_j63 hcall hd r8 A e kr
  · refine hg_icT (tgt := 57) rfl (by decide) rl3 (rgn 3 rfl) (show ¬ (l3 = 3) from q5) ?_
    refine hg_run 1 (pc' := 58) (ls' := [some (vr 395), z1, some (vi l2), some (vi l3), z4, z5, z6]) (st' := [vR 395, vR 395]) rfl ?_
    refine gs_395_45 rfl A ?_
    refine hg_run 1 (pc' := 62) (ls' := [some (vr 395), z1, some (vi l2), some (vi l3), z4, z5, z6]) (st' := [vI l2, vR 410, vR 395]) rfl ?_
    obtain ⟨v6, e6, e⟩ := ob e
    refine hg_aIs 0 rfl (fun _ _ _ _ => rfl) A (Abs_ks A (i := 38) rfl) rfl (by decide) e6 (fun r6 => ?_)
    exact t259_j63 hcall hd r6 A e kr
def c259_j192 (s1 : Int) (h : hS) : Option (Int × hS) :=
  (some (sI h 395 52 s1)).bind (fun h26 =>
  some (1, h26))
set_option maxRecDepth 100000 in
theorem t259_j192 {d : Nat} {call : Nat → List Int → hS → Option (Int × hS)} (hcall : ∀ (k : Nat) (as : List Int) (h : hS) (w : mmW) (o : Int × hS), Abs h w → (∀ a ∈ as, rg a) → call k as h = some o → hEv d k (vR 395 :: as.map vI) w (qI o)) (hd : 4 ≤ d) {s1 : Int} {z1 : Option hO} {z2 : Option hO} {z3 : Option hO} {z4 : Option hO} {z5 : Option hO} {z6 : Option hO} {h : hS} {w : mmW} {o : Int × hS} {Q : mmO → Prop} (rs1 : rg s1) (A : Abs h w) (e : c259_j192 s1 h = some o) (kr : ∀ (v1 : Int) (h1 : hS), o = (v1, h1) → ∀ w', rg v1 → Abs h1 w' → Q (some (.int (Int32.ofInt v1)), w')) : hG d 259 192 [some (vr 395), z1, z2, z3, z4, z5, z6] [vI s1, vR 395] w Q := by
  unfold c259_j192 at e
  obtain ⟨h26, e26, e⟩ := ob e
  refine ps_395_52 rfl A rs1 e26 (fun w26 A26 => ?_)
  refine hg_run 1 (pc' := 196) (ls' := [some (vr 395), z1, z2, z3, z4, z5, z6]) (st' := [vI 1]) rfl ?_
  cases e
  exact hg_retI rfl (by decide) (fit_B (.inr rfl)) (kr _ _ rfl _ (rgn 1 rfl) A26)
def c259 (call : Nat → List Int → hS → Option (Int × hS)) (l1 : Int) (l2 : Int) (h : hS) : Option (Int × hS) :=
  (c256 l1 0 h).bind (fun v1 =>
  (aIs h 408 21 l2).bind (fun v2 =>
  if v1 = 1 then
  (c256 l1 1 h).bind (fun v31 =>
  (some (sI h 395 52 v31)).bind (fun h32 =>
  some (1, h32)))
  else
  if v1 = 3 then
  c259_j42 l2 v1 h
  else
  if v1 = 4 then
  c259_j42 l2 v1 h
  else
  if v1 = 2 then
  (c256 l1 1 h).bind (fun v15 =>
  (c260 v2 v15 h).bind (fun v16 =>
  if v16 = (-1) then
  (c261 1001 h).bind (fun v29 =>
  (kB v29.1).bind (fun u30 =>
  some (v29.1, v29.2)))
  else
  if v16 = 0 then
  (aIs h 405 1600 (wadd (wmul 40 v2) v15)).bind (fun v28 =>
  c259_j192 v28 h)
  else
  if v16 = 2 then
  (aIs h 406 1600 (wadd (wmul 40 v2) v15)).bind (fun v27 =>
  c259_j192 v27 h)
  else
  (aIs h 404 40 v2).bind (fun v20 =>
  (c248 0 v20 v15 h).bind (fun v21 =>
  (aIs h 404 40 v2).bind (fun v22 =>
  (c248 0 v22 v15 h).bind (fun v23 =>
  (c208 0 v23 v15 h).bind (fun v24 =>
  (c199 0 v21 (wadd 35 v24) h).bind (fun v25 =>
  c259_j192 v25 h))))))))
  else
  (c257 l1 1 h).bind (fun v11 =>
  (call 258 [v11, l2] h).bind (fun v12 =>
  if v12.1 = 0 then
  some (0, v12.2)
  else
  (some (sI v12.2 395 52 (wneg (hI v12.2 395 52)))).bind (fun h14 =>
  some (1, h14))))))
set_option maxRecDepth 100000 in
theorem t259 {d : Nat} {call : Nat → List Int → hS → Option (Int × hS)} (hcall : ∀ (k : Nat) (as : List Int) (h : hS) (w : mmW) (o : Int × hS), Abs h w → (∀ a ∈ as, rg a) → call k as h = some o → hEv d k (vR 395 :: as.map vI) w (qI o)) (hd : 4 ≤ d) {l1 : Int} {l2 : Int} {h : hS} {w : mmW} {o : Int × hS} (A : Abs h w) (rl1 : rg l1) (rl2 : rg l2) (e : c259 call l1 l2 h = some o) : hEv (d + 1) 259 [vR 395, vI l1, vI l2] w (qI o) := by
  refine hEv_start (args := [vr 395, vi l1, vi l2]) (nl := 7) rfl (Nat.le_of_ble_eq_true rfl) ?_
  show hG d 259 0 [some (vr 395), some (vi l1), some (vi l2), none, none, none, none] [] w _
  have kr : ∀ (v1 : Int) (h1 : hS), o = (v1, h1) → ∀ w', rg v1 → Abs h1 w' → qI o (some (.int (Int32.ofInt v1)), w') := fun v1 h1 q w' r A' => by cases q; exact ⟨rfl, r, A'⟩
  unfold c259 at e
  refine hg_run 3 (pc' := 3) (ls' := [some (vr 395), some (vi l1), some (vi l2), none, none, none, none]) (st' := [vI 0, vI l1, vR 395]) rfl ?_
  obtain ⟨v1, e1, e⟩ := ob e
  refine hg_cIp (as := [vR 395, vI l1, vI 0]) (st' := []) rfl (fun _ _ _ _ => rfl) rfl rfl (Nat.le_of_ble_eq_true rfl) (Nat.le_of_ble_eq_true rfl) (recvV A (a := 13) (Abs_ks A (i := 23) rfl).1) (t256 (by omega) A rl1 (rgn 0 rfl) e1) (fun r1 => ?_)
  refine hg_run 2 (pc' := 8) (ls' := [some (vr 395), some (vi l1), some (vi l2), some (vi v1), none, none, none]) (st' := [vR 395]) rfl ?_
  refine gs_395_43 rfl A ?_
  refine hg_run 1 (pc' := 12) (ls' := [some (vr 395), some (vi l1), some (vi l2), some (vi v1), none, none, none]) (st' := [vI l2, vR 408]) rfl ?_
  obtain ⟨v2, e2, e⟩ := ob e
  refine hg_aIs 0 rfl (fun _ _ _ _ => rfl) A (Abs_ks A (i := 36) rfl) rfl (by decide) e2 (fun r2 => ?_)
  refine hg_run 3 (pc' := 17) (ls' := [some (vr 395), some (vi l1), some (vi l2), some (vi v1), some (vi v2), none, none]) (st' := [vI 1, vI v1]) rfl ?_
  rcases oi e with ⟨q3, e⟩ | ⟨q3, e⟩
  · refine hg_icF (tgt := 32) rfl (by decide) r1 (rgn 1 rfl) (show ¬ ¬ (v1 = 1) from fun f => f q3) ?_
    refine hg_run 4 (pc' := 24) (ls' := [some (vr 395), some (vi l1), some (vi l2), some (vi v1), some (vi v2), none, none]) (st' := [vI 1, vI l1, vR 395, vR 395]) rfl ?_
    obtain ⟨v31, e31, e⟩ := ob e
    refine hg_cIp (as := [vR 395, vI l1, vI 1]) (st' := [vR 395]) rfl (fun _ _ _ _ => rfl) rfl rfl (Nat.le_of_ble_eq_true rfl) (Nat.le_of_ble_eq_true rfl) (recvV A (a := 13) (Abs_ks A (i := 23) rfl).1) (t256 (by omega) A rl1 (rgn 1 rfl) e31) (fun r31 => ?_)
    obtain ⟨h32, e32, e⟩ := ob e
    refine ps_395_52 rfl A r31 e32 (fun w32 A32 => ?_)
    refine hg_run 1 (pc' := 31) (ls' := [some (vr 395), some (vi l1), some (vi l2), some (vi v1), some (vi v2), none, none]) (st' := [vI 1]) rfl ?_
    cases e
    exact hg_retI rfl (by decide) (fit_B (.inr rfl)) (kr _ _ rfl _ (rgn 1 rfl) A32)
  · refine hg_icT (tgt := 32) rfl (by decide) r1 (rgn 1 rfl) (show ¬ (v1 = 1) from q3) ?_
    refine hg_run 2 (pc' := 34) (ls' := [some (vr 395), some (vi l1), some (vi l2), some (vi v1), some (vi v2), none, none]) (st' := [vI 3, vI v1]) rfl ?_
    rcases oi e with ⟨q4, e⟩ | ⟨q4, e⟩
    · refine hg_icT (tgt := 42) rfl (by decide) r1 (rgn 3 rfl) q4 ?_
      exact t259_j42 hcall hd rl2 r1 A e kr
    · refine hg_icF (tgt := 42) rfl (by decide) r1 (rgn 3 rfl) q4 ?_
      refine hg_run 2 (pc' := 39) (ls' := [some (vr 395), some (vi l1), some (vi l2), some (vi v1), some (vi v2), none, none]) (st' := [vI 4, vI v1]) rfl ?_
      rcases oi e with ⟨q9, e⟩ | ⟨q9, e⟩
      · refine hg_icF (tgt := 68) rfl (by decide) r1 (rgn 4 rfl) (show ¬ ¬ (v1 = 4) from fun f => f q9) ?_
        exact t259_j42 hcall hd rl2 r1 A e kr
      · refine hg_icT (tgt := 68) rfl (by decide) r1 (rgn 4 rfl) (show ¬ (v1 = 4) from q9) ?_
        refine hg_run 2 (pc' := 70) (ls' := [some (vr 395), some (vi l1), some (vi l2), some (vi v1), some (vi v2), none, none]) (st' := [vI 2, vI v1]) rfl ?_
        rcases oi e with ⟨q10, e⟩ | ⟨q10, e⟩
        · refine hg_icF (tgt := 197) rfl (by decide) r1 (rgn 2 rfl) (show ¬ ¬ (v1 = 2) from fun f => f q10) ?_
          refine hg_run 3 (pc' := 76) (ls' := [some (vr 395), some (vi l1), some (vi l2), some (vi v1), some (vi v2), none, none]) (st' := [vI 1, vI l1, vR 395]) rfl ?_
          obtain ⟨v15, e15, e⟩ := ob e
          refine hg_cIp (as := [vR 395, vI l1, vI 1]) (st' := []) rfl (fun _ _ _ _ => rfl) rfl rfl (Nat.le_of_ble_eq_true rfl) (Nat.le_of_ble_eq_true rfl) (recvV A (a := 13) (Abs_ks A (i := 23) rfl).1) (t256 (by omega) A rl1 (rgn 1 rfl) e15) (fun r15 => ?_)
          refine hg_run 4 (pc' := 86) (ls' := [some (vr 395), some (vi l1), some (vi l2), some (vi v1), some (vi v2), some (vi v15), none]) (st' := [vI v15, vI v2, vR 395]) rfl ?_
          obtain ⟨v16, e16, e⟩ := ob e
          refine hg_cIp (as := [vR 395, vI v2, vI v15]) (st' := []) rfl (fun _ _ _ _ => rfl) rfl rfl (Nat.le_of_ble_eq_true rfl) (Nat.le_of_ble_eq_true rfl) (recvV A (a := 13) (Abs_ks A (i := 23) rfl).1) (t260 (by omega) A r2 r15 e16) (fun r16 => ?_)
          refine hg_run 3 (pc' := 94) (ls' := [some (vr 395), some (vi l1), some (vi l2), some (vi v1), some (vi v2), some (vi v15), some (vi v16)]) (st' := [vI (-1), vI v16]) rfl ?_
          rcases oi e with ⟨q17, e⟩ | ⟨q17, e⟩
          · refine hg_icF (tgt := 105) rfl (by decide) r16 (rgn (-1) rfl) (show ¬ ¬ (v16 = (-1)) from fun f => f q17) ?_
            refine hg_run 2 (pc' := 101) (ls' := [some (vr 395), some (vi l1), some (vi l2), some (vi v1), some (vi v2), some (vi v15), some (vi v16)]) (st' := [vI 1001, vR 395]) rfl ?_
            obtain ⟨v29, e29, e⟩ := ob e
            refine hg_cI (as := [vR 395, vI 1001]) (st' := []) rfl (fun _ _ _ _ => rfl) rfl rfl (Nat.le_of_ble_eq_true rfl) (Nat.le_of_ble_eq_true rfl) (recvV A (a := 13) (Abs_ks A (i := 23) rfl).1) (t261 (by omega) A (rgn 1001 rfl) e29) (fun w29 r29 A29 => ?_)
            obtain ⟨u30, e30, e⟩ := ob e
            cases e
            exact hg_retI rfl (by decide) (fit_B (kB_e e30)) (kr _ _ rfl _ r29 A29)
          · refine hg_icT (tgt := 105) rfl (by decide) r16 (rgn (-1) rfl) (show ¬ (v16 = (-1)) from q17) ?_
            refine hg_run 2 (pc' := 108) (ls' := [some (vr 395), some (vi l1), some (vi l2), some (vi v1), some (vi v2), some (vi v15), some (vi v16)]) (st' := [vI v16, vR 395]) rfl ?_
            rcases oi e with ⟨q18, e⟩ | ⟨q18, e⟩
            · refine hg_ifF (tgt := 127) rfl (by decide) r16 (show ¬ ¬ (v16 = 0) from fun f => f q18) ?_
              refine hg_run 1 (pc' := 112) (ls' := [some (vr 395), some (vi l1), some (vi l2), some (vi v1), some (vi v2), some (vi v15), some (vi v16)]) (st' := [vR 395, vR 395]) rfl ?_
              refine gs_395_36 rfl A ?_
              refine hg_run 5 (pc' := 123) (ls' := [some (vr 395), some (vi l1), some (vi l2), some (vi v1), some (vi v2), some (vi v15), some (vi v16)]) (st' := [vI (wadd (wmul 40 v2) v15), vR 405, vR 395]) rfl ?_
              obtain ⟨v28, e28, e⟩ := ob e
              refine hg_aIs 0 rfl (fun _ _ _ _ => rfl) A (Abs_ks A (i := 33) rfl) rfl (by decide) e28 (fun r28 => ?_)
              refine hg_run 1 (pc' := 192) (ls' := [some (vr 395), some (vi l1), some (vi l2), some (vi v1), some (vi v2), some (vi v15), some (vi v16)]) (st' := [vI v28, vR 395]) rfl ?_
              exact t259_j192 hcall hd r28 A e kr
            · refine hg_ifT (tgt := 127) rfl (by decide) r16 (show ¬ (v16 = 0) from q18) ?_
              refine hg_run 2 (pc' := 130) (ls' := [some (vr 395), some (vi l1), some (vi l2), some (vi v1), some (vi v2), some (vi v15), some (vi v16)]) (st' := [vI 2, vI v16, vR 395]) rfl ?_
              rcases oi e with ⟨q19, e⟩ | ⟨q19, e⟩
              · refine hg_icF (tgt := 149) rfl (by decide) r16 (rgn 2 rfl) (show ¬ ¬ (v16 = 2) from fun f => f q19) ?_
                refine hg_run 1 (pc' := 134) (ls' := [some (vr 395), some (vi l1), some (vi l2), some (vi v1), some (vi v2), some (vi v15), some (vi v16)]) (st' := [vR 395, vR 395]) rfl ?_
                refine gs_395_37 rfl A ?_
                refine hg_run 5 (pc' := 145) (ls' := [some (vr 395), some (vi l1), some (vi l2), some (vi v1), some (vi v2), some (vi v15), some (vi v16)]) (st' := [vI (wadd (wmul 40 v2) v15), vR 406, vR 395]) rfl ?_
                obtain ⟨v27, e27, e⟩ := ob e
                refine hg_aIs 0 rfl (fun _ _ _ _ => rfl) A (Abs_ks A (i := 34) rfl) rfl (by decide) e27 (fun r27 => ?_)
                refine hg_run 1 (pc' := 192) (ls' := [some (vr 395), some (vi l1), some (vi l2), some (vi v1), some (vi v2), some (vi v15), some (vi v16)]) (st' := [vI v27, vR 395]) rfl ?_
                exact t259_j192 hcall hd r27 A e kr
              · refine hg_icT (tgt := 149) rfl (by decide) r16 (rgn 2 rfl) (show ¬ (v16 = 2) from q19) ?_
                refine hg_run 5 (pc' := 154) (ls' := [some (vr 395), some (vi l1), some (vi l2), some (vi v1), some (vi v2), some (vi v15), some (vi v16)]) (st' := [vR 395, vI 0, vR 395, vI 0, vR 395, vR 395]) rfl ?_
                refine gs_395_35 rfl A ?_
                refine hg_run 1 (pc' := 159) (ls' := [some (vr 395), some (vi l1), some (vi l2), some (vi v1), some (vi v2), some (vi v15), some (vi v16)]) (st' := [vI v2, vR 404, vI 0, vR 395, vI 0, vR 395, vR 395]) rfl ?_
                obtain ⟨v20, e20, e⟩ := ob e
                refine hg_aIs 0 rfl (fun _ _ _ _ => rfl) A (Abs_ks A (i := 32) rfl) rfl (by decide) e20 (fun r20 => ?_)
                refine hg_run 1 (pc' := 162) (ls' := [some (vr 395), some (vi l1), some (vi l2), some (vi v1), some (vi v2), some (vi v15), some (vi v16)]) (st' := [vI v15, vI v20, vI 0, vR 395, vI 0, vR 395, vR 395]) rfl ?_
                obtain ⟨v21, e21, e⟩ := ob e
                refine hg_cIp (as := [vR 395, vI 0, vI v20, vI v15]) (st' := [vI 0, vR 395, vR 395]) rfl (fun _ _ _ _ => rfl) rfl rfl (Nat.le_of_ble_eq_true rfl) (Nat.le_of_ble_eq_true rfl) (recvV A (a := 13) (Abs_ks A (i := 23) rfl).1) (t248 (by omega) A (rgn 0 rfl) r20 r15 e21) (fun r21 => ?_)
                refine hg_run 6 (pc' := 172) (ls' := [some (vr 395), some (vi l1), some (vi l2), some (vi v1), some (vi v2), some (vi v15), some (vi v16)]) (st' := [vR 395, vI 0, vR 395, vI 0, vR 395, vI 35, vI v21, vI 0, vR 395, vR 395]) rfl ?_
                refine gs_395_35 rfl A ?_
                refine hg_run 1 (pc' := 177) (ls' := [some (vr 395), some (vi l1), some (vi l2), some (vi v1), some (vi v2), some (vi v15), some (vi v16)]) (st' := [vI v2, vR 404, vI 0, vR 395, vI 0, vR 395, vI 35, vI v21, vI 0, vR 395, vR 395]) rfl ?_
                obtain ⟨v22, e22, e⟩ := ob e
                refine hg_aIs 0 rfl (fun _ _ _ _ => rfl) A (Abs_ks A (i := 32) rfl) rfl (by decide) e22 (fun r22 => ?_)
                refine hg_run 1 (pc' := 180) (ls' := [some (vr 395), some (vi l1), some (vi l2), some (vi v1), some (vi v2), some (vi v15), some (vi v16)]) (st' := [vI v15, vI v22, vI 0, vR 395, vI 0, vR 395, vI 35, vI v21, vI 0, vR 395, vR 395]) rfl ?_
                obtain ⟨v23, e23, e⟩ := ob e
                refine hg_cIp (as := [vR 395, vI 0, vI v22, vI v15]) (st' := [vI 0, vR 395, vI 35, vI v21, vI 0, vR 395, vR 395]) rfl (fun _ _ _ _ => rfl) rfl rfl (Nat.le_of_ble_eq_true rfl) (Nat.le_of_ble_eq_true rfl) (recvV A (a := 13) (Abs_ks A (i := 23) rfl).1) (t248 (by omega) A (rgn 0 rfl) r22 r15 e23) (fun r23 => ?_)
                refine hg_run 1 (pc' := 185) (ls' := [some (vr 395), some (vi l1), some (vi l2), some (vi v1), some (vi v2), some (vi v15), some (vi v16)]) (st' := [vI v15, vI v23, vI 0, vR 395, vI 35, vI v21, vI 0, vR 395, vR 395]) rfl ?_
                obtain ⟨v24, e24, e⟩ := ob e
                refine hg_cIp (as := [vR 395, vI 0, vI v23, vI v15]) (st' := [vI 35, vI v21, vI 0, vR 395, vR 395]) rfl (fun _ _ _ _ => rfl) rfl rfl (Nat.le_of_ble_eq_true rfl) (Nat.le_of_ble_eq_true rfl) (recvV A (a := 13) (Abs_ks A (i := 23) rfl).1) (t208 (by omega) A (rgn 0 rfl) r23 r15 e24) (fun r24 => ?_)
                refine hg_run 1 (pc' := 189) (ls' := [some (vr 395), some (vi l1), some (vi l2), some (vi v1), some (vi v2), some (vi v15), some (vi v16)]) (st' := [vI (wadd 35 v24), vI v21, vI 0, vR 395, vR 395]) rfl ?_
                obtain ⟨v25, e25, e⟩ := ob e
                refine hg_cIp (as := [vR 395, vI 0, vI v21, vI (wadd 35 v24)]) (st' := [vR 395]) rfl (fun _ _ _ _ => rfl) rfl rfl (Nat.le_of_ble_eq_true rfl) (Nat.le_of_ble_eq_true rfl) (recvV A (a := 13) (Abs_ks A (i := 23) rfl).1) (t199 (by omega) A (rgn 0 rfl) r21 (rg_add _ _) e25) (fun r25 => ?_)
                exact t259_j192 hcall hd r25 A e kr
        · refine hg_icT (tgt := 197) rfl (by decide) r1 (rgn 2 rfl) (show ¬ (v1 = 2) from q10) ?_
          refine hg_run 4 (pc' := 201) (ls' := [some (vr 395), some (vi l1), some (vi l2), some (vi v1), some (vi v2), none, none]) (st' := [vI 1, vI l1, vR 395, vR 395]) rfl ?_
          obtain ⟨v11, e11, e⟩ := ob e
          refine hg_cIp (as := [vR 395, vI l1, vI 1]) (st' := [vR 395]) rfl (fun _ _ _ _ => rfl) rfl rfl (Nat.le_of_ble_eq_true rfl) (Nat.le_of_ble_eq_true rfl) (recvV A (a := 13) (Abs_ks A (i := 23) rfl).1) (t257 (by omega) A rl1 (rgn 1 rfl) e11) (fun r11 => ?_)
          refine hg_run 1 (pc' := 205) (ls' := [some (vr 395), some (vi l1), some (vi l2), some (vi v1), some (vi v2), none, none]) (st' := [vI l2, vI v11, vR 395]) rfl ?_
          obtain ⟨v12, e12, e⟩ := ob e
          refine hg_cI (as := [vR 395, vI v11, vI l2]) (st' := []) rfl (fun _ _ _ _ => rfl) rfl rfl (Nat.le_of_ble_eq_true rfl) (Nat.le_of_ble_eq_true rfl) (recvV A (a := 13) (Abs_ks A (i := 23) rfl).1) (hcall 258 _ _ _ _ A (rglc r11 (rglc rl2 rgl0)) e12) (fun w12 r12 A12 => ?_)
          rcases oi e with ⟨q13, e⟩ | ⟨q13, e⟩
          · refine hg_ifF (tgt := 213) rfl (by decide) r12 (show ¬ ¬ (v12.1 = 0) from fun f => f q13) ?_
            refine hg_run 1 (pc' := 212) (ls' := [some (vr 395), some (vi l1), some (vi l2), some (vi v1), some (vi v2), none, none]) (st' := [vI 0]) rfl ?_
            cases e
            exact hg_retI rfl (by decide) (fit_B (.inl rfl)) (kr _ _ rfl _ (rgn 0 rfl) A12)
          · refine hg_ifT (tgt := 213) rfl (by decide) r12 (show ¬ (v12.1 = 0) from q13) ?_
            refine hg_run 2 (pc' := 215) (ls' := [some (vr 395), some (vi l1), some (vi l2), some (vi v1), some (vi v2), none, none]) (st' := [vR 395, vR 395]) rfl ?_
            refine gs_395_52 rfl A12 ?_
            refine hg_run 1 (pc' := 219) (ls' := [some (vr 395), some (vi l1), some (vi l2), some (vi v1), some (vi v2), none, none]) (st' := [vI (wneg (hI v12.2 395 52)), vR 395]) rfl ?_
            obtain ⟨h14, e14, e⟩ := ob e
            refine ps_395_52 rfl A12 (rg_neg _) e14 (fun w14 A14 => ?_)
            refine hg_run 1 (pc' := 223) (ls' := [some (vr 395), some (vi l1), some (vi l2), some (vi v1), some (vi v2), none, none]) (st' := [vI 1]) rfl ?_
            cases e
            exact hg_retI rfl (by decide) (fit_B (.inr rfl)) (kr _ _ rfl _ (rgn 1 rfl) A14)
def g258 : Nat → Nat → List Int → hS → Option (Int × hS)
  | 0, _, _, _ => none
  | f + 1, 258, [a0, a1], h => c258 (g258 f) a0 a1 h
  | f + 1, 259, [a0, a1], h => c259 (g258 f) a0 a1 h
  | _ + 1, _, _, _ => none
theorem u258 : ∀ (f : Nat) {d : Nat} (hd : 5 + f ≤ d) (k : Nat) (as : List Int) (h : hS) (w : mmW) (o : Int × hS), Abs h w → (∀ a ∈ as, rg a) → g258 f k as h = some o → hEv d k (vR 395 :: as.map vI) w (qI o)
  | 0, d, hd, k, as, h, w, o, A, hr, e => by unfold g258 at e; cases e
  | f + 1, d, hd, k, as, h, w, o, A, hr, e => by
    obtain ⟨d, rfl⟩ : ∃ d1, d = d1 + 1 := ⟨d - 1, by omega⟩
    unfold g258 at e
    split at e
    · rename_i q; cases q
    · rename_i q; cases q; exact t258 (u258 f (by omega)) (by omega) A (hr _ List.mem_cons_self) (hr _ (List.mem_cons_of_mem _ List.mem_cons_self)) e
    · rename_i q; cases q; exact t259 (u258 f (by omega)) (by omega) A (hr _ List.mem_cons_self) (hr _ (List.mem_cons_of_mem _ List.mem_cons_self)) e
    · cases e
def c263 (l1 : Int) (l2 : Int) (h : hS) : Option (Int × hS) :=
  (c260 l1 l2 h).bind (fun v1 =>
  if v1 = (-1) then
  (c261 1001 h).bind (fun v13 =>
  (kB v13.1).bind (fun u14 =>
  some (v13.1, v13.2)))
  else
  if v1 = 0 then
  (wIs h 405 1600 (wadd (wmul 40 l1) l2) (hI h 395 52)).bind (fun h12 =>
  some (1, h12))
  else
  if v1 = 2 then
  (wIs h 406 1600 (wadd (wmul 40 l1) l2) (hI h 395 52)).bind (fun h11 =>
  some (1, h11))
  else
  (aIs h 404 40 l1).bind (fun v5 =>
  (c248 0 v5 l2 h).bind (fun v6 =>
  (aIs h 404 40 l1).bind (fun v7 =>
  (c248 0 v7 l2 h).bind (fun v8 =>
  (c208 0 v8 l2 h).bind (fun v9 =>
  (c201 0 v6 (wadd 35 v9) (hI h 395 52) h).bind (fun h10 =>
  some (1, h10))))))))
theorem t263 {d : Nat} (hd : 5 ≤ d) {l1 : Int} {l2 : Int} {h : hS} {w : mmW} {o : Int × hS} (A : Abs h w) (rl1 : rg l1) (rl2 : rg l2) (e : c263 l1 l2 h = some o) : hEv d 263 [vR 395, vI l1, vI l2] w (qI o) := by
  obtain ⟨d, rfl⟩ : ∃ d1, d = d1 + 1 := ⟨d - 1, by omega⟩
  have hd : 4 ≤ d := by omega
  refine hEv_start (args := [vr 395, vi l1, vi l2]) (nl := 4) rfl (Nat.le_of_ble_eq_true rfl) ?_
  show hG d 263 0 [some (vr 395), some (vi l1), some (vi l2), none] [] w _
  have kr : ∀ (v1 : Int) (h1 : hS), o = (v1, h1) → ∀ w', rg v1 → Abs h1 w' → qI o (some (.int (Int32.ofInt v1)), w') := fun v1 h1 q w' r A' => by cases q; exact ⟨rfl, r, A'⟩
  unfold c263 at e
  refine hg_run 3 (pc' := 3) (ls' := [some (vr 395), some (vi l1), some (vi l2), none]) (st' := [vI l2, vI l1, vR 395]) rfl ?_
  obtain ⟨v1, e1, e⟩ := ob e
  refine hg_cIp (as := [vR 395, vI l1, vI l2]) (st' := []) rfl (fun _ _ _ _ => rfl) rfl rfl (Nat.le_of_ble_eq_true rfl) (Nat.le_of_ble_eq_true rfl) (recvV A (a := 13) (Abs_ks A (i := 23) rfl).1) (t260 (by omega) A rl1 rl2 e1) (fun r1 => ?_)
  refine hg_run 3 (pc' := 9) (ls' := [some (vr 395), some (vi l1), some (vi l2), some (vi v1)]) (st' := [vI (-1), vI v1]) rfl ?_
  rcases oi e with ⟨q2, e⟩ | ⟨q2, e⟩
  · refine hg_icF (tgt := 20) rfl (by decide) r1 (rgn (-1) rfl) (show ¬ ¬ (v1 = (-1)) from fun f => f q2) ?_
    refine hg_run 2 (pc' := 16) (ls' := [some (vr 395), some (vi l1), some (vi l2), some (vi v1)]) (st' := [vI 1001, vR 395]) rfl ?_
    obtain ⟨v13, e13, e⟩ := ob e
    refine hg_cI (as := [vR 395, vI 1001]) (st' := []) rfl (fun _ _ _ _ => rfl) rfl rfl (Nat.le_of_ble_eq_true rfl) (Nat.le_of_ble_eq_true rfl) (recvV A (a := 13) (Abs_ks A (i := 23) rfl).1) (t261 (by omega) A (rgn 1001 rfl) e13) (fun w13 r13 A13 => ?_)
    obtain ⟨u14, e14, e⟩ := ob e
    cases e
    exact hg_retI rfl (by decide) (fit_B (kB_e e14)) (kr _ _ rfl _ r13 A13)
  · refine hg_icT (tgt := 20) rfl (by decide) r1 (rgn (-1) rfl) (show ¬ (v1 = (-1)) from q2) ?_
    refine hg_run 1 (pc' := 21) (ls' := [some (vr 395), some (vi l1), some (vi l2), some (vi v1)]) (st' := [vI v1]) rfl ?_
    rcases oi e with ⟨q3, e⟩ | ⟨q3, e⟩
    · refine hg_ifF (tgt := 42) rfl (by decide) r1 (show ¬ ¬ (v1 = 0) from fun f => f q3) ?_
      refine hg_run 1 (pc' := 25) (ls' := [some (vr 395), some (vi l1), some (vi l2), some (vi v1)]) (st' := [vR 395]) rfl ?_
      refine gs_395_36 rfl A ?_
      refine hg_run 6 (pc' := 35) (ls' := [some (vr 395), some (vi l1), some (vi l2), some (vi v1)]) (st' := [vR 395, vI (wadd (wmul 40 l1) l2), vR 405]) rfl ?_
      refine gs_395_52 rfl A ?_
      obtain ⟨h12, e12, e⟩ := ob e
      refine hg_wIs rfl A (Abs_ks A (i := 33) rfl) (by decide) (Abs_rg A 395 52) e12 (fun w12 A12 => ?_)
      refine hg_run 2 (pc' := 108) (ls' := [some (vr 395), some (vi l1), some (vi l2), some (vi v1)]) (st' := [vI 1]) rfl ?_
      cases e
      exact hg_retI rfl (by decide) (fit_B (.inr rfl)) (kr _ _ rfl _ (rgn 1 rfl) A12)
    · refine hg_ifT (tgt := 42) rfl (by decide) r1 (show ¬ (v1 = 0) from q3) ?_
      refine hg_run 2 (pc' := 44) (ls' := [some (vr 395), some (vi l1), some (vi l2), some (vi v1)]) (st' := [vI 2, vI v1]) rfl ?_
      rcases oi e with ⟨q4, e⟩ | ⟨q4, e⟩
      · refine hg_icF (tgt := 65) rfl (by decide) r1 (rgn 2 rfl) (show ¬ ¬ (v1 = 2) from fun f => f q4) ?_
        refine hg_run 1 (pc' := 48) (ls' := [some (vr 395), some (vi l1), some (vi l2), some (vi v1)]) (st' := [vR 395]) rfl ?_
        refine gs_395_37 rfl A ?_
        refine hg_run 6 (pc' := 58) (ls' := [some (vr 395), some (vi l1), some (vi l2), some (vi v1)]) (st' := [vR 395, vI (wadd (wmul 40 l1) l2), vR 406]) rfl ?_
        refine gs_395_52 rfl A ?_
        obtain ⟨h11, e11, e⟩ := ob e
        refine hg_wIs rfl A (Abs_ks A (i := 34) rfl) (by decide) (Abs_rg A 395 52) e11 (fun w11 A11 => ?_)
        refine hg_run 2 (pc' := 108) (ls' := [some (vr 395), some (vi l1), some (vi l2), some (vi v1)]) (st' := [vI 1]) rfl ?_
        cases e
        exact hg_retI rfl (by decide) (fit_B (.inr rfl)) (kr _ _ rfl _ (rgn 1 rfl) A11)
      · refine hg_icT (tgt := 65) rfl (by decide) r1 (rgn 2 rfl) (show ¬ (v1 = 2) from q4) ?_
        refine hg_run 5 (pc' := 70) (ls' := [some (vr 395), some (vi l1), some (vi l2), some (vi v1)]) (st' := [vR 395, vI 0, vR 395, vI 0, vR 395]) rfl ?_
        refine gs_395_35 rfl A ?_
        refine hg_run 1 (pc' := 74) (ls' := [some (vr 395), some (vi l1), some (vi l2), some (vi v1)]) (st' := [vI l1, vR 404, vI 0, vR 395, vI 0, vR 395]) rfl ?_
        obtain ⟨v5, e5, e⟩ := ob e
        refine hg_aIs 0 rfl (fun _ _ _ _ => rfl) A (Abs_ks A (i := 32) rfl) rfl (by decide) e5 (fun r5 => ?_)
        refine hg_run 1 (pc' := 76) (ls' := [some (vr 395), some (vi l1), some (vi l2), some (vi v1)]) (st' := [vI l2, vI v5, vI 0, vR 395, vI 0, vR 395]) rfl ?_
        obtain ⟨v6, e6, e⟩ := ob e
        refine hg_cIp (as := [vR 395, vI 0, vI v5, vI l2]) (st' := [vI 0, vR 395]) rfl (fun _ _ _ _ => rfl) rfl rfl (Nat.le_of_ble_eq_true rfl) (Nat.le_of_ble_eq_true rfl) (recvV A (a := 13) (Abs_ks A (i := 23) rfl).1) (t248 (by omega) A (rgn 0 rfl) r5 rl2 e6) (fun r6 => ?_)
        refine hg_run 6 (pc' := 86) (ls' := [some (vr 395), some (vi l1), some (vi l2), some (vi v1)]) (st' := [vR 395, vI 0, vR 395, vI 0, vR 395, vI 35, vI v6, vI 0, vR 395]) rfl ?_
        refine gs_395_35 rfl A ?_
        refine hg_run 1 (pc' := 90) (ls' := [some (vr 395), some (vi l1), some (vi l2), some (vi v1)]) (st' := [vI l1, vR 404, vI 0, vR 395, vI 0, vR 395, vI 35, vI v6, vI 0, vR 395]) rfl ?_
        obtain ⟨v7, e7, e⟩ := ob e
        refine hg_aIs 0 rfl (fun _ _ _ _ => rfl) A (Abs_ks A (i := 32) rfl) rfl (by decide) e7 (fun r7 => ?_)
        refine hg_run 1 (pc' := 92) (ls' := [some (vr 395), some (vi l1), some (vi l2), some (vi v1)]) (st' := [vI l2, vI v7, vI 0, vR 395, vI 0, vR 395, vI 35, vI v6, vI 0, vR 395]) rfl ?_
        obtain ⟨v8, e8, e⟩ := ob e
        refine hg_cIp (as := [vR 395, vI 0, vI v7, vI l2]) (st' := [vI 0, vR 395, vI 35, vI v6, vI 0, vR 395]) rfl (fun _ _ _ _ => rfl) rfl rfl (Nat.le_of_ble_eq_true rfl) (Nat.le_of_ble_eq_true rfl) (recvV A (a := 13) (Abs_ks A (i := 23) rfl).1) (t248 (by omega) A (rgn 0 rfl) r7 rl2 e8) (fun r8 => ?_)
        refine hg_run 1 (pc' := 96) (ls' := [some (vr 395), some (vi l1), some (vi l2), some (vi v1)]) (st' := [vI l2, vI v8, vI 0, vR 395, vI 35, vI v6, vI 0, vR 395]) rfl ?_
        obtain ⟨v9, e9, e⟩ := ob e
        refine hg_cIp (as := [vR 395, vI 0, vI v8, vI l2]) (st' := [vI 35, vI v6, vI 0, vR 395]) rfl (fun _ _ _ _ => rfl) rfl rfl (Nat.le_of_ble_eq_true rfl) (Nat.le_of_ble_eq_true rfl) (recvV A (a := 13) (Abs_ks A (i := 23) rfl).1) (t208 (by omega) A (rgn 0 rfl) r8 rl2 e9) (fun r9 => ?_)
        refine hg_run 2 (pc' := 101) (ls' := [some (vr 395), some (vi l1), some (vi l2), some (vi v1)]) (st' := [vR 395, vI (wadd 35 v9), vI v6, vI 0, vR 395]) rfl ?_
        refine gs_395_52 rfl A ?_
        obtain ⟨h10, e10, e⟩ := ob e
        refine hg_cV (as := [vR 395, vI 0, vI v6, vI (wadd 35 v9), vI (hI h 395 52)]) (st' := []) rfl (fun _ _ _ _ => rfl) rfl rfl (Nat.le_of_ble_eq_true rfl) (Nat.le_of_ble_eq_true rfl) (recvV A (a := 13) (Abs_ks A (i := 23) rfl).1) (t201 (by omega) A (rgn 0 rfl) r6 (rg_add _ _) (Abs_rg A 395 52) e10) (fun w10 A10 => ?_)
        refine hg_run 1 (pc' := 108) (ls' := [some (vr 395), some (vi l1), some (vi l2), some (vi v1)]) (st' := [vI 1]) rfl ?_
        cases e
        exact hg_retI rfl (by decide) (fit_B (.inr rfl)) (kr _ _ rfl _ (rgn 1 rfl) A10)
def c266 (l1 : Int) (h : hS) : Option (hS) :=
  if (hI h 395 60) = 0 then
  some h
  else
  if (hI h 395 66) = 50 then
  some h
  else
  (aIs h 412 21 l1).bind (fun v3 =>
  (aIs h 408 21 l1).bind (fun v4 =>
  (wIs h 419 50 (hI h 395 66) v4).bind (fun h5 =>
  (aIs h5 413 21 l1).bind (fun v6 =>
  (wIs h5 420 50 (hI h5 395 66) v6).bind (fun h7 =>
  (aIs h7 415 252 (wadd (wmul 12 l1) v3)).bind (fun v8 =>
  (wIs h7 421 50 (hI h7 395 66) v8).bind (fun h9 =>
  (aIs h9 416 252 (wadd (wmul 12 l1) v3)).bind (fun v10 =>
  (wIs h9 422 50 (hI h9 395 66) v10).bind (fun h11 =>
  (some (sI h11 395 66 (wadd (hI h11 395 66) 1))).bind (fun h12 =>
  some h12))))))))))
theorem t266 {d : Nat} (hd : 1 ≤ d) {l1 : Int} {h : hS} {w : mmW} {o : hS} (A : Abs h w) (rl1 : rg l1) (e : c266 l1 h = some o) : hEv d 266 [vR 395, vI l1] w (qV o) := by
  obtain ⟨d, rfl⟩ : ∃ d1, d = d1 + 1 := ⟨d - 1, by omega⟩
  have hd : 0 ≤ d := by omega
  refine hEv_start (args := [vr 395, vi l1]) (nl := 3) rfl (Nat.le_of_ble_eq_true rfl) ?_
  show hG d 266 0 [some (vr 395), some (vi l1), none] [] w _
  have kr : ∀ h1 : hS, o = h1 → ∀ w', Abs h1 w' → qV o (none, w') := fun h1 q w' A' => by cases q; exact ⟨rfl, A'⟩
  unfold c266 at e
  refine hg_run 1 (pc' := 1) (ls' := [some (vr 395), some (vi l1), none]) (st' := [vR 395]) rfl ?_
  refine gs_395_60 rfl A ?_
  rcases oi e with ⟨q1, e⟩ | ⟨q1, e⟩
  · refine hg_ifT (tgt := 16) rfl (by decide) (Abs_rg A 395 60) q1 ?_
    cases e
    exact hg_retV rfl (kr _ rfl _ A)
  · refine hg_ifF (tgt := 16) rfl (by decide) (Abs_rg A 395 60) q1 ?_
    refine hg_run 1 (pc' := 8) (ls' := [some (vr 395), some (vi l1), none]) (st' := [vR 395]) rfl ?_
    refine gs_395_66 rfl A ?_
    refine hg_run 1 (pc' := 13) (ls' := [some (vr 395), some (vi l1), none]) (st' := [vI 50, vI (hI h 395 66)]) rfl ?_
    rcases oi e with ⟨q2, e⟩ | ⟨q2, e⟩
    · refine hg_icF (tgt := 17) rfl (by decide) (Abs_rg A 395 66) (rgn 50 rfl) (show ¬ ¬ ((hI h 395 66) = 50) from fun f => f q2) ?_
      cases e
      exact hg_retV rfl (kr _ rfl _ A)
    · refine hg_icT (tgt := 17) rfl (by decide) (Abs_rg A 395 66) (rgn 50 rfl) (show ¬ ((hI h 395 66) = 50) from q2) ?_
      refine hg_run 4 (pc' := 22) (ls' := [some (vr 395), some (vi l1), none]) (st' := [vR 395, vI (wmul 12 l1)]) rfl ?_
      refine gs_395_47 rfl A ?_
      refine hg_run 1 (pc' := 26) (ls' := [some (vr 395), some (vi l1), none]) (st' := [vI l1, vR 412, vI (wmul 12 l1)]) rfl ?_
      obtain ⟨v3, e3, e⟩ := ob e
      refine hg_aIs 0 rfl (fun _ _ _ _ => rfl) A (Abs_ks A (i := 40) rfl) rfl (by decide) e3 (fun r3 => ?_)
      refine hg_run 3 (pc' := 30) (ls' := [some (vr 395), some (vi l1), some (vi (wadd (wmul 12 l1) v3))]) (st' := [vR 395]) rfl ?_
      refine gs_395_62 rfl A ?_
      refine hg_run 1 (pc' := 34) (ls' := [some (vr 395), some (vi l1), some (vi (wadd (wmul 12 l1) v3))]) (st' := [vR 395, vR 419]) rfl ?_
      refine gs_395_66 rfl A ?_
      refine hg_run 1 (pc' := 38) (ls' := [some (vr 395), some (vi l1), some (vi (wadd (wmul 12 l1) v3))]) (st' := [vR 395, vI (hI h 395 66), vR 419]) rfl ?_
      refine gs_395_43 rfl A ?_
      refine hg_run 1 (pc' := 42) (ls' := [some (vr 395), some (vi l1), some (vi (wadd (wmul 12 l1) v3))]) (st' := [vI l1, vR 408, vI (hI h 395 66), vR 419]) rfl ?_
      obtain ⟨v4, e4, e⟩ := ob e
      refine hg_aIs 0 rfl (fun _ _ _ _ => rfl) A (Abs_ks A (i := 36) rfl) rfl (by decide) e4 (fun r4 => ?_)
      obtain ⟨h5, e5, e⟩ := ob e
      refine hg_wIs rfl A (Abs_ks A (i := 47) rfl) (by decide) r4 e5 (fun w5 A5 => ?_)
      refine hg_run 1 (pc' := 45) (ls' := [some (vr 395), some (vi l1), some (vi (wadd (wmul 12 l1) v3))]) (st' := [vR 395]) rfl ?_
      refine gs_395_63 rfl A5 ?_
      refine hg_run 1 (pc' := 49) (ls' := [some (vr 395), some (vi l1), some (vi (wadd (wmul 12 l1) v3))]) (st' := [vR 395, vR 420]) rfl ?_
      refine gs_395_66 rfl A5 ?_
      refine hg_run 1 (pc' := 53) (ls' := [some (vr 395), some (vi l1), some (vi (wadd (wmul 12 l1) v3))]) (st' := [vR 395, vI (hI h5 395 66), vR 420]) rfl ?_
      refine gs_395_48 rfl A5 ?_
      refine hg_run 1 (pc' := 57) (ls' := [some (vr 395), some (vi l1), some (vi (wadd (wmul 12 l1) v3))]) (st' := [vI l1, vR 413, vI (hI h5 395 66), vR 420]) rfl ?_
      obtain ⟨v6, e6, e⟩ := ob e
      refine hg_aIs 0 rfl (fun _ _ _ _ => rfl) A5 (Abs_ks A5 (i := 41) rfl) rfl (by decide) e6 (fun r6 => ?_)
      obtain ⟨h7, e7, e⟩ := ob e
      refine hg_wIs rfl A5 (Abs_ks A5 (i := 48) rfl) (by decide) r6 e7 (fun w7 A7 => ?_)
      refine hg_run 1 (pc' := 60) (ls' := [some (vr 395), some (vi l1), some (vi (wadd (wmul 12 l1) v3))]) (st' := [vR 395]) rfl ?_
      refine gs_395_64 rfl A7 ?_
      refine hg_run 1 (pc' := 64) (ls' := [some (vr 395), some (vi l1), some (vi (wadd (wmul 12 l1) v3))]) (st' := [vR 395, vR 421]) rfl ?_
      refine gs_395_66 rfl A7 ?_
      refine hg_run 1 (pc' := 68) (ls' := [some (vr 395), some (vi l1), some (vi (wadd (wmul 12 l1) v3))]) (st' := [vR 395, vI (hI h7 395 66), vR 421]) rfl ?_
      refine gs_395_50 rfl A7 ?_
      refine hg_run 1 (pc' := 72) (ls' := [some (vr 395), some (vi l1), some (vi (wadd (wmul 12 l1) v3))]) (st' := [vI (wadd (wmul 12 l1) v3), vR 415, vI (hI h7 395 66), vR 421]) rfl ?_
      obtain ⟨v8, e8, e⟩ := ob e
      refine hg_aIs 0 rfl (fun _ _ _ _ => rfl) A7 (Abs_ks A7 (i := 43) rfl) rfl (by decide) e8 (fun r8 => ?_)
      obtain ⟨h9, e9, e⟩ := ob e
      refine hg_wIs rfl A7 (Abs_ks A7 (i := 49) rfl) (by decide) r8 e9 (fun w9 A9 => ?_)
      refine hg_run 1 (pc' := 75) (ls' := [some (vr 395), some (vi l1), some (vi (wadd (wmul 12 l1) v3))]) (st' := [vR 395]) rfl ?_
      refine gs_395_65 rfl A9 ?_
      refine hg_run 1 (pc' := 79) (ls' := [some (vr 395), some (vi l1), some (vi (wadd (wmul 12 l1) v3))]) (st' := [vR 395, vR 422]) rfl ?_
      refine gs_395_66 rfl A9 ?_
      refine hg_run 1 (pc' := 83) (ls' := [some (vr 395), some (vi l1), some (vi (wadd (wmul 12 l1) v3))]) (st' := [vR 395, vI (hI h9 395 66), vR 422]) rfl ?_
      refine gs_395_51 rfl A9 ?_
      refine hg_run 1 (pc' := 87) (ls' := [some (vr 395), some (vi l1), some (vi (wadd (wmul 12 l1) v3))]) (st' := [vI (wadd (wmul 12 l1) v3), vR 416, vI (hI h9 395 66), vR 422]) rfl ?_
      obtain ⟨v10, e10, e⟩ := ob e
      refine hg_aIs 0 rfl (fun _ _ _ _ => rfl) A9 (Abs_ks A9 (i := 44) rfl) rfl (by decide) e10 (fun r10 => ?_)
      obtain ⟨h11, e11, e⟩ := ob e
      refine hg_wIs rfl A9 (Abs_ks A9 (i := 50) rfl) (by decide) r10 e11 (fun w11 A11 => ?_)
      refine hg_run 2 (pc' := 91) (ls' := [some (vr 395), some (vi l1), some (vi (wadd (wmul 12 l1) v3))]) (st' := [vR 395, vR 395]) rfl ?_
      refine gs_395_66 rfl A11 ?_
      refine hg_run 2 (pc' := 96) (ls' := [some (vr 395), some (vi l1), some (vi (wadd (wmul 12 l1) v3))]) (st' := [vI (wadd (hI h11 395 66) 1), vR 395]) rfl ?_
      obtain ⟨h12, e12, e⟩ := ob e
      refine ps_395_66 rfl A11 (rg_add _ _) e12 (fun w12 A12 => ?_)
      cases e
      exact hg_retV rfl (kr _ rfl _ A12)
def c254_j63 (l4 : Int) (l5 : Int) (h : hS) : Option ((Int × hS) ⊕ ((hS) ⊕ (Int × hS))) :=
  if l5 = 0 then
  (c257 l4 4 h).bind (fun v7 =>
  some (.inl (v7, h)))
  else
  some (.inr (.inr (l5, h)))
theorem t254_j63 {d : Nat} {call : Nat → List Int → hS → Option (Int × hS)} (hcall : ∀ (k : Nat) (as : List Int) (h : hS) (w : mmW) (o : Int × hS), Abs h w → (∀ a ∈ as, rg a) → call k as h = some o → hEv d k (vR 395 :: as.map vI) w (qI o)) (hd : 125 ≤ d) {l4 : Int} {l5 : Int} {z1 : Option hO} {l2 : Int} {l3 : Int} {h : hS} {w : mmW} {o : (Int × hS) ⊕ ((hS) ⊕ (Int × hS))} {Q : mmO → Prop} (rl4 : rg l4) (rl5 : rg l5) (A : Abs h w) (e : c254_j63 l4 l5 h = some o) (kb : ∀ (s_0 : Int) (s_1 : hS), o = .inl (s_0, s_1) → ∀ w', ∀ (y5 : Option hO), rg s_0 → Abs s_1 w' → hG d 254 3 [some (vr 395), z1, some (vi l2), some (vi l3), some (vi s_0), y5] [] w' Q) (ke : ∀ (x_0 : hS), o = .inr (.inl (x_0)) → ∀ w', ∀ (y4 y5 : Option hO), Abs x_0 w' → hG d 254 83 [some (vr 395), z1, some (vi l2), some (vi l3), y4, y5] [] w' Q) (kr : ∀ (v1 : Int) (h1 : hS), o = .inr (.inr (v1, h1)) → ∀ w', rg v1 → Abs h1 w' → Q (some (.int (Int32.ofInt v1)), w')) : hG d 254 63 [some (vr 395), z1, some (vi l2), some (vi l3), some (vi l4), some (vi l5)] [] w Q := by
  unfold c254_j63 at e
  refine hg_run 1 (pc' := 65) (ls' := [some (vr 395), z1, some (vi l2), some (vi l3), some (vi l4), some (vi l5)]) (st' := [vI l5]) rfl ?_
  rcases oi e with ⟨q6, e⟩ | ⟨q6, e⟩
  · refine hg_ifT (tgt := 71) rfl (by decide) rl5 q6 ?_
    refine hg_run 3 (pc' := 75) (ls' := [some (vr 395), z1, some (vi l2), some (vi l3), some (vi l4), some (vi l5)]) (st' := [vI 4, vI l4, vR 395]) rfl ?_
    obtain ⟨v7, e7, e⟩ := ob e
    refine hg_cIp (as := [vR 395, vI l4, vI 4]) (st' := []) rfl (fun _ _ _ _ => rfl) rfl rfl (Nat.le_of_ble_eq_true rfl) (Nat.le_of_ble_eq_true rfl) (recvV A (a := 13) (Abs_ks A (i := 23) rfl).1) (t257 (by omega) A rl4 (rgn 4 rfl) e7) (fun r7 => ?_)
    refine hg_run 2 (pc' := 3) (ls' := [some (vr 395), z1, some (vi l2), some (vi l3), some (vi v7), some (vi l5)]) (st' := []) rfl ?_
    cases e
    exact kb v7 h rfl _ _ r7 A
  · refine hg_ifF (tgt := 71) rfl (by decide) rl5 q6 ?_
    refine hg_run 1 (pc' := 70) (ls' := [some (vr 395), z1, some (vi l2), some (vi l3), some (vi l4), some (vi l5)]) (st' := [vI l5]) rfl ?_
    cases e
    exact hg_retI rfl (by decide) (fit_I _) (kr _ _ rfl _ rl5 A)
def c254_b3 (call : Nat → List Int → hS → Option (Int × hS)) (l2 : Int) (l3 : Int) (l4 : Int) (h : hS) : Option ((Int × hS) ⊕ ((hS) ⊕ (Int × hS))) :=
  if l4 = (-1) then
  some (.inr (.inl (h)))
  else
  if (hI h 395 41) = 500 then
  (some (sI h 395 42 1)).bind (fun h10 =>
  some (.inr (.inr (2, h10))))
  else
  (some (sI h 395 41 (wadd (hI h 395 41) 1))).bind (fun h3 =>
  (call 255 [l4, l2, l3] h3).bind (fun v4 =>
  if v4.1 = 3 then
  (c257 l4 4 v4.2).bind (fun v8 =>
  (some (sI v4.2 395 55 v8)).bind (fun h9 =>
  c254_j63 l4 v4.1 h9))
  else
  c254_j63 l4 v4.1 v4.2))
theorem t254_b3 {d : Nat} {call : Nat → List Int → hS → Option (Int × hS)} (hcall : ∀ (k : Nat) (as : List Int) (h : hS) (w : mmW) (o : Int × hS), Abs h w → (∀ a ∈ as, rg a) → call k as h = some o → hEv d k (vR 395 :: as.map vI) w (qI o)) (hd : 125 ≤ d) {l2 : Int} {l3 : Int} {l4 : Int} {z1 : Option hO} {z5 : Option hO} {h : hS} {w : mmW} {o : (Int × hS) ⊕ ((hS) ⊕ (Int × hS))} {Q : mmO → Prop} (rl2 : rg l2) (rl3 : rg l3) (rl4 : rg l4) (A : Abs h w) (e : c254_b3 call l2 l3 l4 h = some o) (kb : ∀ (s_0 : Int) (s_1 : hS), o = .inl (s_0, s_1) → ∀ w', ∀ (y5 : Option hO), rg s_0 → Abs s_1 w' → hG d 254 3 [some (vr 395), z1, some (vi l2), some (vi l3), some (vi s_0), y5] [] w' Q) (ke : ∀ (x_0 : hS), o = .inr (.inl (x_0)) → ∀ w', ∀ (y4 y5 : Option hO), Abs x_0 w' → hG d 254 83 [some (vr 395), z1, some (vi l2), some (vi l3), y4, y5] [] w' Q) (kr : ∀ (v1 : Int) (h1 : hS), o = .inr (.inr (v1, h1)) → ∀ w', rg v1 → Abs h1 w' → Q (some (.int (Int32.ofInt v1)), w')) : hG d 254 3 [some (vr 395), z1, some (vi l2), some (vi l3), some (vi l4), z5] [] w Q := by
  unfold c254_b3 at e
  refine hg_run 2 (pc' := 6) (ls' := [some (vr 395), z1, some (vi l2), some (vi l3), some (vi l4), z5]) (st' := [vI (-1), vI l4]) rfl ?_
  rcases oi e with ⟨q1, e⟩ | ⟨q1, e⟩
  · refine hg_icT (tgt := 83) rfl (by decide) rl4 (rgn (-1) rfl) q1 ?_
    cases e
    exact ke h rfl _ _ _  A
  · refine hg_icF (tgt := 83) rfl (by decide) rl4 (rgn (-1) rfl) q1 ?_
    refine hg_run 1 (pc' := 10) (ls' := [some (vr 395), z1, some (vi l2), some (vi l3), some (vi l4), z5]) (st' := [vR 395]) rfl ?_
    refine gs_395_41 rfl A ?_
    refine hg_run 1 (pc' := 16) (ls' := [some (vr 395), z1, some (vi l2), some (vi l3), some (vi l4), z5]) (st' := [vI 500, vI (hI h 395 41)]) rfl ?_
    rcases oi e with ⟨q2, e⟩ | ⟨q2, e⟩
    · refine hg_icF (tgt := 26) rfl (by decide) (Abs_rg A 395 41) (rgn 500 rfl) (show ¬ ¬ ((hI h 395 41) = 500) from fun f => f q2) ?_
      refine hg_run 2 (pc' := 21) (ls' := [some (vr 395), z1, some (vi l2), some (vi l3), some (vi l4), z5]) (st' := [vI 1, vR 395]) rfl ?_
      obtain ⟨h10, e10, e⟩ := ob e
      refine ps_395_42 rfl A (rgn 1 rfl) (.inr rfl) e10 (fun w10 A10 => ?_)
      refine hg_run 1 (pc' := 25) (ls' := [some (vr 395), z1, some (vi l2), some (vi l3), some (vi l4), z5]) (st' := [vI 2]) rfl ?_
      cases e
      exact hg_retI rfl (by decide) (fit_I _) (kr _ _ rfl _ (rgn 2 rfl) A10)
    · refine hg_icT (tgt := 26) rfl (by decide) (Abs_rg A 395 41) (rgn 500 rfl) (show ¬ ((hI h 395 41) = 500) from q2) ?_
      refine hg_run 2 (pc' := 28) (ls' := [some (vr 395), z1, some (vi l2), some (vi l3), some (vi l4), z5]) (st' := [vR 395, vR 395]) rfl ?_
      refine gs_395_41 rfl A ?_
      refine hg_run 2 (pc' := 33) (ls' := [some (vr 395), z1, some (vi l2), some (vi l3), some (vi l4), z5]) (st' := [vI (wadd (hI h 395 41) 1), vR 395]) rfl ?_
      obtain ⟨h3, e3, e⟩ := ob e
      refine ps_395_41 rfl A (rg_add _ _) e3 (fun w3 A3 => ?_)
      refine hg_run 4 (pc' := 41) (ls' := [some (vr 395), z1, some (vi l2), some (vi l3), some (vi l4), z5]) (st' := [vI l3, vI l2, vI l4, vR 395]) rfl ?_
      obtain ⟨v4, e4, e⟩ := ob e
      refine hg_cI (as := [vR 395, vI l4, vI l2, vI l3]) (st' := []) rfl (fun _ _ _ _ => rfl) rfl rfl (Nat.le_of_ble_eq_true rfl) (Nat.le_of_ble_eq_true rfl) (recvV A3 (a := 13) (Abs_ks A3 (i := 23) rfl).1) (hcall 255 _ _ _ _ A3 (rglc rl4 (rglc rl2 (rglc rl3 rgl0))) e4) (fun w4 r4 A4 => ?_)
      refine hg_run 3 (pc' := 49) (ls' := [some (vr 395), z1, some (vi l2), some (vi l3), some (vi l4), some (vi v4.1)]) (st' := [vI 3, vI v4.1]) rfl ?_
      rcases oi e with ⟨q5, e⟩ | ⟨q5, e⟩
      · refine hg_icF (tgt := 63) rfl (by decide) r4 (rgn 3 rfl) (show ¬ ¬ (v4.1 = 3) from fun f => f q5) ?_
        refine hg_run 4 (pc' := 57) (ls' := [some (vr 395), z1, some (vi l2), some (vi l3), some (vi l4), some (vi v4.1)]) (st' := [vI 4, vI l4, vR 395, vR 395]) rfl ?_
        obtain ⟨v8, e8, e⟩ := ob e
        refine hg_cIp (as := [vR 395, vI l4, vI 4]) (st' := [vR 395]) rfl (fun _ _ _ _ => rfl) rfl rfl (Nat.le_of_ble_eq_true rfl) (Nat.le_of_ble_eq_true rfl) (recvV A4 (a := 13) (Abs_ks A4 (i := 23) rfl).1) (t257 (by omega) A4 rl4 (rgn 4 rfl) e8) (fun r8 => ?_)
        obtain ⟨h9, e9, e⟩ := ob e
        refine ps_395_55 rfl A4 r8 e9 (fun w9 A9 => ?_)
        exact t254_j63 hcall hd rl4 r4 A9 e kb ke kr
      · refine hg_icT (tgt := 63) rfl (by decide) r4 (rgn 3 rfl) (show ¬ (v4.1 = 3) from q5) ?_
        exact t254_j63 hcall hd rl4 r4 A4 e kb ke kr
theorem t254_l3 {d : Nat} {call : Nat → List Int → hS → Option (Int × hS)} (hcall : ∀ (k : Nat) (as : List Int) (h : hS) (w : mmW) (o : Int × hS), Abs h w → (∀ a ∈ as, rg a) → call k as h = some o → hEv d k (vR 395 :: as.map vI) w (qI o)) (hd : 125 ≤ d) {l2 : Int} {l3 : Int} {z1 : Option hO} {Q : mmO → Prop} (rl2 : rg l2) (rl3 : rg l3) (n : Nat) {l4 : Int} {z5 : Option hO} {h : hS} {w : mmW} {r : (hS) ⊕ (Int × hS)} (rl4 : rg l4) (A : Abs h w) (e : lp (fun s => c254_b3 call l2 l3 s.1 s.2) n (l4, h) = some r) (ke : ∀ (x_0 : hS), r = .inl (x_0) → ∀ w', ∀ (y4 y5 : Option hO), Abs x_0 w' → hG d 254 83 [some (vr 395), z1, some (vi l2), some (vi l3), y4, y5] [] w' Q) (kr : ∀ (v1 : Int) (h1 : hS), r = .inr (v1, h1) → ∀ w', rg v1 → Abs h1 w' → Q (some (.int (Int32.ofInt v1)), w')) : hG d 254 3 [some (vr 395), z1, some (vi l2), some (vi l3), some (vi l4), z5] [] w Q := by
  induction n generalizing l4 z5 h w with
  | zero => cases e
  | succ n ih =>
    rcases lp_succ e with ⟨s1, e1, e2⟩ | e1
    · exact t254_b3 hcall hd rl2 rl3 rl4 A e1 (fun s_0 s_1 q w1 y5 rl4 A1 => by cases q; exact ih rl4 A1 e2) (fun x_0 q => by cases q) (fun v0 h0 q => by cases q)
    · exact t254_b3 hcall hd rl2 rl3 rl4 A e1 (fun s_0 s_1 q => by cases q) (fun x_0 q => by cases q; exact ke _ rfl) (fun v0 h0 q => by cases q; exact kr _ _ rfl)
def c254 (call : Nat → List Int → hS → Option (Int × hS)) (l1 : Int) (l2 : Int) (l3 : Int) (h : hS) : Option (Int × hS) :=
  (lp (fun s => c254_b3 call l2 l3 s.1 s.2) hF0 (l1, h)).bind (fun r11 => xs r11 (fun x11 =>
  some (0, x11)) (fun o11 => some o11))
theorem t254 {d : Nat} {call : Nat → List Int → hS → Option (Int × hS)} (hcall : ∀ (k : Nat) (as : List Int) (h : hS) (w : mmW) (o : Int × hS), Abs h w → (∀ a ∈ as, rg a) → call k as h = some o → hEv d k (vR 395 :: as.map vI) w (qI o)) (hd : 125 ≤ d) {l1 : Int} {l2 : Int} {l3 : Int} {h : hS} {w : mmW} {o : Int × hS} (A : Abs h w) (rl1 : rg l1) (rl2 : rg l2) (rl3 : rg l3) (e : c254 call l1 l2 l3 h = some o) : hEv (d + 1) 254 [vR 395, vI l1, vI l2, vI l3] w (qI o) := by
  refine hEv_start (args := [vr 395, vi l1, vi l2, vi l3]) (nl := 6) rfl (Nat.le_of_ble_eq_true rfl) ?_
  show hG d 254 0 [some (vr 395), some (vi l1), some (vi l2), some (vi l3), none, none] [] w _
  have kr : ∀ (v1 : Int) (h1 : hS), o = (v1, h1) → ∀ w', rg v1 → Abs h1 w' → qI o (some (.int (Int32.ofInt v1)), w') := fun v1 h1 q w' r A' => by cases q; exact ⟨rfl, r, A'⟩
  unfold c254 at e
  refine hg_run 2 (pc' := 3) (ls' := [some (vr 395), some (vi l1), some (vi l2), some (vi l3), some (vi l1), none]) (st' := []) rfl ?_
  obtain ⟨r11, e11, e⟩ := ob e
  refine t254_l3 hcall hd rl2 rl3 _ rl1 A e11 ?_ ?_
  · intro x11_0 qq11 w11 z11_4 z11_5 A11
    subst qq11
    have e := xs_l e
    refine hg_run 1 (pc' := 84) (ls' := [some (vr 395), some (vi l1), some (vi l2), some (vi l3), z11_4, z11_5]) (st' := [vI 0]) rfl ?_
    cases e
    exact hg_retI rfl (by decide) (fit_I _) (kr _ _ rfl _ (rgn 0 rfl) A11)
  · intro v11 h11 qq11 w11 r11 A11
    subst qq11
    have e := xs_r e
    cases e
    exact kr _ _ rfl w11 r11 A11
def c255_j221 (call : Nat → List Int → hS → Option (Int × hS)) (s1 : Int) (l2 : Int) (h : hS) : Option (Int × hS) :=
  (call 254 [s1, l2, 0] h).bind (fun v8 =>
  some (v8.1, v8.2))
set_option maxRecDepth 100000 in
theorem t255_j221 {d : Nat} {call : Nat → List Int → hS → Option (Int × hS)} (hcall : ∀ (k : Nat) (as : List Int) (h : hS) (w : mmW) (o : Int × hS), Abs h w → (∀ a ∈ as, rg a) → call k as h = some o → hEv d k (vR 395 :: as.map vI) w (qI o)) (hd : 125 ≤ d) {s1 : Int} {l2 : Int} {z1 : Option hO} {z3 : Option hO} {z4 : Option hO} {h : hS} {w : mmW} {o : Int × hS} {Q : mmO → Prop} (rs1 : rg s1) (rl2 : rg l2) (A : Abs h w) (e : c255_j221 call s1 l2 h = some o) (kr : ∀ (v1 : Int) (h1 : hS), o = (v1, h1) → ∀ w', rg v1 → Abs h1 w' → Q (some (.int (Int32.ofInt v1)), w')) : hG d 255 221 [some (vr 395), z1, some (vi l2), z3, z4] [vI s1, vR 395] w Q := by
  unfold c255_j221 at e
  refine hg_run 2 (pc' := 223) (ls' := [some (vr 395), z1, some (vi l2), z3, z4]) (st' := [vI 0, vI l2, vI s1, vR 395]) rfl ?_
  obtain ⟨v8, e8, e⟩ := ob e
  refine hg_cI (as := [vR 395, vI s1, vI l2, vI 0]) (st' := []) rfl (fun _ _ _ _ => rfl) rfl rfl (Nat.le_of_ble_eq_true rfl) (Nat.le_of_ble_eq_true rfl) (recvV A (a := 13) (Abs_ks A (i := 23) rfl).1) (hcall 254 _ _ _ _ A (rglc rs1 (rglc rl2 (rglc (rgn 0 rfl) rgl0))) e8) (fun w8 r8 A8 => ?_)
  cases e
  exact hg_retI rfl (by decide) (fit_I _) (kr _ _ rfl _ r8 A8)
def c255_j122 (l4 : Int) (h : hS) : Option (Int × hS) :=
  (some (sI h 395 40 (hI h 395 52))).bind (fun h23 =>
  if l4 = 21 then
  some (1, h23)
  else
  some (2, h23))
set_option maxRecDepth 100000 in
theorem t255_j122 {d : Nat} {call : Nat → List Int → hS → Option (Int × hS)} (hcall : ∀ (k : Nat) (as : List Int) (h : hS) (w : mmW) (o : Int × hS), Abs h w → (∀ a ∈ as, rg a) → call k as h = some o → hEv d k (vR 395 :: as.map vI) w (qI o)) (hd : 125 ≤ d) {l4 : Int} {z1 : Option hO} {z2 : Option hO} {z3 : Option hO} {h : hS} {w : mmW} {o : Int × hS} {Q : mmO → Prop} (rl4 : rg l4) (A : Abs h w) (e : c255_j122 l4 h = some o) (kr : ∀ (v1 : Int) (h1 : hS), o = (v1, h1) → ∀ w', rg v1 → Abs h1 w' → Q (some (.int (Int32.ofInt v1)), w')) : hG d 255 122 [some (vr 395), z1, z2, z3, some (vi l4)] [] w Q := by
  unfold c255_j122 at e
  refine hg_run 2 (pc' := 124) (ls' := [some (vr 395), z1, z2, z3, some (vi l4)]) (st' := [vR 395, vR 395]) rfl ?_
  refine gs_395_52 rfl A ?_
  obtain ⟨h23, e23, e⟩ := ob e
  refine ps_395_40 rfl A (Abs_rg A 395 52) e23 (fun w23 A23 => ?_)
  refine hg_run 2 (pc' := 134) (ls' := [some (vr 395), z1, z2, z3, some (vi l4)]) (st' := [vI 21, vI l4]) rfl ?_
  rcases oi e with ⟨q24, e⟩ | ⟨q24, e⟩
  · refine hg_icF (tgt := 141) rfl (by decide) rl4 (rgn 21 rfl) (show ¬ ¬ (l4 = 21) from fun f => f q24) ?_
    refine hg_run 2 (pc' := 142) (ls' := [some (vr 395), z1, z2, z3, some (vi l4)]) (st' := [vI 1]) rfl ?_
    cases e
    exact hg_retI rfl (by decide) (fit_I _) (kr _ _ rfl _ (rgn 1 rfl) A23)
  · refine hg_icT (tgt := 141) rfl (by decide) rl4 (rgn 21 rfl) (show ¬ (l4 = 21) from q24) ?_
    refine hg_run 1 (pc' := 142) (ls' := [some (vr 395), z1, z2, z3, some (vi l4)]) (st' := [vI 2]) rfl ?_
    cases e
    exact hg_retI rfl (by decide) (fit_I _) (kr _ _ rfl _ (rgn 2 rfl) A23)
def c255_j91 (l1 : Int) (l2 : Int) (l4 : Int) (h : hS) : Option (Int × hS) :=
  (c257 l1 1 h).bind (fun v19 =>
  (g258 120 258 [v19, l2] h).bind (fun v20 =>
  if v20.1 = 0 then
  some (2, v20.2)
  else
  if l4 = 22 then
  (some (sI v20.2 395 39 (hI v20.2 395 52))).bind (fun h25 =>
  c255_j122 l4 h25)
  else
  c255_j122 l4 v20.2))
set_option maxRecDepth 100000 in
theorem t255_j91 {d : Nat} {call : Nat → List Int → hS → Option (Int × hS)} (hcall : ∀ (k : Nat) (as : List Int) (h : hS) (w : mmW) (o : Int × hS), Abs h w → (∀ a ∈ as, rg a) → call k as h = some o → hEv d k (vR 395 :: as.map vI) w (qI o)) (hd : 125 ≤ d) {l1 : Int} {l2 : Int} {l4 : Int} {z3 : Option hO} {h : hS} {w : mmW} {o : Int × hS} {Q : mmO → Prop} (rl1 : rg l1) (rl2 : rg l2) (rl4 : rg l4) (A : Abs h w) (e : c255_j91 l1 l2 l4 h = some o) (kr : ∀ (v1 : Int) (h1 : hS), o = (v1, h1) → ∀ w', rg v1 → Abs h1 w' → Q (some (.int (Int32.ofInt v1)), w')) : hG d 255 91 [some (vr 395), some (vi l1), some (vi l2), z3, some (vi l4)] [] w Q := by
  unfold c255_j91 at e
  refine hg_run 4 (pc' := 95) (ls' := [some (vr 395), some (vi l1), some (vi l2), z3, some (vi l4)]) (st' := [vI 1, vI l1, vR 395, vR 395]) rfl ?_
  obtain ⟨v19, e19, e⟩ := ob e
  refine hg_cIp (as := [vR 395, vI l1, vI 1]) (st' := [vR 395]) rfl (fun _ _ _ _ => rfl) rfl rfl (Nat.le_of_ble_eq_true rfl) (Nat.le_of_ble_eq_true rfl) (recvV A (a := 13) (Abs_ks A (i := 23) rfl).1) (t257 (by omega) A rl1 (rgn 1 rfl) e19) (fun r19 => ?_)
  refine hg_run 1 (pc' := 99) (ls' := [some (vr 395), some (vi l1), some (vi l2), z3, some (vi l4)]) (st' := [vI l2, vI v19, vR 395]) rfl ?_
  obtain ⟨v20, e20, e⟩ := ob e
  refine hg_cI (as := [vR 395, vI v19, vI l2]) (st' := []) rfl (fun _ _ _ _ => rfl) rfl rfl (Nat.le_of_ble_eq_true rfl) (Nat.le_of_ble_eq_true rfl) (recvV A (a := 13) (Abs_ks A (i := 23) rfl).1) (u258 120 (by omega) 258 _ _ _ _ A (rglc r19 (rglc rl2 rgl0)) e20) (fun w20 r20 A20 => ?_)
  rcases oi e with ⟨q21, e⟩ | ⟨q21, e⟩
  · refine hg_ifF (tgt := 107) rfl (by decide) r20 (show ¬ ¬ (v20.1 = 0) from fun f => f q21) ?_
    refine hg_run 1 (pc' := 106) (ls' := [some (vr 395), some (vi l1), some (vi l2), z3, some (vi l4)]) (st' := [vI 2]) rfl ?_
    cases e
    exact hg_retI rfl (by decide) (fit_I _) (kr _ _ rfl _ (rgn 2 rfl) A20)
  · refine hg_ifT (tgt := 107) rfl (by decide) r20 (show ¬ (v20.1 = 0) from q21) ?_
    refine hg_run 2 (pc' := 111) (ls' := [some (vr 395), some (vi l1), some (vi l2), z3, some (vi l4)]) (st' := [vI 22, vI l4]) rfl ?_
    rcases oi e with ⟨q22, e⟩ | ⟨q22, e⟩
    · refine hg_icF (tgt := 122) rfl (by decide) rl4 (rgn 22 rfl) (show ¬ ¬ (l4 = 22) from fun f => f q22) ?_
      refine hg_run 2 (pc' := 116) (ls' := [some (vr 395), some (vi l1), some (vi l2), z3, some (vi l4)]) (st' := [vR 395, vR 395]) rfl ?_
      refine gs_395_52 rfl A20 ?_
      obtain ⟨h25, e25, e⟩ := ob e
      refine ps_395_39 rfl A20 (Abs_rg A20 395 52) e25 (fun w25 A25 => ?_)
      exact t255_j122 hcall hd rl4 A25 e kr
    · refine hg_icT (tgt := 122) rfl (by decide) rl4 (rgn 22 rfl) (show ¬ (l4 = 22) from q22) ?_
      exact t255_j122 hcall hd rl4 A20 e kr
def c255_j157 (call : Nat → List Int → hS → Option (Int × hS)) (l1 : Int) (l2 : Int) (h : hS) : Option (Int × hS) :=
  (call 267 [l1, l2] h).bind (fun v31 =>
  if v31.1 = 0 then
  some (2, v31.2)
  else
  some (0, v31.2))
set_option maxRecDepth 100000 in
theorem t255_j157 {d : Nat} {call : Nat → List Int → hS → Option (Int × hS)} (hcall : ∀ (k : Nat) (as : List Int) (h : hS) (w : mmW) (o : Int × hS), Abs h w → (∀ a ∈ as, rg a) → call k as h = some o → hEv d k (vR 395 :: as.map vI) w (qI o)) (hd : 125 ≤ d) {l1 : Int} {l2 : Int} {z3 : Option hO} {z4 : Option hO} {h : hS} {w : mmW} {o : Int × hS} {Q : mmO → Prop} (rl1 : rg l1) (rl2 : rg l2) (A : Abs h w) (e : c255_j157 call l1 l2 h = some o) (kr : ∀ (v1 : Int) (h1 : hS), o = (v1, h1) → ∀ w', rg v1 → Abs h1 w' → Q (some (.int (Int32.ofInt v1)), w')) : hG d 255 157 [some (vr 395), some (vi l1), some (vi l2), z3, z4] [] w Q := by
  unfold c255_j157 at e
  refine hg_run 3 (pc' := 160) (ls' := [some (vr 395), some (vi l1), some (vi l2), z3, z4]) (st' := [vI l2, vI l1, vR 395]) rfl ?_
  obtain ⟨v31, e31, e⟩ := ob e
  refine hg_cI (as := [vR 395, vI l1, vI l2]) (st' := []) rfl (fun _ _ _ _ => rfl) rfl rfl (Nat.le_of_ble_eq_true rfl) (Nat.le_of_ble_eq_true rfl) (recvV A (a := 13) (Abs_ks A (i := 23) rfl).1) (hcall 267 _ _ _ _ A (rglc rl1 (rglc rl2 rgl0)) e31) (fun w31 r31 A31 => ?_)
  rcases oi e with ⟨q32, e⟩ | ⟨q32, e⟩
  · refine hg_ifT (tgt := 170) rfl (by decide) r31 q32 ?_
    refine hg_run 1 (pc' := 171) (ls' := [some (vr 395), some (vi l1), some (vi l2), z3, z4]) (st' := [vI 2]) rfl ?_
    cases e
    exact hg_retI rfl (by decide) (fit_I _) (kr _ _ rfl _ (rgn 2 rfl) A31)
  · refine hg_ifF (tgt := 170) rfl (by decide) r31 q32 ?_
    refine hg_run 2 (pc' := 171) (ls' := [some (vr 395), some (vi l1), some (vi l2), z3, z4]) (st' := [vI 0]) rfl ?_
    cases e
    exact hg_retI rfl (by decide) (fit_I _) (kr _ _ rfl _ (rgn 0 rfl) A31)
def c255 (call : Nat → List Int → hS → Option (Int × hS)) (l1 : Int) (l2 : Int) (l3 : Int) (h : hS) : Option (Int × hS) :=
  (c256 l1 0 h).bind (fun v1 =>
  if v1 < 20 ∨ 26 < v1 then
  (c257 l1 1 h).bind (fun v3 =>
  (g258 120 258 [v3, l2] h).bind (fun v4 =>
  if v4.1 = 0 then
  some (2, v4.2)
  else
  if (hI v4.2 395 52) = 0 then
  (c257 l1 3 v4.2).bind (fun v7 =>
  c255_j221 call v7 l2 v4.2)
  else
  (c257 l1 2 v4.2).bind (fun v9 =>
  c255_j221 call v9 l2 v4.2)))
  else
  if v1 = 20 then
  (c257 l1 2 h).bind (fun v11 =>
  (g258 120 258 [v11, l2] h).bind (fun v12 =>
  if v12.1 = 0 then
  some (2, v12.2)
  else
  (aIs v12.2 408 21 l2).bind (fun v14 =>
  (c256 l1 1 v12.2).bind (fun v15 =>
  (c263 v14 v15 v12.2).bind (fun v16 =>
  if v16.1 = 0 then
  some (2, v16.2)
  else
  some (0, v16.2))))))
  else
  if v1 = 21 then
  c255_j91 l1 l2 v1 h
  else
  if v1 = 22 then
  c255_j91 l1 l2 v1 h
  else
  if v1 = 23 then
  (call 264 [l2] h).bind (fun v28 =>
  if v28.1 = 0 then
  some (2, v28.2)
  else
  some (0, v28.2))
  else
  if v1 = 24 then
  c255_j157 call l1 l2 h
  else
  if v1 = 25 then
  c255_j157 call l1 l2 h
  else
  if v1 = 26 then
  if l3 = 0 then
  some (0, h)
  else
  some (3, h)
  else
  none)
set_option maxRecDepth 100000 in
theorem t255 {d : Nat} {call : Nat → List Int → hS → Option (Int × hS)} (hcall : ∀ (k : Nat) (as : List Int) (h : hS) (w : mmW) (o : Int × hS), Abs h w → (∀ a ∈ as, rg a) → call k as h = some o → hEv d k (vR 395 :: as.map vI) w (qI o)) (hd : 125 ≤ d) {l1 : Int} {l2 : Int} {l3 : Int} {h : hS} {w : mmW} {o : Int × hS} (A : Abs h w) (rl1 : rg l1) (rl2 : rg l2) (rl3 : rg l3) (e : c255 call l1 l2 l3 h = some o) : hEv (d + 1) 255 [vR 395, vI l1, vI l2, vI l3] w (qI o) := by
  refine hEv_start (args := [vr 395, vi l1, vi l2, vi l3]) (nl := 5) rfl (Nat.le_of_ble_eq_true rfl) ?_
  show hG d 255 0 [some (vr 395), some (vi l1), some (vi l2), some (vi l3), none] [] w _
  have kr : ∀ (v1 : Int) (h1 : hS), o = (v1, h1) → ∀ w', rg v1 → Abs h1 w' → qI o (some (.int (Int32.ofInt v1)), w') := fun v1 h1 q w' r A' => by cases q; exact ⟨rfl, r, A'⟩
  unfold c255 at e
  refine hg_run 3 (pc' := 3) (ls' := [some (vr 395), some (vi l1), some (vi l2), some (vi l3), none]) (st' := [vI 0, vI l1, vR 395]) rfl ?_
  obtain ⟨v1, e1, e⟩ := ob e
  refine hg_cIp (as := [vR 395, vI l1, vI 0]) (st' := []) rfl (fun _ _ _ _ => rfl) rfl rfl (Nat.le_of_ble_eq_true rfl) (Nat.le_of_ble_eq_true rfl) (recvV A (a := 13) (Abs_ks A (i := 23) rfl).1) (t256 (by omega) A rl1 (rgn 0 rfl) e1) (fun r1 => ?_)
  refine hg_run 2 (pc' := 10) (ls' := [some (vr 395), some (vi l1), some (vi l2), some (vi l3), some (vi v1)]) (st' := [vI v1]) rfl ?_
  rcases oi e with ⟨q2, e⟩ | ⟨q2, e⟩
  · refine hg_tsD (tgt := 182) rfl r1 q2 (by decide) ?_
    refine hg_run 4 (pc' := 186) (ls' := [some (vr 395), some (vi l1), some (vi l2), some (vi l3), some (vi v1)]) (st' := [vI 1, vI l1, vR 395, vR 395]) rfl ?_
    obtain ⟨v3, e3, e⟩ := ob e
    refine hg_cIp (as := [vR 395, vI l1, vI 1]) (st' := [vR 395]) rfl (fun _ _ _ _ => rfl) rfl rfl (Nat.le_of_ble_eq_true rfl) (Nat.le_of_ble_eq_true rfl) (recvV A (a := 13) (Abs_ks A (i := 23) rfl).1) (t257 (by omega) A rl1 (rgn 1 rfl) e3) (fun r3 => ?_)
    refine hg_run 1 (pc' := 190) (ls' := [some (vr 395), some (vi l1), some (vi l2), some (vi l3), some (vi v1)]) (st' := [vI l2, vI v3, vR 395]) rfl ?_
    obtain ⟨v4, e4, e⟩ := ob e
    refine hg_cI (as := [vR 395, vI v3, vI l2]) (st' := []) rfl (fun _ _ _ _ => rfl) rfl rfl (Nat.le_of_ble_eq_true rfl) (Nat.le_of_ble_eq_true rfl) (recvV A (a := 13) (Abs_ks A (i := 23) rfl).1) (u258 120 (by omega) 258 _ _ _ _ A (rglc r3 (rglc rl2 rgl0)) e4) (fun w4 r4 A4 => ?_)
    rcases oi e with ⟨q5, e⟩ | ⟨q5, e⟩
    · refine hg_ifF (tgt := 198) rfl (by decide) r4 (show ¬ ¬ (v4.1 = 0) from fun f => f q5) ?_
      refine hg_run 1 (pc' := 197) (ls' := [some (vr 395), some (vi l1), some (vi l2), some (vi l3), some (vi v1)]) (st' := [vI 2]) rfl ?_
      cases e
      exact hg_retI rfl (by decide) (fit_I _) (kr _ _ rfl _ (rgn 2 rfl) A4)
    · refine hg_ifT (tgt := 198) rfl (by decide) r4 (show ¬ (v4.1 = 0) from q5) ?_
      refine hg_run 2 (pc' := 200) (ls' := [some (vr 395), some (vi l1), some (vi l2), some (vi l3), some (vi v1)]) (st' := [vR 395, vR 395]) rfl ?_
      refine gs_395_52 rfl A4 ?_
      rcases oi e with ⟨q6, e⟩ | ⟨q6, e⟩
      · refine hg_ifT (tgt := 215) rfl (by decide) (Abs_rg A4 395 52) q6 ?_
        refine hg_run 3 (pc' := 218) (ls' := [some (vr 395), some (vi l1), some (vi l2), some (vi l3), some (vi v1)]) (st' := [vI 3, vI l1, vR 395, vR 395]) rfl ?_
        obtain ⟨v7, e7, e⟩ := ob e
        refine hg_cIp (as := [vR 395, vI l1, vI 3]) (st' := [vR 395]) rfl (fun _ _ _ _ => rfl) rfl rfl (Nat.le_of_ble_eq_true rfl) (Nat.le_of_ble_eq_true rfl) (recvV A4 (a := 13) (Abs_ks A4 (i := 23) rfl).1) (t257 (by omega) A4 rl1 (rgn 3 rfl) e7) (fun r7 => ?_)
        exact t255_j221 hcall hd r7 rl2 A4 e kr
      · refine hg_ifF (tgt := 215) rfl (by decide) (Abs_rg A4 395 52) q6 ?_
        refine hg_run 3 (pc' := 209) (ls' := [some (vr 395), some (vi l1), some (vi l2), some (vi l3), some (vi v1)]) (st' := [vI 2, vI l1, vR 395, vR 395]) rfl ?_
        obtain ⟨v9, e9, e⟩ := ob e
        refine hg_cIp (as := [vR 395, vI l1, vI 2]) (st' := [vR 395]) rfl (fun _ _ _ _ => rfl) rfl rfl (Nat.le_of_ble_eq_true rfl) (Nat.le_of_ble_eq_true rfl) (recvV A4 (a := 13) (Abs_ks A4 (i := 23) rfl).1) (t257 (by omega) A4 rl1 (rgn 2 rfl) e9) (fun r9 => ?_)
        refine hg_run 1 (pc' := 221) (ls' := [some (vr 395), some (vi l1), some (vi l2), some (vi l3), some (vi v1)]) (st' := [vI v9, vR 395]) rfl ?_
        exact t255_j221 hcall hd r9 rl2 A4 e kr
  · rcases oi e with ⟨q10, e⟩ | ⟨q10, e⟩
    · refine hg_tsC (tgt := 52) rfl r1 q10 (by decide) rfl (by decide) ?_
      refine hg_run 4 (pc' := 56) (ls' := [some (vr 395), some (vi l1), some (vi l2), some (vi l3), some (vi v1)]) (st' := [vI 2, vI l1, vR 395, vR 395]) rfl ?_
      obtain ⟨v11, e11, e⟩ := ob e
      refine hg_cIp (as := [vR 395, vI l1, vI 2]) (st' := [vR 395]) rfl (fun _ _ _ _ => rfl) rfl rfl (Nat.le_of_ble_eq_true rfl) (Nat.le_of_ble_eq_true rfl) (recvV A (a := 13) (Abs_ks A (i := 23) rfl).1) (t257 (by omega) A rl1 (rgn 2 rfl) e11) (fun r11 => ?_)
      refine hg_run 1 (pc' := 60) (ls' := [some (vr 395), some (vi l1), some (vi l2), some (vi l3), some (vi v1)]) (st' := [vI l2, vI v11, vR 395]) rfl ?_
      obtain ⟨v12, e12, e⟩ := ob e
      refine hg_cI (as := [vR 395, vI v11, vI l2]) (st' := []) rfl (fun _ _ _ _ => rfl) rfl rfl (Nat.le_of_ble_eq_true rfl) (Nat.le_of_ble_eq_true rfl) (recvV A (a := 13) (Abs_ks A (i := 23) rfl).1) (u258 120 (by omega) 258 _ _ _ _ A (rglc r11 (rglc rl2 rgl0)) e12) (fun w12 r12 A12 => ?_)
      rcases oi e with ⟨q13, e⟩ | ⟨q13, e⟩
      · refine hg_ifT (tgt := 89) rfl (by decide) r12 q13 ?_
        refine hg_run 1 (pc' := 90) (ls' := [some (vr 395), some (vi l1), some (vi l2), some (vi l3), some (vi v1)]) (st' := [vI 2]) rfl ?_
        cases e
        exact hg_retI rfl (by decide) (fit_I _) (kr _ _ rfl _ (rgn 2 rfl) A12)
      · refine hg_ifF (tgt := 89) rfl (by decide) r12 q13 ?_
        refine hg_run 2 (pc' := 68) (ls' := [some (vr 395), some (vi l1), some (vi l2), some (vi l3), some (vi v1)]) (st' := [vR 395, vR 395]) rfl ?_
        refine gs_395_43 rfl A12 ?_
        refine hg_run 1 (pc' := 72) (ls' := [some (vr 395), some (vi l1), some (vi l2), some (vi l3), some (vi v1)]) (st' := [vI l2, vR 408, vR 395]) rfl ?_
        obtain ⟨v14, e14, e⟩ := ob e
        refine hg_aIs 0 rfl (fun _ _ _ _ => rfl) A12 (Abs_ks A12 (i := 36) rfl) rfl (by decide) e14 (fun r14 => ?_)
        refine hg_run 3 (pc' := 76) (ls' := [some (vr 395), some (vi l1), some (vi l2), some (vi l3), some (vi v1)]) (st' := [vI 1, vI l1, vR 395, vI v14, vR 395]) rfl ?_
        obtain ⟨v15, e15, e⟩ := ob e
        refine hg_cIp (as := [vR 395, vI l1, vI 1]) (st' := [vI v14, vR 395]) rfl (fun _ _ _ _ => rfl) rfl rfl (Nat.le_of_ble_eq_true rfl) (Nat.le_of_ble_eq_true rfl) (recvV A12 (a := 13) (Abs_ks A12 (i := 23) rfl).1) (t256 (by omega) A12 rl1 (rgn 1 rfl) e15) (fun r15 => ?_)
        obtain ⟨v16, e16, e⟩ := ob e
        refine hg_cI (as := [vR 395, vI v14, vI v15]) (st' := []) rfl (fun _ _ _ _ => rfl) rfl rfl (Nat.le_of_ble_eq_true rfl) (Nat.le_of_ble_eq_true rfl) (recvV A12 (a := 13) (Abs_ks A12 (i := 23) rfl).1) (t263 (by omega) A12 r14 r15 e16) (fun w16 r16 A16 => ?_)
        rcases oi e with ⟨q17, e⟩ | ⟨q17, e⟩
        · refine hg_ifT (tgt := 89) rfl (by decide) r16 q17 ?_
          refine hg_run 1 (pc' := 90) (ls' := [some (vr 395), some (vi l1), some (vi l2), some (vi l3), some (vi v1)]) (st' := [vI 2]) rfl ?_
          cases e
          exact hg_retI rfl (by decide) (fit_I _) (kr _ _ rfl _ (rgn 2 rfl) A16)
        · refine hg_ifF (tgt := 89) rfl (by decide) r16 q17 ?_
          refine hg_run 2 (pc' := 90) (ls' := [some (vr 395), some (vi l1), some (vi l2), some (vi l3), some (vi v1)]) (st' := [vI 0]) rfl ?_
          cases e
          exact hg_retI rfl (by decide) (fit_I _) (kr _ _ rfl _ (rgn 0 rfl) A16)
    · rcases oi e with ⟨q18, e⟩ | ⟨q18, e⟩
      · refine hg_tsC (tgt := 91) rfl r1 q18 (by decide) rfl (by decide) ?_
        exact t255_j91 hcall hd rl1 rl2 r1 A e kr
      · rcases oi e with ⟨q26, e⟩ | ⟨q26, e⟩
        · refine hg_tsC (tgt := 91) rfl r1 q26 (by decide) rfl (by decide) ?_
          exact t255_j91 hcall hd rl1 rl2 r1 A e kr
        · rcases oi e with ⟨q27, e⟩ | ⟨q27, e⟩
          · refine hg_tsC (tgt := 143) rfl r1 q27 (by decide) rfl (by decide) ?_
            refine hg_run 2 (pc' := 145) (ls' := [some (vr 395), some (vi l1), some (vi l2), some (vi l3), some (vi v1)]) (st' := [vI l2, vR 395]) rfl ?_
            obtain ⟨v28, e28, e⟩ := ob e
            refine hg_cI (as := [vR 395, vI l2]) (st' := []) rfl (fun _ _ _ _ => rfl) rfl rfl (Nat.le_of_ble_eq_true rfl) (Nat.le_of_ble_eq_true rfl) (recvV A (a := 13) (Abs_ks A (i := 23) rfl).1) (hcall 264 _ _ _ _ A (rglc rl2 rgl0) e28) (fun w28 r28 A28 => ?_)
            rcases oi e with ⟨q29, e⟩ | ⟨q29, e⟩
            · refine hg_ifT (tgt := 155) rfl (by decide) r28 q29 ?_
              refine hg_run 1 (pc' := 156) (ls' := [some (vr 395), some (vi l1), some (vi l2), some (vi l3), some (vi v1)]) (st' := [vI 2]) rfl ?_
              cases e
              exact hg_retI rfl (by decide) (fit_I _) (kr _ _ rfl _ (rgn 2 rfl) A28)
            · refine hg_ifF (tgt := 155) rfl (by decide) r28 q29 ?_
              refine hg_run 2 (pc' := 156) (ls' := [some (vr 395), some (vi l1), some (vi l2), some (vi l3), some (vi v1)]) (st' := [vI 0]) rfl ?_
              cases e
              exact hg_retI rfl (by decide) (fit_I _) (kr _ _ rfl _ (rgn 0 rfl) A28)
          · rcases oi e with ⟨q30, e⟩ | ⟨q30, e⟩
            · refine hg_tsC (tgt := 157) rfl r1 q30 (by decide) rfl (by decide) ?_
              exact t255_j157 hcall hd rl1 rl2 A e kr
            · rcases oi e with ⟨q33, e⟩ | ⟨q33, e⟩
              · refine hg_tsC (tgt := 157) rfl r1 q33 (by decide) rfl (by decide) ?_
                exact t255_j157 hcall hd rl1 rl2 A e kr
              · rcases oi e with ⟨q34, e⟩ | ⟨q34, e⟩
                · refine hg_tsC (tgt := 172) rfl r1 q34 (by decide) rfl (by decide) ?_
                  refine hg_run 1 (pc' := 173) (ls' := [some (vr 395), some (vi l1), some (vi l2), some (vi l3), some (vi v1)]) (st' := [vI l3]) rfl ?_
                  rcases oi e with ⟨q35, e⟩ | ⟨q35, e⟩
                  · refine hg_ifT (tgt := 180) rfl (by decide) rl3 q35 ?_
                    refine hg_run 1 (pc' := 181) (ls' := [some (vr 395), some (vi l1), some (vi l2), some (vi l3), some (vi v1)]) (st' := [vI 0]) rfl ?_
                    cases e
                    exact hg_retI rfl (by decide) (fit_I _) (kr _ _ rfl _ (rgn 0 rfl) A)
                  · refine hg_ifF (tgt := 180) rfl (by decide) rl3 q35 ?_
                    refine hg_run 2 (pc' := 181) (ls' := [some (vr 395), some (vi l1), some (vi l2), some (vi l3), some (vi v1)]) (st' := [vI 3]) rfl ?_
                    cases e
                    exact hg_retI rfl (by decide) (fit_I _) (kr _ _ rfl _ (rgn 3 rfl) A)
                · cases e
def c264_b46 (l1 : Int) (l2 : Int) (l3 : Int) (h : hS) : Option ((Int × hS) ⊕ (hS)) :=
  (aIs h 411 21 l1).bind (fun v5 =>
  if v5 ≤ l3 then
  some (.inr (h))
  else
  (aIs h 414 252 (wadd (wmul 12 l1) l3)).bind (fun v7 =>
  (wIs h 414 252 (wadd (wmul 12 l2) l3) v7).bind (fun h8 =>
  (aIs h8 415 252 (wadd (wmul 12 l1) l3)).bind (fun v9 =>
  (wIs h8 415 252 (wadd (wmul 12 l2) l3) v9).bind (fun h10 =>
  (aIs h10 416 252 (wadd (wmul 12 l1) l3)).bind (fun v11 =>
  (wIs h10 416 252 (wadd (wmul 12 l2) l3) v11).bind (fun h12 =>
  some (.inl ((wadd l3 1), h12)))))))))
set_option maxRecDepth 100000 in
theorem t264_b46 {d : Nat} {call : Nat → List Int → hS → Option (Int × hS)} (hcall : ∀ (k : Nat) (as : List Int) (h : hS) (w : mmW) (o : Int × hS), Abs h w → (∀ a ∈ as, rg a) → call k as h = some o → hEv d k (vR 395 :: as.map vI) w (qI o)) (hd : 125 ≤ d) {l1 : Int} {l2 : Int} {l3 : Int}  {h : hS} {w : mmW} {o : (Int × hS) ⊕ (hS)} {Q : mmO → Prop} (rl1 : rg l1) (rl2 : rg l2) (rl3 : rg l3) (A : Abs h w) (e : c264_b46 l1 l2 l3 h = some o) (kb : ∀ (s_0 : Int) (s_1 : hS), o = .inl (s_0, s_1) → ∀ w', rg s_0 → Abs s_1 w' → hG d 264 46 [some (vr 395), some (vi l1), some (vi l2), some (vi s_0)] [] w' Q) (ke : ∀ (x_0 : hS), o = .inr (x_0) → ∀ w', ∀ (y3 : Option hO), Abs x_0 w' → hG d 264 128 [some (vr 395), some (vi l1), some (vi l2), y3] [] w' Q) : hG d 264 46 [some (vr 395), some (vi l1), some (vi l2), some (vi l3)] [] w Q := by
  unfold c264_b46 at e
  refine hg_run 2 (pc' := 48) (ls' := [some (vr 395), some (vi l1), some (vi l2), some (vi l3)]) (st' := [vR 395, vI l3]) rfl ?_
  refine gs_395_46 rfl A ?_
  refine hg_run 1 (pc' := 52) (ls' := [some (vr 395), some (vi l1), some (vi l2), some (vi l3)]) (st' := [vI l1, vR 411, vI l3]) rfl ?_
  obtain ⟨v5, e5, e⟩ := ob e
  refine hg_aIs 0 rfl (fun _ _ _ _ => rfl) A (Abs_ks A (i := 39) rfl) rfl (by decide) e5 (fun r5 => ?_)
  rcases oi e with ⟨q6, e⟩ | ⟨q6, e⟩
  · refine hg_icT (tgt := 128) rfl (by decide) rl3 r5 q6 ?_
    cases e
    exact ke h rfl _ _  A
  · refine hg_icF (tgt := 128) rfl (by decide) rl3 r5 q6 ?_
    refine hg_run 1 (pc' := 57) (ls' := [some (vr 395), some (vi l1), some (vi l2), some (vi l3)]) (st' := [vR 395]) rfl ?_
    refine gs_395_49 rfl A ?_
    refine hg_run 6 (pc' := 67) (ls' := [some (vr 395), some (vi l1), some (vi l2), some (vi l3)]) (st' := [vR 395, vI (wadd (wmul 12 l2) l3), vR 414]) rfl ?_
    refine gs_395_49 rfl A ?_
    refine hg_run 5 (pc' := 76) (ls' := [some (vr 395), some (vi l1), some (vi l2), some (vi l3)]) (st' := [vI (wadd (wmul 12 l1) l3), vR 414, vI (wadd (wmul 12 l2) l3), vR 414]) rfl ?_
    obtain ⟨v7, e7, e⟩ := ob e
    refine hg_aIs 0 rfl (fun _ _ _ _ => rfl) A (Abs_ks A (i := 42) rfl) rfl (by decide) e7 (fun r7 => ?_)
    obtain ⟨h8, e8, e⟩ := ob e
    refine hg_wIs rfl A (Abs_ks A (i := 42) rfl) (by decide) r7 e8 (fun w8 A8 => ?_)
    refine hg_run 1 (pc' := 79) (ls' := [some (vr 395), some (vi l1), some (vi l2), some (vi l3)]) (st' := [vR 395]) rfl ?_
    refine gs_395_50 rfl A8 ?_
    refine hg_run 6 (pc' := 89) (ls' := [some (vr 395), some (vi l1), some (vi l2), some (vi l3)]) (st' := [vR 395, vI (wadd (wmul 12 l2) l3), vR 415]) rfl ?_
    refine gs_395_50 rfl A8 ?_
    refine hg_run 5 (pc' := 98) (ls' := [some (vr 395), some (vi l1), some (vi l2), some (vi l3)]) (st' := [vI (wadd (wmul 12 l1) l3), vR 415, vI (wadd (wmul 12 l2) l3), vR 415]) rfl ?_
    obtain ⟨v9, e9, e⟩ := ob e
    refine hg_aIs 0 rfl (fun _ _ _ _ => rfl) A8 (Abs_ks A8 (i := 43) rfl) rfl (by decide) e9 (fun r9 => ?_)
    obtain ⟨h10, e10, e⟩ := ob e
    refine hg_wIs rfl A8 (Abs_ks A8 (i := 43) rfl) (by decide) r9 e10 (fun w10 A10 => ?_)
    refine hg_run 1 (pc' := 101) (ls' := [some (vr 395), some (vi l1), some (vi l2), some (vi l3)]) (st' := [vR 395]) rfl ?_
    refine gs_395_51 rfl A10 ?_
    refine hg_run 6 (pc' := 111) (ls' := [some (vr 395), some (vi l1), some (vi l2), some (vi l3)]) (st' := [vR 395, vI (wadd (wmul 12 l2) l3), vR 416]) rfl ?_
    refine gs_395_51 rfl A10 ?_
    refine hg_run 5 (pc' := 120) (ls' := [some (vr 395), some (vi l1), some (vi l2), some (vi l3)]) (st' := [vI (wadd (wmul 12 l1) l3), vR 416, vI (wadd (wmul 12 l2) l3), vR 416]) rfl ?_
    obtain ⟨v11, e11, e⟩ := ob e
    refine hg_aIs 0 rfl (fun _ _ _ _ => rfl) A10 (Abs_ks A10 (i := 44) rfl) rfl (by decide) e11 (fun r11 => ?_)
    obtain ⟨h12, e12, e⟩ := ob e
    refine hg_wIs rfl A10 (Abs_ks A10 (i := 44) rfl) (by decide) r11 e12 (fun w12 A12 => ?_)
    refine hg_run 2 (pc' := 46) (ls' := [some (vr 395), some (vi l1), some (vi l2), some (vi (wadd l3 1))]) (st' := []) rfl ?_
    cases e
    exact kb (wadd l3 1) h12 rfl _ (rg_add _ _) A12
set_option maxRecDepth 100000 in
theorem t264_l46 {d : Nat} {call : Nat → List Int → hS → Option (Int × hS)} (hcall : ∀ (k : Nat) (as : List Int) (h : hS) (w : mmW) (o : Int × hS), Abs h w → (∀ a ∈ as, rg a) → call k as h = some o → hEv d k (vR 395 :: as.map vI) w (qI o)) (hd : 125 ≤ d) {l1 : Int} {l2 : Int}  {Q : mmO → Prop} (rl1 : rg l1) (rl2 : rg l2) (n : Nat) {l3 : Int}  {h : hS} {w : mmW} {r : hS} (rl3 : rg l3) (A : Abs h w) (e : lp (fun s => c264_b46 l1 l2 s.1 s.2) n (l3, h) = some r) (ke : ∀ (x_0 : hS), r = (x_0) → ∀ w', ∀ (y3 : Option hO), Abs x_0 w' → hG d 264 128 [some (vr 395), some (vi l1), some (vi l2), y3] [] w' Q) : hG d 264 46 [some (vr 395), some (vi l1), some (vi l2), some (vi l3)] [] w Q := by
  induction n generalizing l3 h w with
  | zero => cases e
  | succ n ih =>
    rcases lp_succ e with ⟨s1, e1, e2⟩ | e1
    · exact t264_b46 hcall hd rl1 rl2 rl3 A e1 (fun s_0 s_1 q w1 rl3 A1 => by cases q; exact ih rl3 A1 e2) (fun x_0 q => by cases q)
    · exact t264_b46 hcall hd rl1 rl2 rl3 A e1 (fun s_0 s_1 q => by cases q) (fun x_0 q => by cases q; exact ke _ rfl)
def c264 (call : Nat → List Int → hS → Option (Int × hS)) (l1 : Int) (h : hS) : Option (Int × hS) :=
  (aIs h 412 21 l1).bind (fun v1 =>
  (aIs h 411 21 l1).bind (fun v2 =>
  if (wadd v1 1) = v2 then
  (wIs h 410 21 l1 0).bind (fun h29 =>
  some (1, h29))
  else
  if l1 = 20 then
  (c261 1005 h).bind (fun v27 =>
  (kB v27.1).bind (fun u28 =>
  some (v27.1, v27.2)))
  else
  (lp (fun s => c264_b46 l1 (wadd l1 1) s.1 s.2) hF0 (0, h)).bind (fun r13 =>
  (aIs r13 411 21 l1).bind (fun v14 =>
  (wIs r13 411 21 (wadd l1 1) v14).bind (fun h15 =>
  (aIs h15 412 21 l1).bind (fun v16 =>
  (wIs h15 412 21 (wadd l1 1) (wadd v16 1)).bind (fun h17 =>
  (aIs h17 408 21 l1).bind (fun v18 =>
  (wIs h17 408 21 (wadd l1 1) v18).bind (fun h19 =>
  (aIs h19 409 21 l1).bind (fun v20 =>
  (wIs h19 409 21 (wadd l1 1) v20).bind (fun h21 =>
  (wIs h21 410 21 (wadd l1 1) 0).bind (fun h22 =>
  (aIs h22 413 21 l1).bind (fun v23 =>
  (wIs h22 413 21 (wadd l1 1) v23).bind (fun h24 =>
  (call 265 [(wadd l1 1)] h24).bind (fun v25 =>
  (kB v25.1).bind (fun u26 =>
  some (v25.1, v25.2)))))))))))))))))
set_option maxRecDepth 100000 in
theorem t264 {d : Nat} {call : Nat → List Int → hS → Option (Int × hS)} (hcall : ∀ (k : Nat) (as : List Int) (h : hS) (w : mmW) (o : Int × hS), Abs h w → (∀ a ∈ as, rg a) → call k as h = some o → hEv d k (vR 395 :: as.map vI) w (qI o)) (hd : 125 ≤ d) {l1 : Int} {h : hS} {w : mmW} {o : Int × hS} (A : Abs h w) (rl1 : rg l1) (e : c264 call l1 h = some o) : hEv (d + 1) 264 [vR 395, vI l1] w (qI o) := by
  refine hEv_start (args := [vr 395, vi l1]) (nl := 4) rfl (Nat.le_of_ble_eq_true rfl) ?_
  show hG d 264 0 [some (vr 395), some (vi l1), none, none] [] w _
  have kr : ∀ (v1 : Int) (h1 : hS), o = (v1, h1) → ∀ w', rg v1 → Abs h1 w' → qI o (some (.int (Int32.ofInt v1)), w') := fun v1 h1 q w' r A' => by cases q; exact ⟨rfl, r, A'⟩
  unfold c264 at e
  refine hg_run 1 (pc' := 1) (ls' := [some (vr 395), some (vi l1), none, none]) (st' := [vR 395]) rfl ?_
  refine gs_395_47 rfl A ?_
  refine hg_run 1 (pc' := 5) (ls' := [some (vr 395), some (vi l1), none, none]) (st' := [vI l1, vR 412]) rfl ?_
  obtain ⟨v1, e1, e⟩ := ob e
  refine hg_aIs 0 rfl (fun _ _ _ _ => rfl) A (Abs_ks A (i := 40) rfl) rfl (by decide) e1 (fun r1 => ?_)
  refine hg_run 3 (pc' := 9) (ls' := [some (vr 395), some (vi l1), none, none]) (st' := [vR 395, vI (wadd v1 1)]) rfl ?_
  refine gs_395_46 rfl A ?_
  refine hg_run 1 (pc' := 13) (ls' := [some (vr 395), some (vi l1), none, none]) (st' := [vI l1, vR 411, vI (wadd v1 1)]) rfl ?_
  obtain ⟨v2, e2, e⟩ := ob e
  refine hg_aIs 0 rfl (fun _ _ _ _ => rfl) A (Abs_ks A (i := 39) rfl) rfl (by decide) e2 (fun r2 => ?_)
  rcases oi e with ⟨q3, e⟩ | ⟨q3, e⟩
  · refine hg_icF (tgt := 26) rfl (by decide) (rg_add _ _) r2 (show ¬ ¬ ((wadd v1 1) = v2) from fun f => f q3) ?_
    refine hg_run 1 (pc' := 18) (ls' := [some (vr 395), some (vi l1), none, none]) (st' := [vR 395]) rfl ?_
    refine gs_395_45 rfl A ?_
    refine hg_run 2 (pc' := 23) (ls' := [some (vr 395), some (vi l1), none, none]) (st' := [vI 0, vI l1, vR 410]) rfl ?_
    obtain ⟨h29, e29, e⟩ := ob e
    refine hg_wIs rfl A (Abs_ks A (i := 38) rfl) (by decide) (rgn 0 rfl) e29 (fun w29 A29 => ?_)
    refine hg_run 1 (pc' := 25) (ls' := [some (vr 395), some (vi l1), none, none]) (st' := [vI 1]) rfl ?_
    cases e
    exact hg_retI rfl (by decide) (fit_B (.inr rfl)) (kr _ _ rfl _ (rgn 1 rfl) A29)
  · refine hg_icT (tgt := 26) rfl (by decide) (rg_add _ _) r2 (show ¬ ((wadd v1 1) = v2) from q3) ?_
    refine hg_run 2 (pc' := 29) (ls' := [some (vr 395), some (vi l1), none, none]) (st' := [vI 20, vI l1]) rfl ?_
    rcases oi e with ⟨q4, e⟩ | ⟨q4, e⟩
    · refine hg_icF (tgt := 40) rfl (by decide) rl1 (rgn 20 rfl) (show ¬ ¬ (l1 = 20) from fun f => f q4) ?_
      refine hg_run 2 (pc' := 36) (ls' := [some (vr 395), some (vi l1), none, none]) (st' := [vI 1005, vR 395]) rfl ?_
      obtain ⟨v27, e27, e⟩ := ob e
      refine hg_cI (as := [vR 395, vI 1005]) (st' := []) rfl (fun _ _ _ _ => rfl) rfl rfl (Nat.le_of_ble_eq_true rfl) (Nat.le_of_ble_eq_true rfl) (recvV A (a := 13) (Abs_ks A (i := 23) rfl).1) (t261 (by omega) A (rgn 1005 rfl) e27) (fun w27 r27 A27 => ?_)
      obtain ⟨u28, e28, e⟩ := ob e
      cases e
      exact hg_retI rfl (by decide) (fit_B (kB_e e28)) (kr _ _ rfl _ r27 A27)
    · refine hg_icT (tgt := 40) rfl (by decide) rl1 (rgn 20 rfl) (show ¬ (l1 = 20) from q4) ?_
      refine hg_run 6 (pc' := 46) (ls' := [some (vr 395), some (vi l1), some (vi (wadd l1 1)), some (vi 0)]) (st' := []) rfl ?_
      obtain ⟨r13, e13, e⟩ := ob e
      refine t264_l46 hcall hd rl1 (rg_add _ _) _ (rgn 0 rfl) A e13 ?_
      intro x13_0 qq13 w13 z13_3 A13
      subst qq13
      refine hg_run 1 (pc' := 129) (ls' := [some (vr 395), some (vi l1), some (vi (wadd l1 1)), z13_3]) (st' := [vR 395]) rfl ?_
      refine gs_395_46 rfl A13 ?_
      refine hg_run 2 (pc' := 134) (ls' := [some (vr 395), some (vi l1), some (vi (wadd l1 1)), z13_3]) (st' := [vR 395, vI (wadd l1 1), vR 411]) rfl ?_
      refine gs_395_46 rfl A13 ?_
      refine hg_run 1 (pc' := 138) (ls' := [some (vr 395), some (vi l1), some (vi (wadd l1 1)), z13_3]) (st' := [vI l1, vR 411, vI (wadd l1 1), vR 411]) rfl ?_
      obtain ⟨v14, e14, e⟩ := ob e
      refine hg_aIs 0 rfl (fun _ _ _ _ => rfl) A13 (Abs_ks A13 (i := 39) rfl) rfl (by decide) e14 (fun r14 => ?_)
      obtain ⟨h15, e15, e⟩ := ob e
      refine hg_wIs rfl A13 (Abs_ks A13 (i := 39) rfl) (by decide) r14 e15 (fun w15 A15 => ?_)
      refine hg_run 1 (pc' := 141) (ls' := [some (vr 395), some (vi l1), some (vi (wadd l1 1)), z13_3]) (st' := [vR 395]) rfl ?_
      refine gs_395_47 rfl A15 ?_
      refine hg_run 2 (pc' := 146) (ls' := [some (vr 395), some (vi l1), some (vi (wadd l1 1)), z13_3]) (st' := [vR 395, vI (wadd l1 1), vR 412]) rfl ?_
      refine gs_395_47 rfl A15 ?_
      refine hg_run 1 (pc' := 150) (ls' := [some (vr 395), some (vi l1), some (vi (wadd l1 1)), z13_3]) (st' := [vI l1, vR 412, vI (wadd l1 1), vR 412]) rfl ?_
      obtain ⟨v16, e16, e⟩ := ob e
      refine hg_aIs 0 rfl (fun _ _ _ _ => rfl) A15 (Abs_ks A15 (i := 40) rfl) rfl (by decide) e16 (fun r16 => ?_)
      refine hg_run 2 (pc' := 153) (ls' := [some (vr 395), some (vi l1), some (vi (wadd l1 1)), z13_3]) (st' := [vI (wadd v16 1), vI (wadd l1 1), vR 412]) rfl ?_
      obtain ⟨h17, e17, e⟩ := ob e
      refine hg_wIs rfl A15 (Abs_ks A15 (i := 40) rfl) (by decide) (rg_add _ _) e17 (fun w17 A17 => ?_)
      refine hg_run 1 (pc' := 155) (ls' := [some (vr 395), some (vi l1), some (vi (wadd l1 1)), z13_3]) (st' := [vR 395]) rfl ?_
      refine gs_395_43 rfl A17 ?_
      refine hg_run 2 (pc' := 160) (ls' := [some (vr 395), some (vi l1), some (vi (wadd l1 1)), z13_3]) (st' := [vR 395, vI (wadd l1 1), vR 408]) rfl ?_
      refine gs_395_43 rfl A17 ?_
      refine hg_run 1 (pc' := 164) (ls' := [some (vr 395), some (vi l1), some (vi (wadd l1 1)), z13_3]) (st' := [vI l1, vR 408, vI (wadd l1 1), vR 408]) rfl ?_
      obtain ⟨v18, e18, e⟩ := ob e
      refine hg_aIs 0 rfl (fun _ _ _ _ => rfl) A17 (Abs_ks A17 (i := 36) rfl) rfl (by decide) e18 (fun r18 => ?_)
      obtain ⟨h19, e19, e⟩ := ob e
      refine hg_wIs rfl A17 (Abs_ks A17 (i := 36) rfl) (by decide) r18 e19 (fun w19 A19 => ?_)
      refine hg_run 1 (pc' := 167) (ls' := [some (vr 395), some (vi l1), some (vi (wadd l1 1)), z13_3]) (st' := [vR 395]) rfl ?_
      refine gs_395_44 rfl A19 ?_
      refine hg_run 2 (pc' := 172) (ls' := [some (vr 395), some (vi l1), some (vi (wadd l1 1)), z13_3]) (st' := [vR 395, vI (wadd l1 1), vR 409]) rfl ?_
      refine gs_395_44 rfl A19 ?_
      refine hg_run 1 (pc' := 176) (ls' := [some (vr 395), some (vi l1), some (vi (wadd l1 1)), z13_3]) (st' := [vI l1, vR 409, vI (wadd l1 1), vR 409]) rfl ?_
      obtain ⟨v20, e20, e⟩ := ob e
      refine hg_aIs 0 rfl (fun _ _ _ _ => rfl) A19 (Abs_ks A19 (i := 37) rfl) rfl (by decide) e20 (fun r20 => ?_)
      obtain ⟨h21, e21, e⟩ := ob e
      refine hg_wIs rfl A19 (Abs_ks A19 (i := 37) rfl) (by decide) r20 e21 (fun w21 A21 => ?_)
      refine hg_run 1 (pc' := 179) (ls' := [some (vr 395), some (vi l1), some (vi (wadd l1 1)), z13_3]) (st' := [vR 395]) rfl ?_
      refine gs_395_45 rfl A21 ?_
      refine hg_run 2 (pc' := 184) (ls' := [some (vr 395), some (vi l1), some (vi (wadd l1 1)), z13_3]) (st' := [vI 0, vI (wadd l1 1), vR 410]) rfl ?_
      obtain ⟨h22, e22, e⟩ := ob e
      refine hg_wIs rfl A21 (Abs_ks A21 (i := 38) rfl) (by decide) (rgn 0 rfl) e22 (fun w22 A22 => ?_)
      refine hg_run 1 (pc' := 186) (ls' := [some (vr 395), some (vi l1), some (vi (wadd l1 1)), z13_3]) (st' := [vR 395]) rfl ?_
      refine gs_395_48 rfl A22 ?_
      refine hg_run 2 (pc' := 191) (ls' := [some (vr 395), some (vi l1), some (vi (wadd l1 1)), z13_3]) (st' := [vR 395, vI (wadd l1 1), vR 413]) rfl ?_
      refine gs_395_48 rfl A22 ?_
      refine hg_run 1 (pc' := 195) (ls' := [some (vr 395), some (vi l1), some (vi (wadd l1 1)), z13_3]) (st' := [vI l1, vR 413, vI (wadd l1 1), vR 413]) rfl ?_
      obtain ⟨v23, e23, e⟩ := ob e
      refine hg_aIs 0 rfl (fun _ _ _ _ => rfl) A22 (Abs_ks A22 (i := 41) rfl) rfl (by decide) e23 (fun r23 => ?_)
      obtain ⟨h24, e24, e⟩ := ob e
      refine hg_wIs rfl A22 (Abs_ks A22 (i := 41) rfl) (by decide) r23 e24 (fun w24 A24 => ?_)
      refine hg_run 2 (pc' := 199) (ls' := [some (vr 395), some (vi l1), some (vi (wadd l1 1)), z13_3]) (st' := [vI (wadd l1 1), vR 395]) rfl ?_
      obtain ⟨v25, e25, e⟩ := ob e
      refine hg_cI (as := [vR 395, vI (wadd l1 1)]) (st' := []) rfl (fun _ _ _ _ => rfl) rfl rfl (Nat.le_of_ble_eq_true rfl) (Nat.le_of_ble_eq_true rfl) (recvV A24 (a := 13) (Abs_ks A24 (i := 23) rfl).1) (hcall 265 _ _ _ _ A24 (rglc (rg_add _ _) rgl0) e25) (fun w25 r25 A25 => ?_)
      obtain ⟨u26, e26, e⟩ := ob e
      cases e
      exact hg_retI rfl (by decide) (fit_B (kB_e e26)) (kr _ _ rfl _ r25 A25)
def c265_j60 (s1 : Int) (s2 : Int) (h : hS) : Option (Int × hS) :=
  (wIs h 410 21 s1 s2).bind (fun h8 =>
  some (1, h8))
theorem t265_j60 {d : Nat} {call : Nat → List Int → hS → Option (Int × hS)} (hcall : ∀ (k : Nat) (as : List Int) (h : hS) (w : mmW) (o : Int × hS), Abs h w → (∀ a ∈ as, rg a) → call k as h = some o → hEv d k (vR 395 :: as.map vI) w (qI o)) (hd : 125 ≤ d) {s1 : Int} {s2 : Int} {z1 : Option hO} {z2 : Option hO} {h : hS} {w : mmW} {o : Int × hS} {Q : mmO → Prop} (rs1 : rg s1) (rs2 : rg s2) (A : Abs h w) (e : c265_j60 s1 s2 h = some o) (kr : ∀ (v1 : Int) (h1 : hS), o = (v1, h1) → ∀ w', rg v1 → Abs h1 w' → Q (some (.int (Int32.ofInt v1)), w')) : hG d 265 60 [some (vr 395), z1, z2] [vI s2, vI s1, vR 410] w Q := by
  unfold c265_j60 at e
  obtain ⟨h8, e8, e⟩ := ob e
  refine hg_wIs rfl A (Abs_ks A (i := 38) rfl) (by decide) rs2 e8 (fun w8 A8 => ?_)
  refine hg_run 1 (pc' := 62) (ls' := [some (vr 395), z1, z2]) (st' := [vI 1]) rfl ?_
  cases e
  exact hg_retI rfl (by decide) (fit_B (.inr rfl)) (kr _ _ rfl _ (rgn 1 rfl) A8)
def c265 (call : Nat → List Int → hS → Option (Int × hS)) (l1 : Int) (h : hS) : Option (Int × hS) :=
  (c266 l1 h).bind (fun h1 =>
  (some (sI h1 395 40 0)).bind (fun h2 =>
  (aIs h2 412 21 l1).bind (fun v3 =>
  (aIs h2 414 252 (wadd (wmul 12 l1) v3)).bind (fun v4 =>
  (call 254 [v4, l1, 0] h2).bind (fun v5 =>
  if v5.1 = 2 then
  some (0, v5.2)
  else
  if v5.1 = 1 then
  c265_j60 (wsub l1 1) (hI v5.2 395 40) v5.2
  else
  c265_j60 (wsub l1 1) 0 v5.2)))))
theorem t265 {d : Nat} {call : Nat → List Int → hS → Option (Int × hS)} (hcall : ∀ (k : Nat) (as : List Int) (h : hS) (w : mmW) (o : Int × hS), Abs h w → (∀ a ∈ as, rg a) → call k as h = some o → hEv d k (vR 395 :: as.map vI) w (qI o)) (hd : 125 ≤ d) {l1 : Int} {h : hS} {w : mmW} {o : Int × hS} (A : Abs h w) (rl1 : rg l1) (e : c265 call l1 h = some o) : hEv (d + 1) 265 [vR 395, vI l1] w (qI o) := by
  refine hEv_start (args := [vr 395, vi l1]) (nl := 3) rfl (Nat.le_of_ble_eq_true rfl) ?_
  show hG d 265 0 [some (vr 395), some (vi l1), none] [] w _
  have kr : ∀ (v1 : Int) (h1 : hS), o = (v1, h1) → ∀ w', rg v1 → Abs h1 w' → qI o (some (.int (Int32.ofInt v1)), w') := fun v1 h1 q w' r A' => by cases q; exact ⟨rfl, r, A'⟩
  unfold c265 at e
  refine hg_run 2 (pc' := 2) (ls' := [some (vr 395), some (vi l1), none]) (st' := [vI l1, vR 395]) rfl ?_
  obtain ⟨h1, e1, e⟩ := ob e
  refine hg_cV (as := [vR 395, vI l1]) (st' := []) rfl (fun _ _ _ _ => rfl) rfl rfl (Nat.le_of_ble_eq_true rfl) (Nat.le_of_ble_eq_true rfl) (recvV A (a := 13) (Abs_ks A (i := 23) rfl).1) (t266 (by omega) A rl1 e1) (fun w1 A1 => ?_)
  refine hg_run 2 (pc' := 7) (ls' := [some (vr 395), some (vi l1), none]) (st' := [vI 0, vR 395]) rfl ?_
  obtain ⟨h2, e2, e⟩ := ob e
  refine ps_395_40 rfl A1 (rgn 0 rfl) e2 (fun w2 A2 => ?_)
  refine hg_run 2 (pc' := 12) (ls' := [some (vr 395), some (vi l1), none]) (st' := [vR 395, vR 395]) rfl ?_
  refine gs_395_49 rfl A2 ?_
  refine hg_run 4 (pc' := 20) (ls' := [some (vr 395), some (vi l1), none]) (st' := [vR 395, vI (wmul 12 l1), vR 414, vR 395]) rfl ?_
  refine gs_395_47 rfl A2 ?_
  refine hg_run 1 (pc' := 24) (ls' := [some (vr 395), some (vi l1), none]) (st' := [vI l1, vR 412, vI (wmul 12 l1), vR 414, vR 395]) rfl ?_
  obtain ⟨v3, e3, e⟩ := ob e
  refine hg_aIs 0 rfl (fun _ _ _ _ => rfl) A2 (Abs_ks A2 (i := 40) rfl) rfl (by decide) e3 (fun r3 => ?_)
  refine hg_run 1 (pc' := 26) (ls' := [some (vr 395), some (vi l1), none]) (st' := [vI (wadd (wmul 12 l1) v3), vR 414, vR 395]) rfl ?_
  obtain ⟨v4, e4, e⟩ := ob e
  refine hg_aIs 0 rfl (fun _ _ _ _ => rfl) A2 (Abs_ks A2 (i := 42) rfl) rfl (by decide) e4 (fun r4 => ?_)
  refine hg_run 2 (pc' := 29) (ls' := [some (vr 395), some (vi l1), none]) (st' := [vI 0, vI l1, vI v4, vR 395]) rfl ?_
  obtain ⟨v5, e5, e⟩ := ob e
  refine hg_cI (as := [vR 395, vI v4, vI l1, vI 0]) (st' := []) rfl (fun _ _ _ _ => rfl) rfl rfl (Nat.le_of_ble_eq_true rfl) (Nat.le_of_ble_eq_true rfl) (recvV A2 (a := 13) (Abs_ks A2 (i := 23) rfl).1) (hcall 254 _ _ _ _ A2 (rglc r4 (rglc rl1 (rglc (rgn 0 rfl) rgl0))) e5) (fun w5 r5 A5 => ?_)
  refine hg_run 3 (pc' := 35) (ls' := [some (vr 395), some (vi l1), some (vi v5.1)]) (st' := [vI 2, vI v5.1]) rfl ?_
  rcases oi e with ⟨q6, e⟩ | ⟨q6, e⟩
  · refine hg_icF (tgt := 40) rfl (by decide) r5 (rgn 2 rfl) (show ¬ ¬ (v5.1 = 2) from fun f => f q6) ?_
    refine hg_run 1 (pc' := 39) (ls' := [some (vr 395), some (vi l1), some (vi v5.1)]) (st' := [vI 0]) rfl ?_
    cases e
    exact hg_retI rfl (by decide) (fit_B (.inl rfl)) (kr _ _ rfl _ (rgn 0 rfl) A5)
  · refine hg_icT (tgt := 40) rfl (by decide) r5 (rgn 2 rfl) (show ¬ (v5.1 = 2) from q6) ?_
    refine hg_run 1 (pc' := 41) (ls' := [some (vr 395), some (vi l1), some (vi v5.1)]) (st' := [vR 395]) rfl ?_
    refine gs_395_45 rfl A5 ?_
    refine hg_run 5 (pc' := 49) (ls' := [some (vr 395), some (vi l1), some (vi v5.1)]) (st' := [vI 1, vI v5.1, vI (wsub l1 1), vR 410]) rfl ?_
    rcases oi e with ⟨q7, e⟩ | ⟨q7, e⟩
    · refine hg_icF (tgt := 59) rfl (by decide) r5 (rgn 1 rfl) (show ¬ ¬ (v5.1 = 1) from fun f => f q7) ?_
      refine hg_run 1 (pc' := 53) (ls' := [some (vr 395), some (vi l1), some (vi v5.1)]) (st' := [vR 395, vI (wsub l1 1), vR 410]) rfl ?_
      refine gs_395_40 rfl A5 ?_
      refine hg_run 1 (pc' := 60) (ls' := [some (vr 395), some (vi l1), some (vi v5.1)]) (st' := [vI (hI v5.2 395 40), vI (wsub l1 1), vR 410]) rfl ?_
      exact t265_j60 hcall hd (rg_sub _ _) (Abs_rg A5 395 40) A5 e kr
    · refine hg_icT (tgt := 59) rfl (by decide) r5 (rgn 1 rfl) (show ¬ (v5.1 = 1) from q7) ?_
      refine hg_run 1 (pc' := 60) (ls' := [some (vr 395), some (vi l1), some (vi v5.1)]) (st' := [vI 0, vI (wsub l1 1), vR 410]) rfl ?_
      exact t265_j60 hcall hd (rg_sub _ _) (rgn 0 rfl) A5 e kr
def c267_j201 (s0 : Int) (l6 : Int) (h : hS) : Option ((Int × Int) ⊕ (Int)) :=
  (c199 0 l6 1 h).bind (fun v8 =>
  some (.inl (s0, v8)))
set_option maxRecDepth 100000 in
theorem t267_j201 {d : Nat} {call : Nat → List Int → hS → Option (Int × hS)} (hcall : ∀ (k : Nat) (as : List Int) (h : hS) (w : mmW) (o : Int × hS), Abs h w → (∀ a ∈ as, rg a) → call k as h = some o → hEv d k (vR 395 :: as.map vI) w (qI o)) (hd : 125 ≤ d) {s0 : Int} {l6 : Int} {z1 : Option hO} {l2 : Int} {l3 : Int} {l4 : Int} {z5 : Option hO} {h : hS} {w : mmW} {o : (Int × Int) ⊕ (Int)} {Q : mmO → Prop} (rs0 : rg s0) (rl6 : rg l6) (A : Abs h w) (e : c267_j201 s0 l6 h = some o) (kb : ∀ (s_0 : Int) (s_1 : Int), o = .inl (s_0, s_1) → rg s_0 → rg s_1 → hG d 267 172 [some (vr 395), z1, some (vi l2), some (vi l3), some (vi l4), some (vi s_0), some (vi s_1)] [] w Q) (ke : ∀ (x_0 : Int), o = .inr (x_0) → ∀ (y6 : Option hO), rg x_0 → hG d 267 216 [some (vr 395), z1, some (vi l2), some (vi l3), some (vi l4), some (vi x_0), y6] [] w Q) : hG d 267 201 [some (vr 395), z1, some (vi l2), some (vi l3), some (vi l4), z5, some (vi l6)] [vI s0] w Q := by
  unfold c267_j201 at e
  refine hg_run 5 (pc' := 208) (ls' := [some (vr 395), z1, some (vi l2), some (vi l3), some (vi l4), some (vi s0), some (vi l6)]) (st' := [vI 1, vI l6, vI 0, vR 395]) rfl ?_
  obtain ⟨v8, e8, e⟩ := ob e
  refine hg_cIp (as := [vR 395, vI 0, vI l6, vI 1]) (st' := []) rfl (fun _ _ _ _ => rfl) rfl rfl (Nat.le_of_ble_eq_true rfl) (Nat.le_of_ble_eq_true rfl) (recvV A (a := 13) (Abs_ks A (i := 23) rfl).1) (t199 (by omega) A (rgn 0 rfl) rl6 (rgn 1 rfl) e8) (fun r8 => ?_)
  refine hg_run 2 (pc' := 172) (ls' := [some (vr 395), z1, some (vi l2), some (vi l3), some (vi l4), some (vi s0), some (vi v8)]) (st' := []) rfl ?_
  cases e
  exact kb s0 v8 rfl rs0 r8
def c267_j196 (l6 : Int) (h : hS) : Option ((Int × Int) ⊕ (Int)) :=
  c267_j201 1 l6 h
set_option maxRecDepth 100000 in
theorem t267_j196 {d : Nat} {call : Nat → List Int → hS → Option (Int × hS)} (hcall : ∀ (k : Nat) (as : List Int) (h : hS) (w : mmW) (o : Int × hS), Abs h w → (∀ a ∈ as, rg a) → call k as h = some o → hEv d k (vR 395 :: as.map vI) w (qI o)) (hd : 125 ≤ d) {l6 : Int} {z1 : Option hO} {l2 : Int} {l3 : Int} {l4 : Int} {z5 : Option hO} {h : hS} {w : mmW} {o : (Int × Int) ⊕ (Int)} {Q : mmO → Prop} (rl6 : rg l6) (A : Abs h w) (e : c267_j196 l6 h = some o) (kb : ∀ (s_0 : Int) (s_1 : Int), o = .inl (s_0, s_1) → rg s_0 → rg s_1 → hG d 267 172 [some (vr 395), z1, some (vi l2), some (vi l3), some (vi l4), some (vi s_0), some (vi s_1)] [] w Q) (ke : ∀ (x_0 : Int), o = .inr (x_0) → ∀ (y6 : Option hO), rg x_0 → hG d 267 216 [some (vr 395), z1, some (vi l2), some (vi l3), some (vi l4), some (vi x_0), y6] [] w Q) : hG d 267 196 [some (vr 395), z1, some (vi l2), some (vi l3), some (vi l4), z5, some (vi l6)] [] w Q := by
  unfold c267_j196 at e
  refine hg_run 2 (pc' := 201) (ls' := [some (vr 395), z1, some (vi l2), some (vi l3), some (vi l4), z5, some (vi l6)]) (st' := [vI 1]) rfl ?_
  exact t267_j201 hcall hd (rgn 1 rfl) rl6 A e kb ke
def c267_b172 (l4 : Int) (h : hS) (l5 : Int) (l6 : Int) : Option ((Int × Int) ⊕ (Int)) :=
  if l6 = (-1) then
  some (.inr (l5))
  else
  if l5 = 0 then
  (c205 0 l6 l4 h).bind (fun v9 =>
  if v9 = (-1) then
  c267_j201 0 l6 h
  else
  c267_j196 l6 h)
  else
  c267_j196 l6 h
set_option maxRecDepth 100000 in
theorem t267_b172 {d : Nat} {call : Nat → List Int → hS → Option (Int × hS)} (hcall : ∀ (k : Nat) (as : List Int) (h : hS) (w : mmW) (o : Int × hS), Abs h w → (∀ a ∈ as, rg a) → call k as h = some o → hEv d k (vR 395 :: as.map vI) w (qI o)) (hd : 125 ≤ d) {l4 : Int} {l5 : Int} {l6 : Int} {z1 : Option hO} {l2 : Int} {l3 : Int} {h : hS} {w : mmW} {o : (Int × Int) ⊕ (Int)} {Q : mmO → Prop} (rl4 : rg l4) (rl5 : rg l5) (rl6 : rg l6) (A : Abs h w) (e : c267_b172 l4 h l5 l6 = some o) (kb : ∀ (s_0 : Int) (s_1 : Int), o = .inl (s_0, s_1) → rg s_0 → rg s_1 → hG d 267 172 [some (vr 395), z1, some (vi l2), some (vi l3), some (vi l4), some (vi s_0), some (vi s_1)] [] w Q) (ke : ∀ (x_0 : Int), o = .inr (x_0) → ∀ (y6 : Option hO), rg x_0 → hG d 267 216 [some (vr 395), z1, some (vi l2), some (vi l3), some (vi l4), some (vi x_0), y6] [] w Q) : hG d 267 172 [some (vr 395), z1, some (vi l2), some (vi l3), some (vi l4), some (vi l5), some (vi l6)] [] w Q := by
  unfold c267_b172 at e
  refine hg_run 2 (pc' := 175) (ls' := [some (vr 395), z1, some (vi l2), some (vi l3), some (vi l4), some (vi l5), some (vi l6)]) (st' := [vI (-1), vI l6]) rfl ?_
  rcases oi e with ⟨q6, e⟩ | ⟨q6, e⟩
  · refine hg_icT (tgt := 216) rfl (by decide) rl6 (rgn (-1) rfl) q6 ?_
    cases e
    exact ke l5 rfl _ rl5
  · refine hg_icF (tgt := 216) rfl (by decide) rl6 (rgn (-1) rfl) q6 ?_
    refine hg_run 1 (pc' := 180) (ls' := [some (vr 395), z1, some (vi l2), some (vi l3), some (vi l4), some (vi l5), some (vi l6)]) (st' := [vI l5]) rfl ?_
    rcases oi e with ⟨q7, e⟩ | ⟨q7, e⟩
    · refine hg_ifF (tgt := 196) rfl (by decide) rl5 (show ¬ ¬ (l5 = 0) from fun f => f q7) ?_
      refine hg_run 4 (pc' := 189) (ls' := [some (vr 395), z1, some (vi l2), some (vi l3), some (vi l4), some (vi l5), some (vi l6)]) (st' := [vI l4, vI l6, vI 0, vR 395]) rfl ?_
      obtain ⟨v9, e9, e⟩ := ob e
      refine hg_cIp (as := [vR 395, vI 0, vI l6, vI l4]) (st' := []) rfl (fun _ _ _ _ => rfl) rfl rfl (Nat.le_of_ble_eq_true rfl) (Nat.le_of_ble_eq_true rfl) (recvV A (a := 13) (Abs_ks A (i := 23) rfl).1) (t205 (by omega) A (rgn 0 rfl) rl6 rl4 e9) (fun r9 => ?_)
      refine hg_run 1 (pc' := 193) (ls' := [some (vr 395), z1, some (vi l2), some (vi l3), some (vi l4), some (vi l5), some (vi l6)]) (st' := [vI (-1), vI v9]) rfl ?_
      rcases oi e with ⟨q10, e⟩ | ⟨q10, e⟩
      · refine hg_icT (tgt := 200) rfl (by decide) r9 (rgn (-1) rfl) q10 ?_
        refine hg_run 1 (pc' := 201) (ls' := [some (vr 395), z1, some (vi l2), some (vi l3), some (vi l4), some (vi l5), some (vi l6)]) (st' := [vI 0]) rfl ?_
        exact t267_j201 hcall hd (rgn 0 rfl) rl6 A e kb ke
      · refine hg_icF (tgt := 200) rfl (by decide) r9 (rgn (-1) rfl) q10 ?_
        exact t267_j196 hcall hd rl6 A e kb ke
    · refine hg_ifT (tgt := 196) rfl (by decide) rl5 (show ¬ (l5 = 0) from q7) ?_
      exact t267_j196 hcall hd rl6 A e kb ke
set_option maxRecDepth 100000 in
theorem t267_l172 {d : Nat} {call : Nat → List Int → hS → Option (Int × hS)} (hcall : ∀ (k : Nat) (as : List Int) (h : hS) (w : mmW) (o : Int × hS), Abs h w → (∀ a ∈ as, rg a) → call k as h = some o → hEv d k (vR 395 :: as.map vI) w (qI o)) (hd : 125 ≤ d) {l4 : Int} {z1 : Option hO} {l2 : Int} {l3 : Int} {h : hS} {w : mmW} {Q : mmO → Prop} (rl4 : rg l4) (n : Nat) {l5 : Int} {l6 : Int}  {r : Int} (rl5 : rg l5) (rl6 : rg l6) (A : Abs h w) (e : lp (fun s => c267_b172 l4 h s.1 s.2) n (l5, l6) = some r) (ke : ∀ (x_0 : Int), r = (x_0) → ∀ (y6 : Option hO), rg x_0 → hG d 267 216 [some (vr 395), z1, some (vi l2), some (vi l3), some (vi l4), some (vi x_0), y6] [] w Q) : hG d 267 172 [some (vr 395), z1, some (vi l2), some (vi l3), some (vi l4), some (vi l5), some (vi l6)] [] w Q := by
  induction n generalizing l5 l6 with
  | zero => cases e
  | succ n ih =>
    rcases lp_succ e with ⟨s1, e1, e2⟩ | e1
    · exact t267_b172 hcall hd rl4 rl5 rl6 A e1 (fun s_0 s_1 q rl5 rl6 => by cases q; exact ih rl5 rl6 e2) (fun x_0 q => by cases q)
    · exact t267_b172 hcall hd rl4 rl5 rl6 A e1 (fun s_0 s_1 q => by cases q) (fun x_0 q => by cases q; exact ke _ rfl)
def c267_j161 (call : Nat → List Int → hS → Option (Int × hS)) (l2 : Int) (l3 : Int) (l4 : Int) (h : hS) : Option (Int × hS) :=
  (aIs h 404 40 l3).bind (fun v5 =>
  (lp (fun s => c267_b172 l4 h s.1 s.2) hF0 (0, v5)).bind (fun r11 =>
  if r11 = 0 then
  (c261 1004 h).bind (fun v19 =>
  (kB v19.1).bind (fun u20 =>
  some (v19.1, v19.2)))
  else
  if l2 = 20 then
  (c261 1005 h).bind (fun v17 =>
  (kB v17.1).bind (fun u18 =>
  some (v17.1, v17.2)))
  else
  (c252 (wadd l2 1) l3 l4 0 h).bind (fun v14 =>
  (call 265 [(wadd l2 1)] v14.2).bind (fun v15 =>
  (kB v15.1).bind (fun u16 =>
  some (v15.1, v15.2))))))
set_option maxRecDepth 100000 in
theorem t267_j161 {d : Nat} {call : Nat → List Int → hS → Option (Int × hS)} (hcall : ∀ (k : Nat) (as : List Int) (h : hS) (w : mmW) (o : Int × hS), Abs h w → (∀ a ∈ as, rg a) → call k as h = some o → hEv d k (vR 395 :: as.map vI) w (qI o)) (hd : 125 ≤ d) {l2 : Int} {l3 : Int} {l4 : Int} {z1 : Option hO} {z5 : Option hO} {z6 : Option hO} {h : hS} {w : mmW} {o : Int × hS} {Q : mmO → Prop} (rl2 : rg l2) (rl3 : rg l3) (rl4 : rg l4) (A : Abs h w) (e : c267_j161 call l2 l3 l4 h = some o) (kr : ∀ (v1 : Int) (h1 : hS), o = (v1, h1) → ∀ w', rg v1 → Abs h1 w' → Q (some (.int (Int32.ofInt v1)), w')) : hG d 267 161 [some (vr 395), z1, some (vi l2), some (vi l3), some (vi l4), z5, z6] [] w Q := by
  unfold c267_j161 at e
  refine hg_run 3 (pc' := 165) (ls' := [some (vr 395), z1, some (vi l2), some (vi l3), some (vi l4), some (vi 0), z6]) (st' := [vR 395]) rfl ?_
  refine gs_395_35 rfl A ?_
  refine hg_run 1 (pc' := 169) (ls' := [some (vr 395), z1, some (vi l2), some (vi l3), some (vi l4), some (vi 0), z6]) (st' := [vI l3, vR 404]) rfl ?_
  obtain ⟨v5, e5, e⟩ := ob e
  refine hg_aIs 0 rfl (fun _ _ _ _ => rfl) A (Abs_ks A (i := 32) rfl) rfl (by decide) e5 (fun r5 => ?_)
  refine hg_run 1 (pc' := 172) (ls' := [some (vr 395), z1, some (vi l2), some (vi l3), some (vi l4), some (vi 0), some (vi v5)]) (st' := []) rfl ?_
  obtain ⟨r11, e11, e⟩ := ob e
  refine t267_l172 hcall hd rl4 _ (rgn 0 rfl) r5 A e11 ?_
  intro x11_0 qq11 z11_6 q11_5
  subst qq11
  refine hg_run 1 (pc' := 218) (ls' := [some (vr 395), z1, some (vi l2), some (vi l3), some (vi l4), some (vi r11), z11_6]) (st' := [vI r11]) rfl ?_
  rcases oi e with ⟨q12, e⟩ | ⟨q12, e⟩
  · refine hg_ifF (tgt := 229) rfl (by decide) q11_5 (show ¬ ¬ (r11 = 0) from fun f => f q12) ?_
    refine hg_run 2 (pc' := 225) (ls' := [some (vr 395), z1, some (vi l2), some (vi l3), some (vi l4), some (vi r11), z11_6]) (st' := [vI 1004, vR 395]) rfl ?_
    obtain ⟨v19, e19, e⟩ := ob e
    refine hg_cI (as := [vR 395, vI 1004]) (st' := []) rfl (fun _ _ _ _ => rfl) rfl rfl (Nat.le_of_ble_eq_true rfl) (Nat.le_of_ble_eq_true rfl) (recvV A (a := 13) (Abs_ks A (i := 23) rfl).1) (t261 (by omega) A (rgn 1004 rfl) e19) (fun w19 r19 A19 => ?_)
    obtain ⟨u20, e20, e⟩ := ob e
    cases e
    exact hg_retI rfl (by decide) (fit_B (kB_e e20)) (kr _ _ rfl _ r19 A19)
  · refine hg_ifT (tgt := 229) rfl (by decide) q11_5 (show ¬ (r11 = 0) from q12) ?_
    refine hg_run 2 (pc' := 232) (ls' := [some (vr 395), z1, some (vi l2), some (vi l3), some (vi l4), some (vi r11), z11_6]) (st' := [vI 20, vI l2]) rfl ?_
    rcases oi e with ⟨q13, e⟩ | ⟨q13, e⟩
    · refine hg_icF (tgt := 243) rfl (by decide) rl2 (rgn 20 rfl) (show ¬ ¬ (l2 = 20) from fun f => f q13) ?_
      refine hg_run 2 (pc' := 239) (ls' := [some (vr 395), z1, some (vi l2), some (vi l3), some (vi l4), some (vi r11), z11_6]) (st' := [vI 1005, vR 395]) rfl ?_
      obtain ⟨v17, e17, e⟩ := ob e
      refine hg_cI (as := [vR 395, vI 1005]) (st' := []) rfl (fun _ _ _ _ => rfl) rfl rfl (Nat.le_of_ble_eq_true rfl) (Nat.le_of_ble_eq_true rfl) (recvV A (a := 13) (Abs_ks A (i := 23) rfl).1) (t261 (by omega) A (rgn 1005 rfl) e17) (fun w17 r17 A17 => ?_)
      obtain ⟨u18, e18, e⟩ := ob e
      cases e
      exact hg_retI rfl (by decide) (fit_B (kB_e e18)) (kr _ _ rfl _ r17 A17)
    · refine hg_icT (tgt := 243) rfl (by decide) rl2 (rgn 20 rfl) (show ¬ (l2 = 20) from q13) ?_
      refine hg_run 7 (pc' := 251) (ls' := [some (vr 395), z1, some (vi l2), some (vi l3), some (vi l4), some (vi r11), z11_6]) (st' := [vI 0, vI l4, vI l3, vI (wadd l2 1), vR 395]) rfl ?_
      obtain ⟨v14, e14, e⟩ := ob e
      refine hg_cI (as := [vR 395, vI (wadd l2 1), vI l3, vI l4, vI 0]) (st' := []) rfl (fun _ _ _ _ => rfl) rfl rfl (Nat.le_of_ble_eq_true rfl) (Nat.le_of_ble_eq_true rfl) (recvV A (a := 13) (Abs_ks A (i := 23) rfl).1) (t252 (by omega) A (rg_add _ _) rl3 rl4 (rgn 0 rfl) e14) (fun w14 r14 A14 => ?_)
      refine hg_run 5 (pc' := 259) (ls' := [some (vr 395), z1, some (vi l2), some (vi l3), some (vi l4), some (vi r11), z11_6]) (st' := [vI (wadd l2 1), vR 395]) rfl ?_
      obtain ⟨v15, e15, e⟩ := ob e
      refine hg_cI (as := [vR 395, vI (wadd l2 1)]) (st' := []) rfl (fun _ _ _ _ => rfl) rfl rfl (Nat.le_of_ble_eq_true rfl) (Nat.le_of_ble_eq_true rfl) (recvV A14 (a := 13) (Abs_ks A14 (i := 23) rfl).1) (hcall 265 _ _ _ _ A14 (rglc (rg_add _ _) rgl0) e15) (fun w15 r15 A15 => ?_)
      obtain ⟨u16, e16, e⟩ := ob e
      cases e
      exact hg_retI rfl (by decide) (fit_B (kB_e e16)) (kr _ _ rfl _ r15 A15)
def c267_j131 (call : Nat → List Int → hS → Option (Int × hS)) (s0 : Int) (l1 : Int) (l2 : Int) (h : hS) : Option (Int × hS) :=
  (c241 s0 h).bind (fun v31 =>
  if v31 = 0 then
  (c261 1003 h).bind (fun v34 =>
  (kB v34.1).bind (fun u35 =>
  some (v34.1, v34.2)))
  else
  (c256 l1 2 h).bind (fun v33 =>
  c267_j161 call l2 s0 v33 h))
set_option maxRecDepth 100000 in
theorem t267_j131 {d : Nat} {call : Nat → List Int → hS → Option (Int × hS)} (hcall : ∀ (k : Nat) (as : List Int) (h : hS) (w : mmW) (o : Int × hS), Abs h w → (∀ a ∈ as, rg a) → call k as h = some o → hEv d k (vR 395 :: as.map vI) w (qI o)) (hd : 125 ≤ d) {s0 : Int} {l1 : Int} {l2 : Int} {z3 : Option hO} {z4 : Option hO} {z5 : Option hO} {z6 : Option hO} {h : hS} {w : mmW} {o : Int × hS} {Q : mmO → Prop} (rs0 : rg s0) (rl1 : rg l1) (rl2 : rg l2) (A : Abs h w) (e : c267_j131 call s0 l1 l2 h = some o) (kr : ∀ (v1 : Int) (h1 : hS), o = (v1, h1) → ∀ w', rg v1 → Abs h1 w' → Q (some (.int (Int32.ofInt v1)), w')) : hG d 267 131 [some (vr 395), some (vi l1), some (vi l2), z3, z4, z5, z6] [vI s0] w Q := by
  unfold c267_j131 at e
  refine hg_run 3 (pc' := 136) (ls' := [some (vr 395), some (vi l1), some (vi l2), z3, z4, z5, some (vi s0)]) (st' := [vI s0, vR 395]) rfl ?_
  obtain ⟨v31, e31, e⟩ := ob e
  refine hg_cIp (as := [vR 395, vI s0]) (st' := []) rfl (fun _ _ _ _ => rfl) rfl rfl (Nat.le_of_ble_eq_true rfl) (Nat.le_of_ble_eq_true rfl) (recvV A (a := 13) (Abs_ks A (i := 23) rfl).1) (t241 (by omega) A rs0 e31) (fun r31 => ?_)
  rcases oi e with ⟨q32, e⟩ | ⟨q32, e⟩
  · refine hg_ifF (tgt := 150) rfl (by decide) r31 (show ¬ ¬ (v31 = 0) from fun f => f q32) ?_
    refine hg_run 2 (pc' := 146) (ls' := [some (vr 395), some (vi l1), some (vi l2), z3, z4, z5, some (vi s0)]) (st' := [vI 1003, vR 395]) rfl ?_
    obtain ⟨v34, e34, e⟩ := ob e
    refine hg_cI (as := [vR 395, vI 1003]) (st' := []) rfl (fun _ _ _ _ => rfl) rfl rfl (Nat.le_of_ble_eq_true rfl) (Nat.le_of_ble_eq_true rfl) (recvV A (a := 13) (Abs_ks A (i := 23) rfl).1) (t261 (by omega) A (rgn 1003 rfl) e34) (fun w34 r34 A34 => ?_)
    obtain ⟨u35, e35, e⟩ := ob e
    cases e
    exact hg_retI rfl (by decide) (fit_B (kB_e e35)) (kr _ _ rfl _ r34 A34)
  · refine hg_ifT (tgt := 150) rfl (by decide) r31 (show ¬ (v31 = 0) from q32) ?_
    refine hg_run 5 (pc' := 156) (ls' := [some (vr 395), some (vi l1), some (vi l2), some (vi s0), z4, z5, some (vi s0)]) (st' := [vI 2, vI l1, vR 395]) rfl ?_
    obtain ⟨v33, e33, e⟩ := ob e
    refine hg_cIp (as := [vR 395, vI l1, vI 2]) (st' := []) rfl (fun _ _ _ _ => rfl) rfl rfl (Nat.le_of_ble_eq_true rfl) (Nat.le_of_ble_eq_true rfl) (recvV A (a := 13) (Abs_ks A (i := 23) rfl).1) (t256 (by omega) A rl1 (rgn 2 rfl) e33) (fun r33 => ?_)
    refine hg_run 1 (pc' := 161) (ls' := [some (vr 395), some (vi l1), some (vi l2), some (vi s0), some (vi v33), z5, some (vi s0)]) (st' := []) rfl ?_
    exact t267_j161 hcall hd rl2 rs0 r33 A e kr
def c267 (call : Nat → List Int → hS → Option (Int × hS)) (l1 : Int) (l2 : Int) (h : hS) : Option (Int × hS) :=
  (aIs h 408 21 l2).bind (fun v1 =>
  (c256 l1 1 h).bind (fun v2 =>
  (c256 l1 0 h).bind (fun v3 =>
  if v3 = 25 then
  (c260 v1 v2 h).bind (fun v21 =>
  if v21 = (-1) then
  (c261 1001 h).bind (fun v38 =>
  (kB v38.1).bind (fun u39 =>
  some (v38.1, v38.2)))
  else
  if v21 = 0 then
  (aIs h 405 1600 (wadd (wmul 40 v1) v2)).bind (fun v37 =>
  c267_j131 call v37 l1 l2 h)
  else
  if v21 = 2 then
  (aIs h 406 1600 (wadd (wmul 40 v1) v2)).bind (fun v36 =>
  c267_j131 call v36 l1 l2 h)
  else
  (aIs h 404 40 v1).bind (fun v25 =>
  (c248 0 v25 v2 h).bind (fun v26 =>
  (aIs h 404 40 v1).bind (fun v27 =>
  (c248 0 v27 v2 h).bind (fun v28 =>
  (c208 0 v28 v2 h).bind (fun v29 =>
  (c199 0 v26 (wadd 35 v29) h).bind (fun v30 =>
  c267_j131 call v30 l1 l2 h)))))))
  else
  c267_j161 call l2 v1 v2 h)))
set_option maxRecDepth 100000 in
theorem t267 {d : Nat} {call : Nat → List Int → hS → Option (Int × hS)} (hcall : ∀ (k : Nat) (as : List Int) (h : hS) (w : mmW) (o : Int × hS), Abs h w → (∀ a ∈ as, rg a) → call k as h = some o → hEv d k (vR 395 :: as.map vI) w (qI o)) (hd : 125 ≤ d) {l1 : Int} {l2 : Int} {h : hS} {w : mmW} {o : Int × hS} (A : Abs h w) (rl1 : rg l1) (rl2 : rg l2) (e : c267 call l1 l2 h = some o) : hEv (d + 1) 267 [vR 395, vI l1, vI l2] w (qI o) := by
  refine hEv_start (args := [vr 395, vi l1, vi l2]) (nl := 7) rfl (Nat.le_of_ble_eq_true rfl) ?_
  show hG d 267 0 [some (vr 395), some (vi l1), some (vi l2), none, none, none, none] [] w _
  have kr : ∀ (v1 : Int) (h1 : hS), o = (v1, h1) → ∀ w', rg v1 → Abs h1 w' → qI o (some (.int (Int32.ofInt v1)), w') := fun v1 h1 q w' r A' => by cases q; exact ⟨rfl, r, A'⟩
  unfold c267 at e
  refine hg_run 1 (pc' := 1) (ls' := [some (vr 395), some (vi l1), some (vi l2), none, none, none, none]) (st' := [vR 395]) rfl ?_
  refine gs_395_43 rfl A ?_
  refine hg_run 1 (pc' := 5) (ls' := [some (vr 395), some (vi l1), some (vi l2), none, none, none, none]) (st' := [vI l2, vR 408]) rfl ?_
  obtain ⟨v1, e1, e⟩ := ob e
  refine hg_aIs 0 rfl (fun _ _ _ _ => rfl) A (Abs_ks A (i := 36) rfl) rfl (by decide) e1 (fun r1 => ?_)
  refine hg_run 4 (pc' := 10) (ls' := [some (vr 395), some (vi l1), some (vi l2), some (vi v1), none, none, none]) (st' := [vI 1, vI l1, vR 395]) rfl ?_
  obtain ⟨v2, e2, e⟩ := ob e
  refine hg_cIp (as := [vR 395, vI l1, vI 1]) (st' := []) rfl (fun _ _ _ _ => rfl) rfl rfl (Nat.le_of_ble_eq_true rfl) (Nat.le_of_ble_eq_true rfl) (recvV A (a := 13) (Abs_ks A (i := 23) rfl).1) (t256 (by omega) A rl1 (rgn 1 rfl) e2) (fun r2 => ?_)
  refine hg_run 4 (pc' := 18) (ls' := [some (vr 395), some (vi l1), some (vi l2), some (vi v1), some (vi v2), none, none]) (st' := [vI 0, vI l1, vR 395]) rfl ?_
  obtain ⟨v3, e3, e⟩ := ob e
  refine hg_cIp (as := [vR 395, vI l1, vI 0]) (st' := []) rfl (fun _ _ _ _ => rfl) rfl rfl (Nat.le_of_ble_eq_true rfl) (Nat.le_of_ble_eq_true rfl) (recvV A (a := 13) (Abs_ks A (i := 23) rfl).1) (t256 (by omega) A rl1 (rgn 0 rfl) e3) (fun r3 => ?_)
  refine hg_run 1 (pc' := 23) (ls' := [some (vr 395), some (vi l1), some (vi l2), some (vi v1), some (vi v2), none, none]) (st' := [vI 25, vI v3]) rfl ?_
  rcases oi e with ⟨q4, e⟩ | ⟨q4, e⟩
  · refine hg_icF (tgt := 161) rfl (by decide) r3 (rgn 25 rfl) (show ¬ ¬ (v3 = 25) from fun f => f q4) ?_
    refine hg_run 3 (pc' := 30) (ls' := [some (vr 395), some (vi l1), some (vi l2), some (vi v1), some (vi v2), none, none]) (st' := [vI v2, vI v1, vR 395]) rfl ?_
    obtain ⟨v21, e21, e⟩ := ob e
    refine hg_cIp (as := [vR 395, vI v1, vI v2]) (st' := []) rfl (fun _ _ _ _ => rfl) rfl rfl (Nat.le_of_ble_eq_true rfl) (Nat.le_of_ble_eq_true rfl) (recvV A (a := 13) (Abs_ks A (i := 23) rfl).1) (t260 (by omega) A r1 r2 e21) (fun r21 => ?_)
    refine hg_run 3 (pc' := 38) (ls' := [some (vr 395), some (vi l1), some (vi l2), some (vi v1), some (vi v2), some (vi v21), none]) (st' := [vI (-1), vI v21]) rfl ?_
    rcases oi e with ⟨q22, e⟩ | ⟨q22, e⟩
    · refine hg_icF (tgt := 49) rfl (by decide) r21 (rgn (-1) rfl) (show ¬ ¬ (v21 = (-1)) from fun f => f q22) ?_
      refine hg_run 2 (pc' := 45) (ls' := [some (vr 395), some (vi l1), some (vi l2), some (vi v1), some (vi v2), some (vi v21), none]) (st' := [vI 1001, vR 395]) rfl ?_
      obtain ⟨v38, e38, e⟩ := ob e
      refine hg_cI (as := [vR 395, vI 1001]) (st' := []) rfl (fun _ _ _ _ => rfl) rfl rfl (Nat.le_of_ble_eq_true rfl) (Nat.le_of_ble_eq_true rfl) (recvV A (a := 13) (Abs_ks A (i := 23) rfl).1) (t261 (by omega) A (rgn 1001 rfl) e38) (fun w38 r38 A38 => ?_)
      obtain ⟨u39, e39, e⟩ := ob e
      cases e
      exact hg_retI rfl (by decide) (fit_B (kB_e e39)) (kr _ _ rfl _ r38 A38)
    · refine hg_icT (tgt := 49) rfl (by decide) r21 (rgn (-1) rfl) (show ¬ (v21 = (-1)) from q22) ?_
      refine hg_run 1 (pc' := 51) (ls' := [some (vr 395), some (vi l1), some (vi l2), some (vi v1), some (vi v2), some (vi v21), none]) (st' := [vI v21]) rfl ?_
      rcases oi e with ⟨q23, e⟩ | ⟨q23, e⟩
      · refine hg_ifF (tgt := 69) rfl (by decide) r21 (show ¬ ¬ (v21 = 0) from fun f => f q23) ?_
        refine hg_run 1 (pc' := 55) (ls' := [some (vr 395), some (vi l1), some (vi l2), some (vi v1), some (vi v2), some (vi v21), none]) (st' := [vR 395]) rfl ?_
        refine gs_395_36 rfl A ?_
        refine hg_run 5 (pc' := 65) (ls' := [some (vr 395), some (vi l1), some (vi l2), some (vi v1), some (vi v2), some (vi v21), none]) (st' := [vI (wadd (wmul 40 v1) v2), vR 405]) rfl ?_
        obtain ⟨v37, e37, e⟩ := ob e
        refine hg_aIs 0 rfl (fun _ _ _ _ => rfl) A (Abs_ks A (i := 33) rfl) rfl (by decide) e37 (fun r37 => ?_)
        refine hg_run 1 (pc' := 131) (ls' := [some (vr 395), some (vi l1), some (vi l2), some (vi v1), some (vi v2), some (vi v21), none]) (st' := [vI v37]) rfl ?_
        exact t267_j131 hcall hd r37 rl1 rl2 A e kr
      · refine hg_ifT (tgt := 69) rfl (by decide) r21 (show ¬ (v21 = 0) from q23) ?_
        refine hg_run 2 (pc' := 72) (ls' := [some (vr 395), some (vi l1), some (vi l2), some (vi v1), some (vi v2), some (vi v21), none]) (st' := [vI 2, vI v21]) rfl ?_
        rcases oi e with ⟨q24, e⟩ | ⟨q24, e⟩
        · refine hg_icF (tgt := 90) rfl (by decide) r21 (rgn 2 rfl) (show ¬ ¬ (v21 = 2) from fun f => f q24) ?_
          refine hg_run 1 (pc' := 76) (ls' := [some (vr 395), some (vi l1), some (vi l2), some (vi v1), some (vi v2), some (vi v21), none]) (st' := [vR 395]) rfl ?_
          refine gs_395_37 rfl A ?_
          refine hg_run 5 (pc' := 86) (ls' := [some (vr 395), some (vi l1), some (vi l2), some (vi v1), some (vi v2), some (vi v21), none]) (st' := [vI (wadd (wmul 40 v1) v2), vR 406]) rfl ?_
          obtain ⟨v36, e36, e⟩ := ob e
          refine hg_aIs 0 rfl (fun _ _ _ _ => rfl) A (Abs_ks A (i := 34) rfl) rfl (by decide) e36 (fun r36 => ?_)
          refine hg_run 1 (pc' := 131) (ls' := [some (vr 395), some (vi l1), some (vi l2), some (vi v1), some (vi v2), some (vi v21), none]) (st' := [vI v36]) rfl ?_
          exact t267_j131 hcall hd r36 rl1 rl2 A e kr
        · refine hg_icT (tgt := 90) rfl (by decide) r21 (rgn 2 rfl) (show ¬ (v21 = 2) from q24) ?_
          refine hg_run 5 (pc' := 95) (ls' := [some (vr 395), some (vi l1), some (vi l2), some (vi v1), some (vi v2), some (vi v21), none]) (st' := [vR 395, vI 0, vR 395, vI 0, vR 395]) rfl ?_
          refine gs_395_35 rfl A ?_
          refine hg_run 1 (pc' := 99) (ls' := [some (vr 395), some (vi l1), some (vi l2), some (vi v1), some (vi v2), some (vi v21), none]) (st' := [vI v1, vR 404, vI 0, vR 395, vI 0, vR 395]) rfl ?_
          obtain ⟨v25, e25, e⟩ := ob e
          refine hg_aIs 0 rfl (fun _ _ _ _ => rfl) A (Abs_ks A (i := 32) rfl) rfl (by decide) e25 (fun r25 => ?_)
          refine hg_run 1 (pc' := 102) (ls' := [some (vr 395), some (vi l1), some (vi l2), some (vi v1), some (vi v2), some (vi v21), none]) (st' := [vI v2, vI v25, vI 0, vR 395, vI 0, vR 395]) rfl ?_
          obtain ⟨v26, e26, e⟩ := ob e
          refine hg_cIp (as := [vR 395, vI 0, vI v25, vI v2]) (st' := [vI 0, vR 395]) rfl (fun _ _ _ _ => rfl) rfl rfl (Nat.le_of_ble_eq_true rfl) (Nat.le_of_ble_eq_true rfl) (recvV A (a := 13) (Abs_ks A (i := 23) rfl).1) (t248 (by omega) A (rgn 0 rfl) r25 r2 e26) (fun r26 => ?_)
          refine hg_run 6 (pc' := 112) (ls' := [some (vr 395), some (vi l1), some (vi l2), some (vi v1), some (vi v2), some (vi v21), none]) (st' := [vR 395, vI 0, vR 395, vI 0, vR 395, vI 35, vI v26, vI 0, vR 395]) rfl ?_
          refine gs_395_35 rfl A ?_
          refine hg_run 1 (pc' := 116) (ls' := [some (vr 395), some (vi l1), some (vi l2), some (vi v1), some (vi v2), some (vi v21), none]) (st' := [vI v1, vR 404, vI 0, vR 395, vI 0, vR 395, vI 35, vI v26, vI 0, vR 395]) rfl ?_
          obtain ⟨v27, e27, e⟩ := ob e
          refine hg_aIs 0 rfl (fun _ _ _ _ => rfl) A (Abs_ks A (i := 32) rfl) rfl (by decide) e27 (fun r27 => ?_)
          refine hg_run 1 (pc' := 119) (ls' := [some (vr 395), some (vi l1), some (vi l2), some (vi v1), some (vi v2), some (vi v21), none]) (st' := [vI v2, vI v27, vI 0, vR 395, vI 0, vR 395, vI 35, vI v26, vI 0, vR 395]) rfl ?_
          obtain ⟨v28, e28, e⟩ := ob e
          refine hg_cIp (as := [vR 395, vI 0, vI v27, vI v2]) (st' := [vI 0, vR 395, vI 35, vI v26, vI 0, vR 395]) rfl (fun _ _ _ _ => rfl) rfl rfl (Nat.le_of_ble_eq_true rfl) (Nat.le_of_ble_eq_true rfl) (recvV A (a := 13) (Abs_ks A (i := 23) rfl).1) (t248 (by omega) A (rgn 0 rfl) r27 r2 e28) (fun r28 => ?_)
          refine hg_run 1 (pc' := 124) (ls' := [some (vr 395), some (vi l1), some (vi l2), some (vi v1), some (vi v2), some (vi v21), none]) (st' := [vI v2, vI v28, vI 0, vR 395, vI 35, vI v26, vI 0, vR 395]) rfl ?_
          obtain ⟨v29, e29, e⟩ := ob e
          refine hg_cIp (as := [vR 395, vI 0, vI v28, vI v2]) (st' := [vI 35, vI v26, vI 0, vR 395]) rfl (fun _ _ _ _ => rfl) rfl rfl (Nat.le_of_ble_eq_true rfl) (Nat.le_of_ble_eq_true rfl) (recvV A (a := 13) (Abs_ks A (i := 23) rfl).1) (t208 (by omega) A (rgn 0 rfl) r28 r2 e29) (fun r29 => ?_)
          refine hg_run 1 (pc' := 128) (ls' := [some (vr 395), some (vi l1), some (vi l2), some (vi v1), some (vi v2), some (vi v21), none]) (st' := [vI (wadd 35 v29), vI v26, vI 0, vR 395]) rfl ?_
          obtain ⟨v30, e30, e⟩ := ob e
          refine hg_cIp (as := [vR 395, vI 0, vI v26, vI (wadd 35 v29)]) (st' := []) rfl (fun _ _ _ _ => rfl) rfl rfl (Nat.le_of_ble_eq_true rfl) (Nat.le_of_ble_eq_true rfl) (recvV A (a := 13) (Abs_ks A (i := 23) rfl).1) (t199 (by omega) A (rgn 0 rfl) r26 (rg_add _ _) e30) (fun r30 => ?_)
          exact t267_j131 hcall hd r30 rl1 rl2 A e kr
  · refine hg_icT (tgt := 161) rfl (by decide) r3 (rgn 25 rfl) (show ¬ (v3 = 25) from q4) ?_
    exact t267_j161 hcall hd rl2 r1 r2 A e kr
def g254 : Nat → Nat → List Int → hS → Option (Int × hS)
  | 0, _, _, _ => none
  | f + 1, 254, [a0, a1, a2], h => c254 (g254 f) a0 a1 a2 h
  | f + 1, 255, [a0, a1, a2], h => c255 (g254 f) a0 a1 a2 h
  | f + 1, 264, [a0], h => c264 (g254 f) a0 h
  | f + 1, 265, [a0], h => c265 (g254 f) a0 h
  | f + 1, 267, [a0, a1], h => c267 (g254 f) a0 a1 h
  | _ + 1, _, _, _ => none
theorem u254 : ∀ (f : Nat) {d : Nat} (hd : 126 + f ≤ d) (k : Nat) (as : List Int) (h : hS) (w : mmW) (o : Int × hS), Abs h w → (∀ a ∈ as, rg a) → g254 f k as h = some o → hEv d k (vR 395 :: as.map vI) w (qI o)
  | 0, d, hd, k, as, h, w, o, A, hr, e => by unfold g254 at e; cases e
  | f + 1, d, hd, k, as, h, w, o, A, hr, e => by
    obtain ⟨d, rfl⟩ : ∃ d1, d = d1 + 1 := ⟨d - 1, by omega⟩
    unfold g254 at e
    split at e
    · rename_i q; cases q
    · rename_i q; cases q; exact t254 (u254 f (by omega)) (by omega) A (hr _ List.mem_cons_self) (hr _ (List.mem_cons_of_mem _ List.mem_cons_self)) (hr _ (List.mem_cons_of_mem _ (List.mem_cons_of_mem _ List.mem_cons_self))) e
    · rename_i q; cases q; exact t255 (u254 f (by omega)) (by omega) A (hr _ List.mem_cons_self) (hr _ (List.mem_cons_of_mem _ List.mem_cons_self)) (hr _ (List.mem_cons_of_mem _ (List.mem_cons_of_mem _ List.mem_cons_self))) e
    · rename_i q; cases q; exact t264 (u254 f (by omega)) (by omega) A (hr _ List.mem_cons_self) e
    · rename_i q; cases q; exact t265 (u254 f (by omega)) (by omega) A (hr _ List.mem_cons_self) e
    · rename_i q; cases q; exact t267 (u254 f (by omega)) (by omega) A (hr _ List.mem_cons_self) (hr _ (List.mem_cons_of_mem _ List.mem_cons_self)) e
    · cases e
