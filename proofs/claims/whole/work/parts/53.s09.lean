/-! read as functions: laid by wip/whole/shallow.py -/
def c288_j81 (s0 : Int) (l5 : Int) : Option ((Int × Int) ⊕ (Int)) :=
  some (.inl (s0, (wadd l5 1)))
set_option maxRecDepth 100000 in
theorem t288_j81 {d : Nat} (hd : 4 ≤ d) {s0 : Int} {l5 : Int} {l1 : Int} {l2 : Int} {l3 : Int} {z4 : Option hO} {h : hS} {w : mmW} {o : (Int × Int) ⊕ (Int)} {Q : mmO → Prop} (rs0 : rg s0) (rl5 : rg l5) (A : Abs h w) (e : c288_j81 s0 l5 = some o) (kb : ∀ (s_0 : Int) (s_1 : Int), o = .inl (s_0, s_1) → rg s_0 → rg s_1 → hG d 288 33 [some (vr 395), some (vi l1), some (vi l2), some (vi l3), some (vi s_0), some (vi s_1)] [] w Q) (ke : ∀ (x_0 : Int), o = .inr (x_0) → ∀ (y5 : Option hO), rg x_0 → hG d 288 89 [some (vr 395), some (vi l1), some (vi l2), some (vi l3), some (vi x_0), y5] [] w Q) : hG d 288 81 [some (vr 395), some (vi l1), some (vi l2), some (vi l3), z4, some (vi l5)] [vI s0] w Q := by
  unfold c288_j81 at e
  refine hg_run 3 (pc' := 33) (ls' := [some (vr 395), some (vi l1), some (vi l2), some (vi l3), some (vi s0), some (vi (wadd l5 1))]) (st' := []) rfl ?_
  cases e
  exact kb s0 (wadd l5 1) rfl rs0 (rg_add _ _)
def c288_j76 (l5 : Int) : Option ((Int × Int) ⊕ (Int)) :=
  c288_j81 1 l5
set_option maxRecDepth 100000 in
theorem t288_j76 {d : Nat} (hd : 4 ≤ d) {l5 : Int} {l1 : Int} {l2 : Int} {l3 : Int} {z4 : Option hO} {h : hS} {w : mmW} {o : (Int × Int) ⊕ (Int)} {Q : mmO → Prop} (rl5 : rg l5) (A : Abs h w) (e : c288_j76 l5 = some o) (kb : ∀ (s_0 : Int) (s_1 : Int), o = .inl (s_0, s_1) → rg s_0 → rg s_1 → hG d 288 33 [some (vr 395), some (vi l1), some (vi l2), some (vi l3), some (vi s_0), some (vi s_1)] [] w Q) (ke : ∀ (x_0 : Int), o = .inr (x_0) → ∀ (y5 : Option hO), rg x_0 → hG d 288 89 [some (vr 395), some (vi l1), some (vi l2), some (vi l3), some (vi x_0), y5] [] w Q) : hG d 288 76 [some (vr 395), some (vi l1), some (vi l2), some (vi l3), z4, some (vi l5)] [] w Q := by
  unfold c288_j76 at e
  refine hg_run 2 (pc' := 81) (ls' := [some (vr 395), some (vi l1), some (vi l2), some (vi l3), z4, some (vi l5)]) (st' := [vI 1]) rfl ?_
  exact t288_j81 hd (rgn 1 rfl) rl5 A e kb ke
def c288_j80 (l5 : Int) : Option ((Int × Int) ⊕ (Int)) :=
  c288_j81 0 l5
set_option maxRecDepth 100000 in
theorem t288_j80 {d : Nat} (hd : 4 ≤ d) {l5 : Int} {l1 : Int} {l2 : Int} {l3 : Int} {z4 : Option hO} {h : hS} {w : mmW} {o : (Int × Int) ⊕ (Int)} {Q : mmO → Prop} (rl5 : rg l5) (A : Abs h w) (e : c288_j80 l5 = some o) (kb : ∀ (s_0 : Int) (s_1 : Int), o = .inl (s_0, s_1) → rg s_0 → rg s_1 → hG d 288 33 [some (vr 395), some (vi l1), some (vi l2), some (vi l3), some (vi s_0), some (vi s_1)] [] w Q) (ke : ∀ (x_0 : Int), o = .inr (x_0) → ∀ (y5 : Option hO), rg x_0 → hG d 288 89 [some (vr 395), some (vi l1), some (vi l2), some (vi l3), some (vi x_0), y5] [] w Q) : hG d 288 80 [some (vr 395), some (vi l1), some (vi l2), some (vi l3), z4, some (vi l5)] [] w Q := by
  unfold c288_j80 at e
  refine hg_run 1 (pc' := 81) (ls' := [some (vr 395), some (vi l1), some (vi l2), some (vi l3), z4, some (vi l5)]) (st' := [vI 0]) rfl ?_
  exact t288_j81 hd (rgn 0 rfl) rl5 A e kb ke
def c288_b33 (l1 : Int) (l2 : Int) (l3 : Int) (h : hS) (l4 : Int) (l5 : Int) : Option ((Int × Int) ⊕ (Int)) :=
  if 40 ≤ l5 then
  some (.inr (l4))
  else
  if l4 = 0 then
  (c237 1 l2 l5 h).bind (fun v7 =>
  if v7 = (-1) then
  c288_j80 l5
  else
  (aIs h 404 40 l1).bind (fun v9 =>
  (c287 0 v9 1 l2 l5 h).bind (fun v10 =>
  if v10 = l3 then
  c288_j76 l5
  else
  c288_j80 l5)))
  else
  c288_j76 l5
set_option maxRecDepth 100000 in
theorem t288_b33 {d : Nat} (hd : 4 ≤ d) {l1 : Int} {l2 : Int} {l3 : Int} {l4 : Int} {l5 : Int}  {h : hS} {w : mmW} {o : (Int × Int) ⊕ (Int)} {Q : mmO → Prop} (rl1 : rg l1) (rl2 : rg l2) (rl3 : rg l3) (rl4 : rg l4) (rl5 : rg l5) (A : Abs h w) (e : c288_b33 l1 l2 l3 h l4 l5 = some o) (kb : ∀ (s_0 : Int) (s_1 : Int), o = .inl (s_0, s_1) → rg s_0 → rg s_1 → hG d 288 33 [some (vr 395), some (vi l1), some (vi l2), some (vi l3), some (vi s_0), some (vi s_1)] [] w Q) (ke : ∀ (x_0 : Int), o = .inr (x_0) → ∀ (y5 : Option hO), rg x_0 → hG d 288 89 [some (vr 395), some (vi l1), some (vi l2), some (vi l3), some (vi x_0), y5] [] w Q) : hG d 288 33 [some (vr 395), some (vi l1), some (vi l2), some (vi l3), some (vi l4), some (vi l5)] [] w Q := by
  unfold c288_b33 at e
  refine hg_run 2 (pc' := 37) (ls' := [some (vr 395), some (vi l1), some (vi l2), some (vi l3), some (vi l4), some (vi l5)]) (st' := [vI 40, vI l5]) rfl ?_
  rcases oi e with ⟨q5, e⟩ | ⟨q5, e⟩
  · refine hg_icT (tgt := 89) rfl (by decide) rl5 (rgn 40 rfl) q5 ?_
    cases e
    exact ke l4 rfl _ rl4
  · refine hg_icF (tgt := 89) rfl (by decide) rl5 (rgn 40 rfl) q5 ?_
    refine hg_run 1 (pc' := 42) (ls' := [some (vr 395), some (vi l1), some (vi l2), some (vi l3), some (vi l4), some (vi l5)]) (st' := [vI l4]) rfl ?_
    rcases oi e with ⟨q6, e⟩ | ⟨q6, e⟩
    · refine hg_ifF (tgt := 76) rfl (by decide) rl4 (show ¬ ¬ (l4 = 0) from fun f => f q6) ?_
      refine hg_run 4 (pc' := 50) (ls' := [some (vr 395), some (vi l1), some (vi l2), some (vi l3), some (vi l4), some (vi l5)]) (st' := [vI l5, vI l2, vI 1, vR 395]) rfl ?_
      obtain ⟨v7, e7, e⟩ := ob e
      refine hg_cIp (as := [vR 395, vI 1, vI l2, vI l5]) (st' := []) rfl (fun _ _ _ _ => rfl) rfl rfl (Nat.le_of_ble_eq_true rfl) (Nat.le_of_ble_eq_true rfl) (recvV A (a := 13) (Abs_ks A (i := 23) rfl).1) (t237 (by omega) A (rgn 1 rfl) rl2 rl5 e7) (fun r7 => ?_)
      refine hg_run 1 (pc' := 54) (ls' := [some (vr 395), some (vi l1), some (vi l2), some (vi l3), some (vi l4), some (vi l5)]) (st' := [vI (-1), vI v7]) rfl ?_
      rcases oi e with ⟨q8, e⟩ | ⟨q8, e⟩
      · refine hg_icT (tgt := 80) rfl (by decide) r7 (rgn (-1) rfl) q8 ?_
        exact t288_j80 hd rl5 A e kb ke
      · refine hg_icF (tgt := 80) rfl (by decide) r7 (rgn (-1) rfl) q8 ?_
        refine hg_run 3 (pc' := 60) (ls' := [some (vr 395), some (vi l1), some (vi l2), some (vi l3), some (vi l4), some (vi l5)]) (st' := [vR 395, vI 0, vR 395]) rfl ?_
        refine gs_395_35 rfl A ?_
        refine hg_run 1 (pc' := 64) (ls' := [some (vr 395), some (vi l1), some (vi l2), some (vi l3), some (vi l4), some (vi l5)]) (st' := [vI l1, vR 404, vI 0, vR 395]) rfl ?_
        obtain ⟨v9, e9, e⟩ := ob e
        refine hg_aIs 0 rfl (fun _ _ _ _ => rfl) A (Abs_ks A (i := 32) rfl) rfl (by decide) e9 (fun r9 => ?_)
        refine hg_run 3 (pc' := 69) (ls' := [some (vr 395), some (vi l1), some (vi l2), some (vi l3), some (vi l4), some (vi l5)]) (st' := [vI l5, vI l2, vI 1, vI v9, vI 0, vR 395]) rfl ?_
        obtain ⟨v10, e10, e⟩ := ob e
        refine hg_cIp (as := [vR 395, vI 0, vI v9, vI 1, vI l2, vI l5]) (st' := []) rfl (fun _ _ _ _ => rfl) rfl rfl (Nat.le_of_ble_eq_true rfl) (Nat.le_of_ble_eq_true rfl) (recvV A (a := 13) (Abs_ks A (i := 23) rfl).1) (t287 (by omega) A (rgn 0 rfl) r9 (rgn 1 rfl) rl2 rl5 e10) (fun r10 => ?_)
        refine hg_run 1 (pc' := 73) (ls' := [some (vr 395), some (vi l1), some (vi l2), some (vi l3), some (vi l4), some (vi l5)]) (st' := [vI l3, vI v10]) rfl ?_
        rcases oi e with ⟨q11, e⟩ | ⟨q11, e⟩
        · refine hg_icF (tgt := 80) rfl (by decide) r10 rl3 (show ¬ ¬ (v10 = l3) from fun f => f q11) ?_
          exact t288_j76 hd rl5 A e kb ke
        · refine hg_icT (tgt := 80) rfl (by decide) r10 rl3 (show ¬ (v10 = l3) from q11) ?_
          exact t288_j80 hd rl5 A e kb ke
    · refine hg_ifT (tgt := 76) rfl (by decide) rl4 (show ¬ (l4 = 0) from q6) ?_
      exact t288_j76 hd rl5 A e kb ke
set_option maxRecDepth 100000 in
theorem t288_l33 {d : Nat} (hd : 4 ≤ d) {l1 : Int} {l2 : Int} {l3 : Int}  {h : hS} {w : mmW} {Q : mmO → Prop} (rl1 : rg l1) (rl2 : rg l2) (rl3 : rg l3) (n : Nat) {l4 : Int} {l5 : Int}  {r : Int} (rl4 : rg l4) (rl5 : rg l5) (A : Abs h w) (e : lp (fun s => c288_b33 l1 l2 l3 h s.1 s.2) n (l4, l5) = some r) (ke : ∀ (x_0 : Int), r = (x_0) → ∀ (y5 : Option hO), rg x_0 → hG d 288 89 [some (vr 395), some (vi l1), some (vi l2), some (vi l3), some (vi x_0), y5] [] w Q) : hG d 288 33 [some (vr 395), some (vi l1), some (vi l2), some (vi l3), some (vi l4), some (vi l5)] [] w Q := by
  induction n generalizing l4 l5 with
  | zero => cases e
  | succ n ih =>
    rcases lp_succ e with ⟨s1, e1, e2⟩ | e1
    · exact t288_b33 hd rl1 rl2 rl3 rl4 rl5 A e1 (fun s_0 s_1 q rl4 rl5 => by cases q; exact ih rl4 rl5 e2) (fun x_0 q => by cases q)
    · exact t288_b33 hd rl1 rl2 rl3 rl4 rl5 A e1 (fun s_0 s_1 q => by cases q) (fun x_0 q => by cases q; exact ke _ rfl)
def c288_j131 (l3 : Int) (h : hS) : Option ((Int × hS) ⊕ (hS)) :=
  some (.inl ((wadd l3 1), h))
set_option maxRecDepth 100000 in
theorem t288_j131 {d : Nat} (hd : 4 ≤ d) {l3 : Int} {l1 : Int} {l2 : Int} {z4 : Option hO} {z5 : Option hO} {h : hS} {w : mmW} {o : (Int × hS) ⊕ (hS)} {Q : mmO → Prop} (rl3 : rg l3) (A : Abs h w) (e : c288_j131 l3 h = some o) (kb : ∀ (s_0 : Int) (s_1 : hS), o = .inl (s_0, s_1) → ∀ w', ∀ (y4 y5 : Option hO), rg s_0 → Abs s_1 w' → hG d 288 2 [some (vr 395), some (vi l1), some (vi l2), some (vi s_0), y4, y5] [] w' Q) (ke : ∀ (x_0 : hS), o = .inr (x_0) → ∀ w', ∀ (y3 y4 y5 : Option hO), Abs x_0 w' → hG d 288 137 [some (vr 395), some (vi l1), some (vi l2), y3, y4, y5] [] w' Q) : hG d 288 131 [some (vr 395), some (vi l1), some (vi l2), some (vi l3), z4, z5] [] w Q := by
  unfold c288_j131 at e
  refine hg_run 2 (pc' := 2) (ls' := [some (vr 395), some (vi l1), some (vi l2), some (vi (wadd l3 1)), z4, z5]) (st' := []) rfl ?_
  cases e
  exact kb (wadd l3 1) h rfl _ _ _ (rg_add _ _) A
def c288_b2 (l1 : Int) (l2 : Int) (l3 : Int) (h : hS) : Option ((Int × hS) ⊕ (hS)) :=
  if 40 ≤ l3 then
  some (.inr (h))
  else
  (aIs h 404 40 l1).bind (fun v2 =>
  (c237 0 v2 l3 h).bind (fun v3 =>
  if v3 = (-1) then
  c288_j131 l3 h
  else
  (lp (fun s => c288_b33 l1 l2 l3 h s.1 s.2) hF0 (0, 0)).bind (fun r12 =>
  if r12 = 0 then
  (wIs h 407 1600 (wadd (wmul 40 l1) l3) (wbol 1)).bind (fun h14 =>
  (aIs h14 405 1600 (wadd (wmul 40 l1) l3)).bind (fun v15 =>
  (wIs h14 406 1600 (wadd (wmul 40 l1) l3) v15).bind (fun h16 =>
  c288_j131 l3 h16)))
  else
  c288_j131 l3 h)))
set_option maxRecDepth 100000 in
theorem t288_b2 {d : Nat} (hd : 4 ≤ d) {l1 : Int} {l2 : Int} {l3 : Int} {z4 : Option hO} {z5 : Option hO} {h : hS} {w : mmW} {o : (Int × hS) ⊕ (hS)} {Q : mmO → Prop} (rl1 : rg l1) (rl2 : rg l2) (rl3 : rg l3) (A : Abs h w) (e : c288_b2 l1 l2 l3 h = some o) (kb : ∀ (s_0 : Int) (s_1 : hS), o = .inl (s_0, s_1) → ∀ w', ∀ (y4 y5 : Option hO), rg s_0 → Abs s_1 w' → hG d 288 2 [some (vr 395), some (vi l1), some (vi l2), some (vi s_0), y4, y5] [] w' Q) (ke : ∀ (x_0 : hS), o = .inr (x_0) → ∀ w', ∀ (y3 y4 y5 : Option hO), Abs x_0 w' → hG d 288 137 [some (vr 395), some (vi l1), some (vi l2), y3, y4, y5] [] w' Q) : hG d 288 2 [some (vr 395), some (vi l1), some (vi l2), some (vi l3), z4, z5] [] w Q := by
  unfold c288_b2 at e
  refine hg_run 2 (pc' := 5) (ls' := [some (vr 395), some (vi l1), some (vi l2), some (vi l3), z4, z5]) (st' := [vI 40, vI l3]) rfl ?_
  rcases oi e with ⟨q1, e⟩ | ⟨q1, e⟩
  · refine hg_icT (tgt := 137) rfl (by decide) rl3 (rgn 40 rfl) q1 ?_
    cases e
    exact ke h rfl _ _ _ _  A
  · refine hg_icF (tgt := 137) rfl (by decide) rl3 (rgn 40 rfl) q1 ?_
    refine hg_run 3 (pc' := 11) (ls' := [some (vr 395), some (vi l1), some (vi l2), some (vi l3), z4, z5]) (st' := [vR 395, vI 0, vR 395]) rfl ?_
    refine gs_395_35 rfl A ?_
    refine hg_run 1 (pc' := 15) (ls' := [some (vr 395), some (vi l1), some (vi l2), some (vi l3), z4, z5]) (st' := [vI l1, vR 404, vI 0, vR 395]) rfl ?_
    obtain ⟨v2, e2, e⟩ := ob e
    refine hg_aIs 0 rfl (fun _ _ _ _ => rfl) A (Abs_ks A (i := 32) rfl) rfl (by decide) e2 (fun r2 => ?_)
    refine hg_run 1 (pc' := 17) (ls' := [some (vr 395), some (vi l1), some (vi l2), some (vi l3), z4, z5]) (st' := [vI l3, vI v2, vI 0, vR 395]) rfl ?_
    obtain ⟨v3, e3, e⟩ := ob e
    refine hg_cIp (as := [vR 395, vI 0, vI v2, vI l3]) (st' := []) rfl (fun _ _ _ _ => rfl) rfl rfl (Nat.le_of_ble_eq_true rfl) (Nat.le_of_ble_eq_true rfl) (recvV A (a := 13) (Abs_ks A (i := 23) rfl).1) (t237 (by omega) A (rgn 0 rfl) r2 rl3 e3) (fun r3 => ?_)
    refine hg_run 1 (pc' := 21) (ls' := [some (vr 395), some (vi l1), some (vi l2), some (vi l3), z4, z5]) (st' := [vI (-1), vI v3]) rfl ?_
    rcases oi e with ⟨q4, e⟩ | ⟨q4, e⟩
    · refine hg_icF (tgt := 27) rfl (by decide) r3 (rgn (-1) rfl) (show ¬ ¬ (v3 = (-1)) from fun f => f q4) ?_
      refine hg_run 1 (pc' := 131) (ls' := [some (vr 395), some (vi l1), some (vi l2), some (vi l3), z4, z5]) (st' := []) rfl ?_
      exact t288_j131 hd rl3 A e kb ke
    · refine hg_icT (tgt := 27) rfl (by decide) r3 (rgn (-1) rfl) (show ¬ (v3 = (-1)) from q4) ?_
      refine hg_run 4 (pc' := 33) (ls' := [some (vr 395), some (vi l1), some (vi l2), some (vi l3), some (vi 0), some (vi 0)]) (st' := []) rfl ?_
      obtain ⟨r12, e12, e⟩ := ob e
      refine t288_l33 hd rl1 rl2 rl3 _ (rgn 0 rfl) (rgn 0 rfl) A e12 ?_
      intro x12_0 qq12 z12_5 q12_4
      subst qq12
      refine hg_run 1 (pc' := 91) (ls' := [some (vr 395), some (vi l1), some (vi l2), some (vi l3), some (vi r12), z12_5]) (st' := [vI r12]) rfl ?_
      rcases oi e with ⟨q13, e⟩ | ⟨q13, e⟩
      · refine hg_ifT (tgt := 97) rfl (by decide) q12_4 q13 ?_
        refine hg_run 1 (pc' := 98) (ls' := [some (vr 395), some (vi l1), some (vi l2), some (vi l3), some (vi r12), z12_5]) (st' := [vR 395]) rfl ?_
        refine gs_395_38 rfl A ?_
        refine hg_run 6 (pc' := 108) (ls' := [some (vr 395), some (vi l1), some (vi l2), some (vi l3), some (vi r12), z12_5]) (st' := [vI 1, vI (wadd (wmul 40 l1) l3), vR 407]) rfl ?_
        obtain ⟨h14, e14, e⟩ := ob e
        refine hg_wBs rfl A (Abs_ks A (i := 35) rfl) (by decide) e14 (fun w14 A14 => ?_)
        refine hg_run 1 (pc' := 110) (ls' := [some (vr 395), some (vi l1), some (vi l2), some (vi l3), some (vi r12), z12_5]) (st' := [vR 395]) rfl ?_
        refine gs_395_37 rfl A14 ?_
        refine hg_run 6 (pc' := 120) (ls' := [some (vr 395), some (vi l1), some (vi l2), some (vi l3), some (vi r12), z12_5]) (st' := [vR 395, vI (wadd (wmul 40 l1) l3), vR 406]) rfl ?_
        refine gs_395_36 rfl A14 ?_
        refine hg_run 5 (pc' := 129) (ls' := [some (vr 395), some (vi l1), some (vi l2), some (vi l3), some (vi r12), z12_5]) (st' := [vI (wadd (wmul 40 l1) l3), vR 405, vI (wadd (wmul 40 l1) l3), vR 406]) rfl ?_
        obtain ⟨v15, e15, e⟩ := ob e
        refine hg_aIs 0 rfl (fun _ _ _ _ => rfl) A14 (Abs_ks A14 (i := 33) rfl) rfl (by decide) e15 (fun r15 => ?_)
        obtain ⟨h16, e16, e⟩ := ob e
        refine hg_wIs rfl A14 (Abs_ks A14 (i := 34) rfl) (by decide) r15 e16 (fun w16 A16 => ?_)
        exact t288_j131 hd rl3 A16 e kb ke
      · refine hg_ifF (tgt := 97) rfl (by decide) q12_4 q13 ?_
        refine hg_run 1 (pc' := 131) (ls' := [some (vr 395), some (vi l1), some (vi l2), some (vi l3), some (vi r12), z12_5]) (st' := []) rfl ?_
        exact t288_j131 hd rl3 A e kb ke
set_option maxRecDepth 100000 in
theorem t288_l2 {d : Nat} (hd : 4 ≤ d) {l1 : Int} {l2 : Int}  {Q : mmO → Prop} (rl1 : rg l1) (rl2 : rg l2) (n : Nat) {l3 : Int} {z4 z5 : Option hO} {h : hS} {w : mmW} {r : hS} (rl3 : rg l3) (A : Abs h w) (e : lp (fun s => c288_b2 l1 l2 s.1 s.2) n (l3, h) = some r) (ke : ∀ (x_0 : hS), r = (x_0) → ∀ w', ∀ (y3 y4 y5 : Option hO), Abs x_0 w' → hG d 288 137 [some (vr 395), some (vi l1), some (vi l2), y3, y4, y5] [] w' Q) : hG d 288 2 [some (vr 395), some (vi l1), some (vi l2), some (vi l3), z4, z5] [] w Q := by
  induction n generalizing l3 z4 z5 h w with
  | zero => cases e
  | succ n ih =>
    rcases lp_succ e with ⟨s1, e1, e2⟩ | e1
    · exact t288_b2 hd rl1 rl2 rl3 A e1 (fun s_0 s_1 q w1 y4 y5 rl3 A1 => by cases q; exact ih rl3 A1 e2) (fun x_0 q => by cases q)
    · exact t288_b2 hd rl1 rl2 rl3 A e1 (fun s_0 s_1 q => by cases q) (fun x_0 q => by cases q; exact ke _ rfl)
def c288 (l1 : Int) (l2 : Int) (h : hS) : Option (hS) :=
  (lp (fun s => c288_b2 l1 l2 s.1 s.2) hF0 (0, h)).bind (fun r17 =>
  some r17)
set_option maxRecDepth 100000 in
theorem t288 {d : Nat} (hd : 5 ≤ d) {l1 : Int} {l2 : Int} {h : hS} {w : mmW} {o : hS} (A : Abs h w) (rl1 : rg l1) (rl2 : rg l2) (e : c288 l1 l2 h = some o) : hEv d 288 [vR 395, vI l1, vI l2] w (qV o) := by
  obtain ⟨d, rfl⟩ : ∃ d1, d = d1 + 1 := ⟨d - 1, by omega⟩
  have hd : 4 ≤ d := by omega
  refine hEv_start (args := [vr 395, vi l1, vi l2]) (nl := 6) rfl (Nat.le_of_ble_eq_true rfl) ?_
  show hG d 288 0 [some (vr 395), some (vi l1), some (vi l2), none, none, none] [] w _
  have kr : ∀ h1 : hS, o = h1 → ∀ w', Abs h1 w' → qV o (none, w') := fun h1 q w' A' => by cases q; exact ⟨rfl, A'⟩
  unfold c288 at e
  refine hg_run 2 (pc' := 2) (ls' := [some (vr 395), some (vi l1), some (vi l2), some (vi 0), none, none]) (st' := []) rfl ?_
  obtain ⟨r17, e17, e⟩ := ob e
  refine t288_l2 hd rl1 rl2 _ (rgn 0 rfl) A e17 ?_
  intro x17_0 qq17 w17 z17_3 z17_4 z17_5 A17
  subst qq17
  cases e
  exact hg_retV rfl (kr _ rfl _ A17)
def c289_j154 (l5 : Int) (h : hS) : Option ((Int × hS) ⊕ ((hS) ⊕ (Int × hS))) :=
  some (.inl ((wadd l5 1), h))
set_option maxRecDepth 100000 in
theorem t289_j154 {d : Nat} (hd : 125 ≤ d) {l5 : Int} {z1 : Option hO} {l2 : Int} {l3 : Int} {l4 : Int} {h : hS} {w : mmW} {o : (Int × hS) ⊕ ((hS) ⊕ (Int × hS))} {Q : mmO → Prop} (rl5 : rg l5) (A : Abs h w) (e : c289_j154 l5 h = some o) (kb : ∀ (s_0 : Int) (s_1 : hS), o = .inl (s_0, s_1) → ∀ w', rg s_0 → Abs s_1 w' → hG d 289 45 [some (vr 395), z1, some (vi l2), some (vi l3), some (vi l4), some (vi s_0)] [] w' Q) (ke : ∀ (x_0 : hS), o = .inr (.inl (x_0)) → ∀ w', ∀ (y5 : Option hO), Abs x_0 w' → hG d 289 160 [some (vr 395), z1, some (vi l2), some (vi l3), some (vi l4), y5] [] w' Q) (kr : ∀ (v1 : Int) (h1 : hS), o = .inr (.inr (v1, h1)) → ∀ w', rg v1 → Abs h1 w' → Q (some (.int (Int32.ofInt v1)), w')) : hG d 289 154 [some (vr 395), z1, some (vi l2), some (vi l3), some (vi l4), some (vi l5)] [] w Q := by
  unfold c289_j154 at e
  refine hg_run 2 (pc' := 45) (ls' := [some (vr 395), z1, some (vi l2), some (vi l3), some (vi l4), some (vi (wadd l5 1))]) (st' := []) rfl ?_
  cases e
  exact kb (wadd l5 1) h rfl _ (rg_add _ _) A
def c289_j144 (l2 : Int) (l5 : Int) (h : hS) : Option ((Int × hS) ⊕ ((hS) ⊕ (Int × hS))) :=
  (c276 10 l2 l5 h).bind (fun v20 =>
  (kB v20.1).bind (fun u21 =>
  some (.inr (.inr (v20.1, v20.2)))))
set_option maxRecDepth 100000 in
theorem t289_j144 {d : Nat} (hd : 125 ≤ d) {l2 : Int} {l5 : Int} {z1 : Option hO} {z3 : Option hO} {z4 : Option hO} {h : hS} {w : mmW} {o : (Int × hS) ⊕ ((hS) ⊕ (Int × hS))} {Q : mmO → Prop} (rl2 : rg l2) (rl5 : rg l5) (A : Abs h w) (e : c289_j144 l2 l5 h = some o) (kb : ∀ (s_0 : Int) (s_1 : hS), o = .inl (s_0, s_1) → ∀ w', rg s_0 → Abs s_1 w' → hG d 289 45 [some (vr 395), z1, some (vi l2), z3, z4, some (vi s_0)] [] w' Q) (ke : ∀ (x_0 : hS), o = .inr (.inl (x_0)) → ∀ w', ∀ (y5 : Option hO), Abs x_0 w' → hG d 289 160 [some (vr 395), z1, some (vi l2), z3, z4, y5] [] w' Q) (kr : ∀ (v1 : Int) (h1 : hS), o = .inr (.inr (v1, h1)) → ∀ w', rg v1 → Abs h1 w' → Q (some (.int (Int32.ofInt v1)), w')) : hG d 289 144 [some (vr 395), z1, some (vi l2), z3, z4, some (vi l5)] [] w Q := by
  unfold c289_j144 at e
  refine hg_run 4 (pc' := 150) (ls' := [some (vr 395), z1, some (vi l2), z3, z4, some (vi l5)]) (st' := [vI l5, vI l2, vI 10, vR 395]) rfl ?_
  obtain ⟨v20, e20, e⟩ := ob e
  refine hg_cI (as := [vR 395, vI 10, vI l2, vI l5]) (st' := []) rfl (fun _ _ _ _ => rfl) rfl rfl (Nat.le_of_ble_eq_true rfl) (Nat.le_of_ble_eq_true rfl) (recvV A (a := 13) (Abs_ks A (i := 23) rfl).1) (t276 (by omega) A (rgn 10 rfl) rl2 rl5 e20) (fun w20 r20 A20 => ?_)
  obtain ⟨u21, e21, e⟩ := ob e
  cases e
  exact hg_retI rfl (by decide) (fit_B (kB_e e21)) (kr _ _ rfl _ r20 A20)
def c289_b45 (l2 : Int) (l3 : Int) (l4 : Int) (l5 : Int) (h : hS) : Option ((Int × hS) ⊕ ((hS) ⊕ (Int × hS))) :=
  if (hI h 395 33) ≤ l5 then
  some (.inr (.inl (h)))
  else
  if l4 = (-1) then
  some (.inr (.inl (h)))
  else
  (aIs h 403 40 l5).bind (fun v7 =>
  if v7 = 0 then
  c289_j154 l5 h
  else
  (aIs h 446 40 l5).bind (fun v9 =>
  if v9 = (-1) then
  c289_j154 l5 h
  else
  (aIs h 404 40 l5).bind (fun v11 =>
  (c279 0 v11 l4 h).bind (fun v12 =>
  if v12 = 0 then
  c289_j154 l5 h
  else
  (wIs h 408 21 0 l5).bind (fun h14 =>
  (wIs h14 409 21 0 0).bind (fun h15 =>
  (wIs h15 410 21 0 0).bind (fun h16 =>
  (c257 l3 2 h16).bind (fun v17 =>
  (g258 120 258 [v17, 0] h16).bind (fun v18 =>
  if v18.1 = 0 then
  c289_j144 l2 l5 v18.2
  else
  if (hI v18.2 395 52) = 0 then
  c289_j144 l2 l5 v18.2
  else
  c289_j154 l5 v18.2)))))))))
set_option maxRecDepth 100000 in
theorem t289_b45 {d : Nat} (hd : 125 ≤ d) {l2 : Int} {l3 : Int} {l4 : Int} {l5 : Int} {z1 : Option hO} {h : hS} {w : mmW} {o : (Int × hS) ⊕ ((hS) ⊕ (Int × hS))} {Q : mmO → Prop} (rl2 : rg l2) (rl3 : rg l3) (rl4 : rg l4) (rl5 : rg l5) (A : Abs h w) (e : c289_b45 l2 l3 l4 l5 h = some o) (kb : ∀ (s_0 : Int) (s_1 : hS), o = .inl (s_0, s_1) → ∀ w', rg s_0 → Abs s_1 w' → hG d 289 45 [some (vr 395), z1, some (vi l2), some (vi l3), some (vi l4), some (vi s_0)] [] w' Q) (ke : ∀ (x_0 : hS), o = .inr (.inl (x_0)) → ∀ w', ∀ (y5 : Option hO), Abs x_0 w' → hG d 289 160 [some (vr 395), z1, some (vi l2), some (vi l3), some (vi l4), y5] [] w' Q) (kr : ∀ (v1 : Int) (h1 : hS), o = .inr (.inr (v1, h1)) → ∀ w', rg v1 → Abs h1 w' → Q (some (.int (Int32.ofInt v1)), w')) : hG d 289 45 [some (vr 395), z1, some (vi l2), some (vi l3), some (vi l4), some (vi l5)] [] w Q := by
  unfold c289_b45 at e
  refine hg_run 2 (pc' := 48) (ls' := [some (vr 395), z1, some (vi l2), some (vi l3), some (vi l4), some (vi l5)]) (st' := [vR 395, vI l5]) rfl ?_
  refine gs_395_33 rfl A ?_
  rcases oi e with ⟨q5, e⟩ | ⟨q5, e⟩
  · refine hg_icT (tgt := 160) rfl (by decide) rl5 (Abs_rg A 395 33) q5 ?_
    cases e
    exact ke h rfl _ _  A
  · refine hg_icF (tgt := 160) rfl (by decide) rl5 (Abs_rg A 395 33) q5 ?_
    refine hg_run 2 (pc' := 57) (ls' := [some (vr 395), z1, some (vi l2), some (vi l3), some (vi l4), some (vi l5)]) (st' := [vI (-1), vI l4]) rfl ?_
    rcases oi e with ⟨q6, e⟩ | ⟨q6, e⟩
    · refine hg_icT (tgt := 160) rfl (by decide) rl4 (rgn (-1) rfl) q6 ?_
      cases e
      exact ke h rfl _ _  A
    · refine hg_icF (tgt := 160) rfl (by decide) rl4 (rgn (-1) rfl) q6 ?_
      refine hg_run 1 (pc' := 61) (ls' := [some (vr 395), z1, some (vi l2), some (vi l3), some (vi l4), some (vi l5)]) (st' := [vR 395]) rfl ?_
      refine gs_395_34 rfl A ?_
      refine hg_run 1 (pc' := 66) (ls' := [some (vr 395), z1, some (vi l2), some (vi l3), some (vi l4), some (vi l5)]) (st' := [vI l5, vR 403]) rfl ?_
      obtain ⟨v7, e7, e⟩ := ob e
      refine hg_aIs 1 rfl (fun _ _ _ _ => rfl) A (Abs_ks A (i := 31) rfl) rfl (by decide) e7 (fun r7 => ?_)
      rcases oi e with ⟨q8, e⟩ | ⟨q8, e⟩
      · refine hg_ifT (tgt := 154) rfl (by decide) r7 q8 ?_
        exact t289_j154 hd rl5 A e kb ke kr
      · refine hg_ifF (tgt := 154) rfl (by decide) r7 q8 ?_
        refine hg_run 1 (pc' := 71) (ls' := [some (vr 395), z1, some (vi l2), some (vi l3), some (vi l4), some (vi l5)]) (st' := [vR 395]) rfl ?_
        refine gs_395_93 rfl A ?_
        refine hg_run 1 (pc' := 76) (ls' := [some (vr 395), z1, some (vi l2), some (vi l3), some (vi l4), some (vi l5)]) (st' := [vI l5, vR 446]) rfl ?_
        obtain ⟨v9, e9, e⟩ := ob e
        refine hg_aIs 0 rfl (fun _ _ _ _ => rfl) A (Abs_ks A (i := 74) rfl) rfl (by decide) e9 (fun r9 => ?_)
        refine hg_run 1 (pc' := 78) (ls' := [some (vr 395), z1, some (vi l2), some (vi l3), some (vi l4), some (vi l5)]) (st' := [vI (-1), vI v9]) rfl ?_
        rcases oi e with ⟨q10, e⟩ | ⟨q10, e⟩
        · refine hg_icT (tgt := 154) rfl (by decide) r9 (rgn (-1) rfl) q10 ?_
          exact t289_j154 hd rl5 A e kb ke kr
        · refine hg_icF (tgt := 154) rfl (by decide) r9 (rgn (-1) rfl) q10 ?_
          refine hg_run 3 (pc' := 84) (ls' := [some (vr 395), z1, some (vi l2), some (vi l3), some (vi l4), some (vi l5)]) (st' := [vR 395, vI 0, vR 395]) rfl ?_
          refine gs_395_35 rfl A ?_
          refine hg_run 1 (pc' := 89) (ls' := [some (vr 395), z1, some (vi l2), some (vi l3), some (vi l4), some (vi l5)]) (st' := [vI l5, vR 404, vI 0, vR 395]) rfl ?_
          obtain ⟨v11, e11, e⟩ := ob e
          refine hg_aIs 0 rfl (fun _ _ _ _ => rfl) A (Abs_ks A (i := 32) rfl) rfl (by decide) e11 (fun r11 => ?_)
          refine hg_run 1 (pc' := 92) (ls' := [some (vr 395), z1, some (vi l2), some (vi l3), some (vi l4), some (vi l5)]) (st' := [vI l4, vI v11, vI 0, vR 395]) rfl ?_
          obtain ⟨v12, e12, e⟩ := ob e
          refine hg_cIp (as := [vR 395, vI 0, vI v11, vI l4]) (st' := []) rfl (fun _ _ _ _ => rfl) rfl rfl (Nat.le_of_ble_eq_true rfl) (Nat.le_of_ble_eq_true rfl) (recvV A (a := 13) (Abs_ks A (i := 23) rfl).1) (t279 (by omega) A (rgn 0 rfl) r11 rl4 e12) (fun r12 => ?_)
          rcases oi e with ⟨q13, e⟩ | ⟨q13, e⟩
          · refine hg_ifF (tgt := 101) rfl (by decide) r12 (show ¬ ¬ (v12 = 0) from fun f => f q13) ?_
            refine hg_run 1 (pc' := 154) (ls' := [some (vr 395), z1, some (vi l2), some (vi l3), some (vi l4), some (vi l5)]) (st' := []) rfl ?_
            exact t289_j154 hd rl5 A e kb ke kr
          · refine hg_ifT (tgt := 101) rfl (by decide) r12 (show ¬ (v12 = 0) from q13) ?_
            refine hg_run 1 (pc' := 102) (ls' := [some (vr 395), z1, some (vi l2), some (vi l3), some (vi l4), some (vi l5)]) (st' := [vR 395]) rfl ?_
            refine gs_395_43 rfl A ?_
            refine hg_run 2 (pc' := 108) (ls' := [some (vr 395), z1, some (vi l2), some (vi l3), some (vi l4), some (vi l5)]) (st' := [vI l5, vI 0, vR 408]) rfl ?_
            obtain ⟨h14, e14, e⟩ := ob e
            refine hg_wIs rfl A (Abs_ks A (i := 36) rfl) (by decide) rl5 e14 (fun w14 A14 => ?_)
            refine hg_run 1 (pc' := 110) (ls' := [some (vr 395), z1, some (vi l2), some (vi l3), some (vi l4), some (vi l5)]) (st' := [vR 395]) rfl ?_
            refine gs_395_44 rfl A14 ?_
            refine hg_run 2 (pc' := 115) (ls' := [some (vr 395), z1, some (vi l2), some (vi l3), some (vi l4), some (vi l5)]) (st' := [vI 0, vI 0, vR 409]) rfl ?_
            obtain ⟨h15, e15, e⟩ := ob e
            refine hg_wIs rfl A14 (Abs_ks A14 (i := 37) rfl) (by decide) (rgn 0 rfl) e15 (fun w15 A15 => ?_)
            refine hg_run 1 (pc' := 117) (ls' := [some (vr 395), z1, some (vi l2), some (vi l3), some (vi l4), some (vi l5)]) (st' := [vR 395]) rfl ?_
            refine gs_395_45 rfl A15 ?_
            refine hg_run 2 (pc' := 122) (ls' := [some (vr 395), z1, some (vi l2), some (vi l3), some (vi l4), some (vi l5)]) (st' := [vI 0, vI 0, vR 410]) rfl ?_
            obtain ⟨h16, e16, e⟩ := ob e
            refine hg_wIs rfl A15 (Abs_ks A15 (i := 38) rfl) (by decide) (rgn 0 rfl) e16 (fun w16 A16 => ?_)
            refine hg_run 4 (pc' := 127) (ls' := [some (vr 395), z1, some (vi l2), some (vi l3), some (vi l4), some (vi l5)]) (st' := [vI 2, vI l3, vR 395, vR 395]) rfl ?_
            obtain ⟨v17, e17, e⟩ := ob e
            refine hg_cIp (as := [vR 395, vI l3, vI 2]) (st' := [vR 395]) rfl (fun _ _ _ _ => rfl) rfl rfl (Nat.le_of_ble_eq_true rfl) (Nat.le_of_ble_eq_true rfl) (recvV A16 (a := 13) (Abs_ks A16 (i := 23) rfl).1) (t257 (by omega) A16 rl3 (rgn 2 rfl) e17) (fun r17 => ?_)
            refine hg_run 1 (pc' := 131) (ls' := [some (vr 395), z1, some (vi l2), some (vi l3), some (vi l4), some (vi l5)]) (st' := [vI 0, vI v17, vR 395]) rfl ?_
            obtain ⟨v18, e18, e⟩ := ob e
            refine hg_cI (as := [vR 395, vI v17, vI 0]) (st' := []) rfl (fun _ _ _ _ => rfl) rfl rfl (Nat.le_of_ble_eq_true rfl) (Nat.le_of_ble_eq_true rfl) (recvV A16 (a := 13) (Abs_ks A16 (i := 23) rfl).1) (u258 120 (by omega) 258 _ _ _ _ A16 (rglc r17 (rglc (rgn 0 rfl) rgl0)) e18) (fun w18 r18 A18 => ?_)
            rcases oi e with ⟨q19, e⟩ | ⟨q19, e⟩
            · refine hg_ifT (tgt := 144) rfl (by decide) r18 q19 ?_
              exact t289_j144 hd rl2 rl5 A18 e kb ke kr
            · refine hg_ifF (tgt := 144) rfl (by decide) r18 q19 ?_
              refine hg_run 1 (pc' := 138) (ls' := [some (vr 395), z1, some (vi l2), some (vi l3), some (vi l4), some (vi l5)]) (st' := [vR 395]) rfl ?_
              refine gs_395_52 rfl A18 ?_
              rcases oi e with ⟨q22, e⟩ | ⟨q22, e⟩
              · refine hg_ifF (tgt := 154) rfl (by decide) (Abs_rg A18 395 52) (show ¬ ¬ ((hI v18.2 395 52) = 0) from fun f => f q22) ?_
                exact t289_j144 hd rl2 rl5 A18 e kb ke kr
              · refine hg_ifT (tgt := 154) rfl (by decide) (Abs_rg A18 395 52) (show ¬ ((hI v18.2 395 52) = 0) from q22) ?_
                exact t289_j154 hd rl5 A18 e kb ke kr
set_option maxRecDepth 100000 in
theorem t289_l45 {d : Nat} (hd : 125 ≤ d) {l2 : Int} {l3 : Int} {l4 : Int} {z1 : Option hO} {Q : mmO → Prop} (rl2 : rg l2) (rl3 : rg l3) (rl4 : rg l4) (n : Nat) {l5 : Int}  {h : hS} {w : mmW} {r : (hS) ⊕ (Int × hS)} (rl5 : rg l5) (A : Abs h w) (e : lp (fun s => c289_b45 l2 l3 l4 s.1 s.2) n (l5, h) = some r) (ke : ∀ (x_0 : hS), r = .inl (x_0) → ∀ w', ∀ (y5 : Option hO), Abs x_0 w' → hG d 289 160 [some (vr 395), z1, some (vi l2), some (vi l3), some (vi l4), y5] [] w' Q) (kr : ∀ (v1 : Int) (h1 : hS), r = .inr (v1, h1) → ∀ w', rg v1 → Abs h1 w' → Q (some (.int (Int32.ofInt v1)), w')) : hG d 289 45 [some (vr 395), z1, some (vi l2), some (vi l3), some (vi l4), some (vi l5)] [] w Q := by
  induction n generalizing l5 h w with
  | zero => cases e
  | succ n ih =>
    rcases lp_succ e with ⟨s1, e1, e2⟩ | e1
    · exact t289_b45 hd rl2 rl3 rl4 rl5 A e1 (fun s_0 s_1 q w1 rl5 A1 => by cases q; exact ih rl5 A1 e2) (fun x_0 q => by cases q) (fun v0 h0 q => by cases q)
    · exact t289_b45 hd rl2 rl3 rl4 rl5 A e1 (fun s_0 s_1 q => by cases q) (fun x_0 q => by cases q; exact ke _ rfl) (fun v0 h0 q => by cases q; exact kr _ _ rfl)
def c289_j40 (s0 : Int) (l2 : Int) (l3 : Int) (h : hS) : Option ((Int × Int × hS) ⊕ ((hS) ⊕ (Int × hS))) :=
  (lp (fun s => c289_b45 l2 l3 s0 s.1 s.2) hF0 (0, h)).bind (fun r23 => xs r23 (fun x23 =>
  (c257 l3 4 x23).bind (fun v24 =>
  some (.inl ((wadd l2 1), v24, x23)))) (fun o23 => some (.inr (.inr o23))))
set_option maxRecDepth 100000 in
theorem t289_j40 {d : Nat} (hd : 125 ≤ d) {s0 : Int} {l2 : Int} {l3 : Int} {z1 : Option hO} {z4 : Option hO} {z5 : Option hO} {h : hS} {w : mmW} {o : (Int × Int × hS) ⊕ ((hS) ⊕ (Int × hS))} {Q : mmO → Prop} (rs0 : rg s0) (rl2 : rg l2) (rl3 : rg l3) (A : Abs h w) (e : c289_j40 s0 l2 l3 h = some o) (kb : ∀ (s_0 : Int) (s_1 : Int) (s_2 : hS), o = .inl (s_0, s_1, s_2) → ∀ w', ∀ (y4 y5 : Option hO), rg s_0 → rg s_1 → Abs s_2 w' → hG d 289 9 [some (vr 395), z1, some (vi s_0), some (vi s_1), y4, y5] [] w' Q) (ke : ∀ (x_0 : hS), o = .inr (.inl (x_0)) → ∀ w', ∀ (y2 y3 y4 y5 : Option hO), Abs x_0 w' → hG d 289 173 [some (vr 395), z1, y2, y3, y4, y5] [] w' Q) (kr : ∀ (v1 : Int) (h1 : hS), o = .inr (.inr (v1, h1)) → ∀ w', rg v1 → Abs h1 w' → Q (some (.int (Int32.ofInt v1)), w')) : hG d 289 40 [some (vr 395), z1, some (vi l2), some (vi l3), z4, z5] [vI s0] w Q := by
  unfold c289_j40 at e
  refine hg_run 3 (pc' := 45) (ls' := [some (vr 395), z1, some (vi l2), some (vi l3), some (vi s0), some (vi 0)]) (st' := []) rfl ?_
  obtain ⟨r23, e23, e⟩ := ob e
  refine t289_l45 hd rl2 rl3 rs0 _ (rgn 0 rfl) A e23 ?_ ?_
  · intro x23_0 qq23 w23 z23_5 A23
    subst qq23
    have e := xs_l e
    refine hg_run 4 (pc' := 166) (ls' := [some (vr 395), z1, some (vi (wadd l2 1)), some (vi l3), some (vi s0), z23_5]) (st' := [vI 4, vI l3, vR 395]) rfl ?_
    obtain ⟨v24, e24, e⟩ := ob e
    refine hg_cIp (as := [vR 395, vI l3, vI 4]) (st' := []) rfl (fun _ _ _ _ => rfl) rfl rfl (Nat.le_of_ble_eq_true rfl) (Nat.le_of_ble_eq_true rfl) (recvV A23 (a := 13) (Abs_ks A23 (i := 23) rfl).1) (t257 (by omega) A23 rl3 (rgn 4 rfl) e24) (fun r24 => ?_)
    refine hg_run 2 (pc' := 9) (ls' := [some (vr 395), z1, some (vi (wadd l2 1)), some (vi v24), some (vi s0), z23_5]) (st' := []) rfl ?_
    cases e
    exact kb (wadd l2 1) v24 x23_0 rfl _ _ _ (rg_add _ _) r24 A23
  · intro v23 h23 qq23 w23 r23 A23
    subst qq23
    have e := xs_r e
    cases e
    exact kr _ _ rfl w23 r23 A23
def c289_b9 (l2 : Int) (l3 : Int) (h : hS) : Option ((Int × Int × hS) ⊕ ((hS) ⊕ (Int × hS))) :=
  if l3 = (-1) then
  some (.inr (.inl (h)))
  else
  (c256 l3 0 h).bind (fun v3 =>
  if v3 = 44 then
  (c256 l3 1 h).bind (fun v25 =>
  (c197 0 v25 h).bind (fun v26 =>
  c289_j40 v26 l2 l3 h))
  else
  c289_j40 (-1) l2 l3 h)
set_option maxRecDepth 100000 in
theorem t289_b9 {d : Nat} (hd : 125 ≤ d) {l2 : Int} {l3 : Int} {z1 : Option hO} {z4 : Option hO} {z5 : Option hO} {h : hS} {w : mmW} {o : (Int × Int × hS) ⊕ ((hS) ⊕ (Int × hS))} {Q : mmO → Prop} (rl2 : rg l2) (rl3 : rg l3) (A : Abs h w) (e : c289_b9 l2 l3 h = some o) (kb : ∀ (s_0 : Int) (s_1 : Int) (s_2 : hS), o = .inl (s_0, s_1, s_2) → ∀ w', ∀ (y4 y5 : Option hO), rg s_0 → rg s_1 → Abs s_2 w' → hG d 289 9 [some (vr 395), z1, some (vi s_0), some (vi s_1), y4, y5] [] w' Q) (ke : ∀ (x_0 : hS), o = .inr (.inl (x_0)) → ∀ w', ∀ (y2 y3 y4 y5 : Option hO), Abs x_0 w' → hG d 289 173 [some (vr 395), z1, y2, y3, y4, y5] [] w' Q) (kr : ∀ (v1 : Int) (h1 : hS), o = .inr (.inr (v1, h1)) → ∀ w', rg v1 → Abs h1 w' → Q (some (.int (Int32.ofInt v1)), w')) : hG d 289 9 [some (vr 395), z1, some (vi l2), some (vi l3), z4, z5] [] w Q := by
  unfold c289_b9 at e
  refine hg_run 2 (pc' := 11) (ls' := [some (vr 395), z1, some (vi l2), some (vi l3), z4, z5]) (st' := [vI (-1), vI l3]) rfl ?_
  rcases oi e with ⟨q2, e⟩ | ⟨q2, e⟩
  · refine hg_icT (tgt := 173) rfl (by decide) rl3 (rgn (-1) rfl) q2 ?_
    cases e
    exact ke h rfl _ _ _ _ _  A
  · refine hg_icF (tgt := 173) rfl (by decide) rl3 (rgn (-1) rfl) q2 ?_
    refine hg_run 3 (pc' := 17) (ls' := [some (vr 395), z1, some (vi l2), some (vi l3), z4, z5]) (st' := [vI 0, vI l3, vR 395]) rfl ?_
    obtain ⟨v3, e3, e⟩ := ob e
    refine hg_cIp (as := [vR 395, vI l3, vI 0]) (st' := []) rfl (fun _ _ _ _ => rfl) rfl rfl (Nat.le_of_ble_eq_true rfl) (Nat.le_of_ble_eq_true rfl) (recvV A (a := 13) (Abs_ks A (i := 23) rfl).1) (t256 (by omega) A rl3 (rgn 0 rfl) e3) (fun r3 => ?_)
    refine hg_run 1 (pc' := 22) (ls' := [some (vr 395), z1, some (vi l2), some (vi l3), z4, z5]) (st' := [vI 44, vI v3]) rfl ?_
    rcases oi e with ⟨q4, e⟩ | ⟨q4, e⟩
    · refine hg_icF (tgt := 39) rfl (by decide) r3 (rgn 44 rfl) (show ¬ ¬ (v3 = 44) from fun f => f q4) ?_
      refine hg_run 5 (pc' := 30) (ls' := [some (vr 395), z1, some (vi l2), some (vi l3), z4, z5]) (st' := [vI 1, vI l3, vR 395, vI 0, vR 395]) rfl ?_
      obtain ⟨v25, e25, e⟩ := ob e
      refine hg_cIp (as := [vR 395, vI l3, vI 1]) (st' := [vI 0, vR 395]) rfl (fun _ _ _ _ => rfl) rfl rfl (Nat.le_of_ble_eq_true rfl) (Nat.le_of_ble_eq_true rfl) (recvV A (a := 13) (Abs_ks A (i := 23) rfl).1) (t256 (by omega) A rl3 (rgn 1 rfl) e25) (fun r25 => ?_)
      obtain ⟨v26, e26, e⟩ := ob e
      refine hg_cIp (as := [vR 395, vI 0, vI v25]) (st' := []) rfl (fun _ _ _ _ => rfl) rfl rfl (Nat.le_of_ble_eq_true rfl) (Nat.le_of_ble_eq_true rfl) (recvV A (a := 13) (Abs_ks A (i := 23) rfl).1) (t197 (by omega) A (rgn 0 rfl) r25 e26) (fun r26 => ?_)
      refine hg_run 1 (pc' := 40) (ls' := [some (vr 395), z1, some (vi l2), some (vi l3), z4, z5]) (st' := [vI v26]) rfl ?_
      exact t289_j40 hd r26 rl2 rl3 A e kb ke kr
    · refine hg_icT (tgt := 39) rfl (by decide) r3 (rgn 44 rfl) (show ¬ (v3 = 44) from q4) ?_
      refine hg_run 1 (pc' := 40) (ls' := [some (vr 395), z1, some (vi l2), some (vi l3), z4, z5]) (st' := [vI (-1)]) rfl ?_
      exact t289_j40 hd (rgn (-1) rfl) rl2 rl3 A e kb ke kr
set_option maxRecDepth 100000 in
theorem t289_l9 {d : Nat} (hd : 125 ≤ d)  {z1 : Option hO} {Q : mmO → Prop}  (n : Nat) {l2 : Int} {l3 : Int} {z4 z5 : Option hO} {h : hS} {w : mmW} {r : (hS) ⊕ (Int × hS)} (rl2 : rg l2) (rl3 : rg l3) (A : Abs h w) (e : lp (fun s => c289_b9  s.1 s.2.1 s.2.2) n (l2, l3, h) = some r) (ke : ∀ (x_0 : hS), r = .inl (x_0) → ∀ w', ∀ (y2 y3 y4 y5 : Option hO), Abs x_0 w' → hG d 289 173 [some (vr 395), z1, y2, y3, y4, y5] [] w' Q) (kr : ∀ (v1 : Int) (h1 : hS), r = .inr (v1, h1) → ∀ w', rg v1 → Abs h1 w' → Q (some (.int (Int32.ofInt v1)), w')) : hG d 289 9 [some (vr 395), z1, some (vi l2), some (vi l3), z4, z5] [] w Q := by
  induction n generalizing l2 l3 z4 z5 h w with
  | zero => cases e
  | succ n ih =>
    rcases lp_succ e with ⟨s1, e1, e2⟩ | e1
    · exact t289_b9 hd rl2 rl3 A e1 (fun s_0 s_1 s_2 q w1 y4 y5 rl2 rl3 A1 => by cases q; exact ih rl2 rl3 A1 e2) (fun x_0 q => by cases q) (fun v0 h0 q => by cases q)
    · exact t289_b9 hd rl2 rl3 A e1 (fun s_0 s_1 s_2 q => by cases q) (fun x_0 q => by cases q; exact ke _ rfl) (fun v0 h0 q => by cases q; exact kr _ _ rfl)
def c289 (l1 : Int) (h : hS) : Option (Int × hS) :=
  (aIs h 401 6 l1).bind (fun v1 =>
  (lp (fun s => c289_b9  s.1 s.2.1 s.2.2) hF0 (0, v1, h)).bind (fun r27 => xs r27 (fun x27 =>
  some (1, x27)) (fun o27 => some o27)))
set_option maxRecDepth 100000 in
theorem t289 {d : Nat} (hd : 126 ≤ d) {l1 : Int} {h : hS} {w : mmW} {o : Int × hS} (A : Abs h w) (rl1 : rg l1) (e : c289 l1 h = some o) : hEv d 289 [vR 395, vI l1] w (qI o) := by
  obtain ⟨d, rfl⟩ : ∃ d1, d = d1 + 1 := ⟨d - 1, by omega⟩
  have hd : 125 ≤ d := by omega
  refine hEv_start (args := [vr 395, vi l1]) (nl := 6) rfl (Nat.le_of_ble_eq_true rfl) ?_
  show hG d 289 0 [some (vr 395), some (vi l1), none, none, none, none] [] w _
  have kr : ∀ (v1 : Int) (h1 : hS), o = (v1, h1) → ∀ w', rg v1 → Abs h1 w' → qI o (some (.int (Int32.ofInt v1)), w') := fun v1 h1 q w' r A' => by cases q; exact ⟨rfl, r, A'⟩
  unfold c289 at e
  refine hg_run 3 (pc' := 3) (ls' := [some (vr 395), some (vi l1), some (vi 0), none, none, none]) (st' := [vR 395]) rfl ?_
  refine gs_395_31 rfl A ?_
  refine hg_run 1 (pc' := 7) (ls' := [some (vr 395), some (vi l1), some (vi 0), none, none, none]) (st' := [vI l1, vR 401]) rfl ?_
  obtain ⟨v1, e1, e⟩ := ob e
  refine hg_aIs 0 rfl (fun _ _ _ _ => rfl) A (Abs_ks A (i := 29) rfl) rfl (by decide) e1 (fun r1 => ?_)
  refine hg_run 1 (pc' := 9) (ls' := [some (vr 395), some (vi l1), some (vi 0), some (vi v1), none, none]) (st' := []) rfl ?_
  obtain ⟨r27, e27, e⟩ := ob e
  refine t289_l9 hd  _ (rgn 0 rfl) r1 A e27 ?_ ?_
  · intro x27_0 qq27 w27 z27_2 z27_3 z27_4 z27_5 A27
    subst qq27
    have e := xs_l e
    refine hg_run 1 (pc' := 174) (ls' := [some (vr 395), some (vi l1), z27_2, z27_3, z27_4, z27_5]) (st' := [vI 1]) rfl ?_
    cases e
    exact hg_retI rfl (by decide) (fit_B (.inr rfl)) (kr _ _ rfl _ (rgn 1 rfl) A27)
  · intro v27 h27 qq27 w27 r27 A27
    subst qq27
    have e := xs_r e
    cases e
    exact kr _ _ rfl w27 r27 A27
def c290_j51 (l2 : Int) (h : hS) : Option ((Int × hS) ⊕ (hS)) :=
  some (.inl ((wadd l2 1), h))
theorem t290_j51 {d : Nat} (hd : 0 ≤ d) {l2 : Int} {l1 : Int} {h : hS} {w : mmW} {o : (Int × hS) ⊕ (hS)} {Q : mmO → Prop} (rl2 : rg l2) (A : Abs h w) (e : c290_j51 l2 h = some o) (kb : ∀ (s_0 : Int) (s_1 : hS), o = .inl (s_0, s_1) → ∀ w', rg s_0 → Abs s_1 w' → hG d 290 9 [some (vr 395), some (vi l1), some (vi s_0)] [] w' Q) (ke : ∀ (x_0 : hS), o = .inr (x_0) → ∀ w', ∀ (y2 : Option hO), Abs x_0 w' → hG d 290 57 [some (vr 395), some (vi l1), y2] [] w' Q) : hG d 290 51 [some (vr 395), some (vi l1), some (vi l2)] [] w Q := by
  unfold c290_j51 at e
  refine hg_run 2 (pc' := 9) (ls' := [some (vr 395), some (vi l1), some (vi (wadd l2 1))]) (st' := []) rfl ?_
  cases e
  exact kb (wadd l2 1) h rfl _ (rg_add _ _) A
def c290_b9 (l1 : Int) (l2 : Int) (h : hS) : Option ((Int × hS) ⊕ (hS)) :=
  if 10 ≤ l2 then
  some (.inr (h))
  else
  (aIs h 423 10 l2).bind (fun v3 =>
  if v3 = 0 then
  c290_j51 l2 h
  else
  (aIs h 426 10 l2).bind (fun v5 =>
  if v5 = l1 then
  (wIs h 423 10 l2 (wbol 0)).bind (fun h7 =>
  (wIs h7 431 10 l2 3).bind (fun h8 =>
  c290_j51 l2 h8))
  else
  c290_j51 l2 h))
theorem t290_b9 {d : Nat} (hd : 0 ≤ d) {l1 : Int} {l2 : Int}  {h : hS} {w : mmW} {o : (Int × hS) ⊕ (hS)} {Q : mmO → Prop} (rl1 : rg l1) (rl2 : rg l2) (A : Abs h w) (e : c290_b9 l1 l2 h = some o) (kb : ∀ (s_0 : Int) (s_1 : hS), o = .inl (s_0, s_1) → ∀ w', rg s_0 → Abs s_1 w' → hG d 290 9 [some (vr 395), some (vi l1), some (vi s_0)] [] w' Q) (ke : ∀ (x_0 : hS), o = .inr (x_0) → ∀ w', ∀ (y2 : Option hO), Abs x_0 w' → hG d 290 57 [some (vr 395), some (vi l1), y2] [] w' Q) : hG d 290 9 [some (vr 395), some (vi l1), some (vi l2)] [] w Q := by
  unfold c290_b9 at e
  refine hg_run 2 (pc' := 12) (ls' := [some (vr 395), some (vi l1), some (vi l2)]) (st' := [vI 10, vI l2]) rfl ?_
  rcases oi e with ⟨q2, e⟩ | ⟨q2, e⟩
  · refine hg_icT (tgt := 57) rfl (by decide) rl2 (rgn 10 rfl) q2 ?_
    cases e
    exact ke h rfl _ _  A
  · refine hg_icF (tgt := 57) rfl (by decide) rl2 (rgn 10 rfl) q2 ?_
    refine hg_run 1 (pc' := 16) (ls' := [some (vr 395), some (vi l1), some (vi l2)]) (st' := [vR 395]) rfl ?_
    refine gs_395_67 rfl A ?_
    refine hg_run 1 (pc' := 20) (ls' := [some (vr 395), some (vi l1), some (vi l2)]) (st' := [vI l2, vR 423]) rfl ?_
    obtain ⟨v3, e3, e⟩ := ob e
    refine hg_aIs 1 rfl (fun _ _ _ _ => rfl) A (Abs_ks A (i := 51) rfl) rfl (by decide) e3 (fun r3 => ?_)
    rcases oi e with ⟨q4, e⟩ | ⟨q4, e⟩
    · refine hg_ifT (tgt := 51) rfl (by decide) r3 q4 ?_
      exact t290_j51 hd rl2 A e kb ke
    · refine hg_ifF (tgt := 51) rfl (by decide) r3 q4 ?_
      refine hg_run 1 (pc' := 25) (ls' := [some (vr 395), some (vi l1), some (vi l2)]) (st' := [vR 395]) rfl ?_
      refine gs_395_70 rfl A ?_
      refine hg_run 1 (pc' := 29) (ls' := [some (vr 395), some (vi l1), some (vi l2)]) (st' := [vI l2, vR 426]) rfl ?_
      obtain ⟨v5, e5, e⟩ := ob e
      refine hg_aIs 0 rfl (fun _ _ _ _ => rfl) A (Abs_ks A (i := 54) rfl) rfl (by decide) e5 (fun r5 => ?_)
      refine hg_run 1 (pc' := 31) (ls' := [some (vr 395), some (vi l1), some (vi l2)]) (st' := [vI l1, vI v5]) rfl ?_
      rcases oi e with ⟨q6, e⟩ | ⟨q6, e⟩
      · refine hg_icT (tgt := 37) rfl (by decide) r5 rl1 q6 ?_
        refine hg_run 1 (pc' := 38) (ls' := [some (vr 395), some (vi l1), some (vi l2)]) (st' := [vR 395]) rfl ?_
        refine gs_395_67 rfl A ?_
        refine hg_run 2 (pc' := 43) (ls' := [some (vr 395), some (vi l1), some (vi l2)]) (st' := [vI 0, vI l2, vR 423]) rfl ?_
        obtain ⟨h7, e7, e⟩ := ob e
        refine hg_wBs rfl A (Abs_ks A (i := 51) rfl) (by decide) e7 (fun w7 A7 => ?_)
        refine hg_run 1 (pc' := 45) (ls' := [some (vr 395), some (vi l1), some (vi l2)]) (st' := [vR 395]) rfl ?_
        refine gs_395_75 rfl A7 ?_
        refine hg_run 2 (pc' := 50) (ls' := [some (vr 395), some (vi l1), some (vi l2)]) (st' := [vI 3, vI l2, vR 431]) rfl ?_
        obtain ⟨h8, e8, e⟩ := ob e
        refine hg_wIs rfl A7 (Abs_ks A7 (i := 59) rfl) (by decide) (rgn 3 rfl) e8 (fun w8 A8 => ?_)
        exact t290_j51 hd rl2 A8 e kb ke
      · refine hg_icF (tgt := 37) rfl (by decide) r5 rl1 q6 ?_
        refine hg_run 1 (pc' := 51) (ls' := [some (vr 395), some (vi l1), some (vi l2)]) (st' := []) rfl ?_
        exact t290_j51 hd rl2 A e kb ke
theorem t290_l9 {d : Nat} (hd : 0 ≤ d) {l1 : Int}  {Q : mmO → Prop} (rl1 : rg l1) (n : Nat) {l2 : Int}  {h : hS} {w : mmW} {r : hS} (rl2 : rg l2) (A : Abs h w) (e : lp (fun s => c290_b9 l1 s.1 s.2) n (l2, h) = some r) (ke : ∀ (x_0 : hS), r = (x_0) → ∀ w', ∀ (y2 : Option hO), Abs x_0 w' → hG d 290 57 [some (vr 395), some (vi l1), y2] [] w' Q) : hG d 290 9 [some (vr 395), some (vi l1), some (vi l2)] [] w Q := by
  induction n generalizing l2 h w with
  | zero => cases e
  | succ n ih =>
    rcases lp_succ e with ⟨s1, e1, e2⟩ | e1
    · exact t290_b9 hd rl1 rl2 A e1 (fun s_0 s_1 q w1 rl2 A1 => by cases q; exact ih rl2 A1 e2) (fun x_0 q => by cases q)
    · exact t290_b9 hd rl1 rl2 A e1 (fun s_0 s_1 q => by cases q) (fun x_0 q => by cases q; exact ke _ rfl)
def c290 (l1 : Int) (h : hS) : Option (hS) :=
  (wIs h 403 40 l1 (wbol 0)).bind (fun h1 =>
  (lp (fun s => c290_b9 l1 s.1 s.2) hF0 (0, h1)).bind (fun r9 =>
  some r9))
theorem t290 {d : Nat} (hd : 1 ≤ d) {l1 : Int} {h : hS} {w : mmW} {o : hS} (A : Abs h w) (rl1 : rg l1) (e : c290 l1 h = some o) : hEv d 290 [vR 395, vI l1] w (qV o) := by
  obtain ⟨d, rfl⟩ : ∃ d1, d = d1 + 1 := ⟨d - 1, by omega⟩
  have hd : 0 ≤ d := by omega
  refine hEv_start (args := [vr 395, vi l1]) (nl := 3) rfl (Nat.le_of_ble_eq_true rfl) ?_
  show hG d 290 0 [some (vr 395), some (vi l1), none] [] w _
  have kr : ∀ h1 : hS, o = h1 → ∀ w', Abs h1 w' → qV o (none, w') := fun h1 q w' A' => by cases q; exact ⟨rfl, A'⟩
  unfold c290 at e
  refine hg_run 1 (pc' := 1) (ls' := [some (vr 395), some (vi l1), none]) (st' := [vR 395]) rfl ?_
  refine gs_395_34 rfl A ?_
  refine hg_run 2 (pc' := 6) (ls' := [some (vr 395), some (vi l1), none]) (st' := [vI 0, vI l1, vR 403]) rfl ?_
  obtain ⟨h1, e1, e⟩ := ob e
  refine hg_wBs rfl A (Abs_ks A (i := 31) rfl) (by decide) e1 (fun w1 A1 => ?_)
  refine hg_run 2 (pc' := 9) (ls' := [some (vr 395), some (vi l1), some (vi 0)]) (st' := []) rfl ?_
  obtain ⟨r9, e9, e⟩ := ob e
  refine t290_l9 hd rl1 _ (rgn 0 rfl) A1 e9 ?_
  intro x9_0 qq9 w9 z9_2 A9
  subst qq9
  cases e
  exact hg_retV rfl (kr _ rfl _ A9)
def c283_b2 (l2 : Int) (h : hS) : Option ((Int × hS) ⊕ (hS)) :=
  if 1600 ≤ l2 then
  some (.inr (h))
  else
  (wIs h 442 1600 l2 (wbol 0)).bind (fun h2 =>
  some (.inl ((wadd l2 1), h2)))
set_option maxRecDepth 100000 in
theorem t283_b2 {d : Nat} (hd : 126 ≤ d) {l2 : Int} {l1 : Int} {z3 : Option hO} {h : hS} {w : mmW} {o : (Int × hS) ⊕ (hS)} {Q : mmO → Prop} (rl2 : rg l2) (A : Abs h w) (e : c283_b2 l2 h = some o) (kb : ∀ (s_0 : Int) (s_1 : hS), o = .inl (s_0, s_1) → ∀ w', rg s_0 → Abs s_1 w' → hG d 283 2 [some (vr 395), some (vi l1), some (vi s_0), z3] [] w' Q) (ke : ∀ (x_0 : hS), o = .inr (x_0) → ∀ w', ∀ (y2 : Option hO), Abs x_0 w' → hG d 283 22 [some (vr 395), some (vi l1), y2, z3] [] w' Q) : hG d 283 2 [some (vr 395), some (vi l1), some (vi l2), z3] [] w Q := by
  unfold c283_b2 at e
  refine hg_run 2 (pc' := 6) (ls' := [some (vr 395), some (vi l1), some (vi l2), z3]) (st' := [vI 1600, vI l2]) rfl ?_
  rcases oi e with ⟨q1, e⟩ | ⟨q1, e⟩
  · refine hg_icT (tgt := 22) rfl (by decide) rl2 (rgn 1600 rfl) q1 ?_
    cases e
    exact ke h rfl _ _  A
  · refine hg_icF (tgt := 22) rfl (by decide) rl2 (rgn 1600 rfl) q1 ?_
    refine hg_run 1 (pc' := 10) (ls' := [some (vr 395), some (vi l1), some (vi l2), z3]) (st' := [vR 395]) rfl ?_
    refine gs_395_89 rfl A ?_
    refine hg_run 2 (pc' := 15) (ls' := [some (vr 395), some (vi l1), some (vi l2), z3]) (st' := [vI 0, vI l2, vR 442]) rfl ?_
    obtain ⟨h2, e2, e⟩ := ob e
    refine hg_wBs rfl A (Abs_ks A (i := 70) rfl) (by decide) e2 (fun w2 A2 => ?_)
    refine hg_run 2 (pc' := 2) (ls' := [some (vr 395), some (vi l1), some (vi (wadd l2 1)), z3]) (st' := []) rfl ?_
    cases e
    exact kb (wadd l2 1) h2 rfl _ (rg_add _ _) A2
set_option maxRecDepth 100000 in
theorem t283_l2 {d : Nat} (hd : 126 ≤ d)  {l1 : Int} {z3 : Option hO} {Q : mmO → Prop}  (n : Nat) {l2 : Int}  {h : hS} {w : mmW} {r : hS} (rl2 : rg l2) (A : Abs h w) (e : lp (fun s => c283_b2  s.1 s.2) n (l2, h) = some r) (ke : ∀ (x_0 : hS), r = (x_0) → ∀ w', ∀ (y2 : Option hO), Abs x_0 w' → hG d 283 22 [some (vr 395), some (vi l1), y2, z3] [] w' Q) : hG d 283 2 [some (vr 395), some (vi l1), some (vi l2), z3] [] w Q := by
  induction n generalizing l2 h w with
  | zero => cases e
  | succ n ih =>
    rcases lp_succ e with ⟨s1, e1, e2⟩ | e1
    · exact t283_b2 hd rl2 A e1 (fun s_0 s_1 q w1 rl2 A1 => by cases q; exact ih rl2 A1 e2) (fun x_0 q => by cases q)
    · exact t283_b2 hd rl2 A e1 (fun s_0 s_1 q => by cases q) (fun x_0 q => by cases q; exact ke _ rfl)
def c283_j104 (l2 : Int) (h : hS) : Option ((Int × hS) ⊕ ((hS) ⊕ (Int × hS))) :=
  some (.inl ((wadd l2 1), h))
set_option maxRecDepth 100000 in
theorem t283_j104 {d : Nat} (hd : 126 ≤ d) {l2 : Int} {l1 : Int} {z3 : Option hO} {h : hS} {w : mmW} {o : (Int × hS) ⊕ ((hS) ⊕ (Int × hS))} {Q : mmO → Prop} (rl2 : rg l2) (A : Abs h w) (e : c283_j104 l2 h = some o) (kb : ∀ (s_0 : Int) (s_1 : hS), o = .inl (s_0, s_1) → ∀ w', rg s_0 → Abs s_1 w' → hG d 283 29 [some (vr 395), some (vi l1), some (vi s_0), z3] [] w' Q) (ke : ∀ (x_0 : hS), o = .inr (.inl (x_0)) → ∀ w', ∀ (y2 : Option hO), Abs x_0 w' → hG d 283 110 [some (vr 395), some (vi l1), y2, z3] [] w' Q) (kr : ∀ (v1 : Int) (h1 : hS), o = .inr (.inr (v1, h1)) → ∀ w', rg v1 → Abs h1 w' → Q (some (.int (Int32.ofInt v1)), w')) : hG d 283 104 [some (vr 395), some (vi l1), some (vi l2), z3] [] w Q := by
  unfold c283_j104 at e
  refine hg_run 2 (pc' := 29) (ls' := [some (vr 395), some (vi l1), some (vi (wadd l2 1)), z3]) (st' := []) rfl ?_
  cases e
  exact kb (wadd l2 1) h rfl _ (rg_add _ _) A
def c283_j60 (s1 : Int) (s2 : Int) (l1 : Int) (l2 : Int) (h : hS) : Option ((Int × hS) ⊕ ((hS) ⊕ (Int × hS))) :=
  (wIs h 446 40 s1 s2).bind (fun h8 =>
  (aIs h8 446 40 l2).bind (fun v9 =>
  if v9 = (-1) then
  c283_j104 l2 h8
  else
  (aIs h8 446 40 l2).bind (fun v11 =>
  (c199 1 v11 3 h8).bind (fun v12 =>
  if v12 = 1 then
  (aIs h8 446 40 l2).bind (fun v14 =>
  (c285 l1 l2 v14 h8).bind (fun v15 =>
  if v15.1 = 0 then
  some (.inr (.inr (0, v15.2)))
  else
  c283_j104 l2 v15.2))
  else
  c283_j104 l2 h8))))
set_option maxRecDepth 100000 in
theorem t283_j60 {d : Nat} (hd : 126 ≤ d) {s1 : Int} {s2 : Int} {l1 : Int} {l2 : Int} {z3 : Option hO} {h : hS} {w : mmW} {o : (Int × hS) ⊕ ((hS) ⊕ (Int × hS))} {Q : mmO → Prop} (rs1 : rg s1) (rs2 : rg s2) (rl1 : rg l1) (rl2 : rg l2) (A : Abs h w) (e : c283_j60 s1 s2 l1 l2 h = some o) (kb : ∀ (s_0 : Int) (s_1 : hS), o = .inl (s_0, s_1) → ∀ w', rg s_0 → Abs s_1 w' → hG d 283 29 [some (vr 395), some (vi l1), some (vi s_0), z3] [] w' Q) (ke : ∀ (x_0 : hS), o = .inr (.inl (x_0)) → ∀ w', ∀ (y2 : Option hO), Abs x_0 w' → hG d 283 110 [some (vr 395), some (vi l1), y2, z3] [] w' Q) (kr : ∀ (v1 : Int) (h1 : hS), o = .inr (.inr (v1, h1)) → ∀ w', rg v1 → Abs h1 w' → Q (some (.int (Int32.ofInt v1)), w')) : hG d 283 60 [some (vr 395), some (vi l1), some (vi l2), z3] [vI s2, vI s1, vR 446] w Q := by
  unfold c283_j60 at e
  obtain ⟨h8, e8, e⟩ := ob e
  refine hg_wIs rfl A (Abs_ks A (i := 74) rfl) (by decide) rs2 e8 (fun w8 A8 => ?_)
  refine hg_run 1 (pc' := 62) (ls' := [some (vr 395), some (vi l1), some (vi l2), z3]) (st' := [vR 395]) rfl ?_
  refine gs_395_93 rfl A8 ?_
  refine hg_run 1 (pc' := 66) (ls' := [some (vr 395), some (vi l1), some (vi l2), z3]) (st' := [vI l2, vR 446]) rfl ?_
  obtain ⟨v9, e9, e⟩ := ob e
  refine hg_aIs 0 rfl (fun _ _ _ _ => rfl) A8 (Abs_ks A8 (i := 74) rfl) rfl (by decide) e9 (fun r9 => ?_)
  refine hg_run 1 (pc' := 68) (ls' := [some (vr 395), some (vi l1), some (vi l2), z3]) (st' := [vI (-1), vI v9]) rfl ?_
  rcases oi e with ⟨q10, e⟩ | ⟨q10, e⟩
  · refine hg_icT (tgt := 104) rfl (by decide) r9 (rgn (-1) rfl) q10 ?_
    exact t283_j104 hd rl2 A8 e kb ke kr
  · refine hg_icF (tgt := 104) rfl (by decide) r9 (rgn (-1) rfl) q10 ?_
    refine hg_run 3 (pc' := 74) (ls' := [some (vr 395), some (vi l1), some (vi l2), z3]) (st' := [vR 395, vI 1, vR 395]) rfl ?_
    refine gs_395_93 rfl A8 ?_
    refine hg_run 1 (pc' := 78) (ls' := [some (vr 395), some (vi l1), some (vi l2), z3]) (st' := [vI l2, vR 446, vI 1, vR 395]) rfl ?_
    obtain ⟨v11, e11, e⟩ := ob e
    refine hg_aIs 0 rfl (fun _ _ _ _ => rfl) A8 (Abs_ks A8 (i := 74) rfl) rfl (by decide) e11 (fun r11 => ?_)
    refine hg_run 1 (pc' := 80) (ls' := [some (vr 395), some (vi l1), some (vi l2), z3]) (st' := [vI 3, vI v11, vI 1, vR 395]) rfl ?_
    obtain ⟨v12, e12, e⟩ := ob e
    refine hg_cIp (as := [vR 395, vI 1, vI v11, vI 3]) (st' := []) rfl (fun _ _ _ _ => rfl) rfl rfl (Nat.le_of_ble_eq_true rfl) (Nat.le_of_ble_eq_true rfl) (recvV A8 (a := 13) (Abs_ks A8 (i := 23) rfl).1) (t199 (by omega) A8 (rgn 1 rfl) r11 (rgn 3 rfl) e12) (fun r12 => ?_)
    refine hg_run 1 (pc' := 84) (ls' := [some (vr 395), some (vi l1), some (vi l2), z3]) (st' := [vI 1, vI v12]) rfl ?_
    rcases oi e with ⟨q13, e⟩ | ⟨q13, e⟩
    · refine hg_icF (tgt := 104) rfl (by decide) r12 (rgn 1 rfl) (show ¬ ¬ (v12 = 1) from fun f => f q13) ?_
      refine hg_run 4 (pc' := 91) (ls' := [some (vr 395), some (vi l1), some (vi l2), z3]) (st' := [vR 395, vI l2, vI l1, vR 395]) rfl ?_
      refine gs_395_93 rfl A8 ?_
      refine hg_run 1 (pc' := 95) (ls' := [some (vr 395), some (vi l1), some (vi l2), z3]) (st' := [vI l2, vR 446, vI l2, vI l1, vR 395]) rfl ?_
      obtain ⟨v14, e14, e⟩ := ob e
      refine hg_aIs 0 rfl (fun _ _ _ _ => rfl) A8 (Abs_ks A8 (i := 74) rfl) rfl (by decide) e14 (fun r14 => ?_)
      obtain ⟨v15, e15, e⟩ := ob e
      refine hg_cI (as := [vR 395, vI l1, vI l2, vI v14]) (st' := []) rfl (fun _ _ _ _ => rfl) rfl rfl (Nat.le_of_ble_eq_true rfl) (Nat.le_of_ble_eq_true rfl) (recvV A8 (a := 13) (Abs_ks A8 (i := 23) rfl).1) (t285 (by omega) A8 rl1 rl2 r14 e15) (fun w15 r15 A15 => ?_)
      rcases oi e with ⟨q16, e⟩ | ⟨q16, e⟩
      · refine hg_ifF (tgt := 104) rfl (by decide) r15 (show ¬ ¬ (v15.1 = 0) from fun f => f q16) ?_
        refine hg_run 1 (pc' := 103) (ls' := [some (vr 395), some (vi l1), some (vi l2), z3]) (st' := [vI 0]) rfl ?_
        cases e
        exact hg_retI rfl (by decide) (fit_B (.inl rfl)) (kr _ _ rfl _ (rgn 0 rfl) A15)
      · refine hg_ifT (tgt := 104) rfl (by decide) r15 (show ¬ (v15.1 = 0) from q16) ?_
        exact t283_j104 hd rl2 A15 e kb ke kr
    · refine hg_icT (tgt := 104) rfl (by decide) r12 (rgn 1 rfl) (show ¬ (v12 = 1) from q13) ?_
      exact t283_j104 hd rl2 A8 e kb ke kr
def c283_b29 (l1 : Int) (l2 : Int) (h : hS) : Option ((Int × hS) ⊕ ((hS) ⊕ (Int × hS))) :=
  if (hI h 395 33) ≤ l2 then
  some (.inr (.inl (h)))
  else
  (aIs h 403 40 l2).bind (fun v6 =>
  if v6 = 0 then
  c283_j60 l2 (-1) l1 l2 h
  else
  (c284 l2 h).bind (fun v17 =>
  c283_j60 l2 v17 l1 l2 h))
set_option maxRecDepth 100000 in
theorem t283_b29 {d : Nat} (hd : 126 ≤ d) {l1 : Int} {l2 : Int} {z3 : Option hO} {h : hS} {w : mmW} {o : (Int × hS) ⊕ ((hS) ⊕ (Int × hS))} {Q : mmO → Prop} (rl1 : rg l1) (rl2 : rg l2) (A : Abs h w) (e : c283_b29 l1 l2 h = some o) (kb : ∀ (s_0 : Int) (s_1 : hS), o = .inl (s_0, s_1) → ∀ w', rg s_0 → Abs s_1 w' → hG d 283 29 [some (vr 395), some (vi l1), some (vi s_0), z3] [] w' Q) (ke : ∀ (x_0 : hS), o = .inr (.inl (x_0)) → ∀ w', ∀ (y2 : Option hO), Abs x_0 w' → hG d 283 110 [some (vr 395), some (vi l1), y2, z3] [] w' Q) (kr : ∀ (v1 : Int) (h1 : hS), o = .inr (.inr (v1, h1)) → ∀ w', rg v1 → Abs h1 w' → Q (some (.int (Int32.ofInt v1)), w')) : hG d 283 29 [some (vr 395), some (vi l1), some (vi l2), z3] [] w Q := by
  unfold c283_b29 at e
  refine hg_run 2 (pc' := 31) (ls' := [some (vr 395), some (vi l1), some (vi l2), z3]) (st' := [vR 395, vI l2]) rfl ?_
  refine gs_395_33 rfl A ?_
  rcases oi e with ⟨q5, e⟩ | ⟨q5, e⟩
  · refine hg_icT (tgt := 110) rfl (by decide) rl2 (Abs_rg A 395 33) q5 ?_
    cases e
    exact ke h rfl _ _  A
  · refine hg_icF (tgt := 110) rfl (by decide) rl2 (Abs_rg A 395 33) q5 ?_
    refine hg_run 1 (pc' := 38) (ls' := [some (vr 395), some (vi l1), some (vi l2), z3]) (st' := [vR 395]) rfl ?_
    refine gs_395_93 rfl A ?_
    refine hg_run 2 (pc' := 43) (ls' := [some (vr 395), some (vi l1), some (vi l2), z3]) (st' := [vR 395, vI l2, vR 446]) rfl ?_
    refine gs_395_34 rfl A ?_
    refine hg_run 1 (pc' := 47) (ls' := [some (vr 395), some (vi l1), some (vi l2), z3]) (st' := [vI l2, vR 403, vI l2, vR 446]) rfl ?_
    obtain ⟨v6, e6, e⟩ := ob e
    refine hg_aIs 1 rfl (fun _ _ _ _ => rfl) A (Abs_ks A (i := 31) rfl) rfl (by decide) e6 (fun r6 => ?_)
    rcases oi e with ⟨q7, e⟩ | ⟨q7, e⟩
    · refine hg_ifT (tgt := 59) rfl (by decide) r6 q7 ?_
      refine hg_run 1 (pc' := 60) (ls' := [some (vr 395), some (vi l1), some (vi l2), z3]) (st' := [vI (-1), vI l2, vR 446]) rfl ?_
      exact t283_j60 hd rl2 (rgn (-1) rfl) rl1 rl2 A e kb ke kr
    · refine hg_ifF (tgt := 59) rfl (by decide) r6 q7 ?_
      refine hg_run 2 (pc' := 53) (ls' := [some (vr 395), some (vi l1), some (vi l2), z3]) (st' := [vI l2, vR 395, vI l2, vR 446]) rfl ?_
      obtain ⟨v17, e17, e⟩ := ob e
      refine hg_cIp (as := [vR 395, vI l2]) (st' := [vI l2, vR 446]) rfl (fun _ _ _ _ => rfl) rfl rfl (Nat.le_of_ble_eq_true rfl) (Nat.le_of_ble_eq_true rfl) (recvV A (a := 13) (Abs_ks A (i := 23) rfl).1) (t284 (by omega) A rl2 e17) (fun r17 => ?_)
      refine hg_run 1 (pc' := 60) (ls' := [some (vr 395), some (vi l1), some (vi l2), z3]) (st' := [vI v17, vI l2, vR 446]) rfl ?_
      exact t283_j60 hd rl2 r17 rl1 rl2 A e kb ke kr
set_option maxRecDepth 100000 in
theorem t283_l29 {d : Nat} (hd : 126 ≤ d) {l1 : Int} {z3 : Option hO} {Q : mmO → Prop} (rl1 : rg l1) (n : Nat) {l2 : Int}  {h : hS} {w : mmW} {r : (hS) ⊕ (Int × hS)} (rl2 : rg l2) (A : Abs h w) (e : lp (fun s => c283_b29 l1 s.1 s.2) n (l2, h) = some r) (ke : ∀ (x_0 : hS), r = .inl (x_0) → ∀ w', ∀ (y2 : Option hO), Abs x_0 w' → hG d 283 110 [some (vr 395), some (vi l1), y2, z3] [] w' Q) (kr : ∀ (v1 : Int) (h1 : hS), r = .inr (v1, h1) → ∀ w', rg v1 → Abs h1 w' → Q (some (.int (Int32.ofInt v1)), w')) : hG d 283 29 [some (vr 395), some (vi l1), some (vi l2), z3] [] w Q := by
  induction n generalizing l2 h w with
  | zero => cases e
  | succ n ih =>
    rcases lp_succ e with ⟨s1, e1, e2⟩ | e1
    · exact t283_b29 hd rl1 rl2 A e1 (fun s_0 s_1 q w1 rl2 A1 => by cases q; exact ih rl2 A1 e2) (fun x_0 q => by cases q) (fun v0 h0 q => by cases q)
    · exact t283_b29 hd rl1 rl2 A e1 (fun s_0 s_1 q => by cases q) (fun x_0 q => by cases q; exact ke _ rfl) (fun v0 h0 q => by cases q; exact kr _ _ rfl)
def c283_b112 (l2 : Int) (h : hS) : Option ((Int × hS) ⊕ (hS)) :=
  if 1600 ≤ l2 then
  some (.inr (h))
  else
  (aIs h 405 1600 l2).bind (fun v20 =>
  (wIs h 438 1600 l2 v20).bind (fun h21 =>
  (aIs h21 406 1600 l2).bind (fun v22 =>
  (wIs h21 439 1600 l2 v22).bind (fun h23 =>
  (aIs h23 407 1600 l2).bind (fun v24 =>
  (wIs h23 441 1600 l2 (wbol v24)).bind (fun h25 =>
  some (.inl ((wadd l2 1), h25))))))))
set_option maxRecDepth 100000 in
theorem t283_b112 {d : Nat} (hd : 126 ≤ d) {l2 : Int} {l1 : Int} {z3 : Option hO} {h : hS} {w : mmW} {o : (Int × hS) ⊕ (hS)} {Q : mmO → Prop} (rl2 : rg l2) (A : Abs h w) (e : c283_b112 l2 h = some o) (kb : ∀ (s_0 : Int) (s_1 : hS), o = .inl (s_0, s_1) → ∀ w', rg s_0 → Abs s_1 w' → hG d 283 112 [some (vr 395), some (vi l1), some (vi s_0), z3] [] w' Q) (ke : ∀ (x_0 : hS), o = .inr (x_0) → ∀ w', ∀ (y2 : Option hO), Abs x_0 w' → hG d 283 161 [some (vr 395), some (vi l1), y2, z3] [] w' Q) : hG d 283 112 [some (vr 395), some (vi l1), some (vi l2), z3] [] w Q := by
  unfold c283_b112 at e
  refine hg_run 2 (pc' := 116) (ls' := [some (vr 395), some (vi l1), some (vi l2), z3]) (st' := [vI 1600, vI l2]) rfl ?_
  rcases oi e with ⟨q19, e⟩ | ⟨q19, e⟩
  · refine hg_icT (tgt := 161) rfl (by decide) rl2 (rgn 1600 rfl) q19 ?_
    cases e
    exact ke h rfl _ _  A
  · refine hg_icF (tgt := 161) rfl (by decide) rl2 (rgn 1600 rfl) q19 ?_
    refine hg_run 1 (pc' := 120) (ls' := [some (vr 395), some (vi l1), some (vi l2), z3]) (st' := [vR 395]) rfl ?_
    refine gs_395_85 rfl A ?_
    refine hg_run 2 (pc' := 125) (ls' := [some (vr 395), some (vi l1), some (vi l2), z3]) (st' := [vR 395, vI l2, vR 438]) rfl ?_
    refine gs_395_36 rfl A ?_
    refine hg_run 1 (pc' := 129) (ls' := [some (vr 395), some (vi l1), some (vi l2), z3]) (st' := [vI l2, vR 405, vI l2, vR 438]) rfl ?_
    obtain ⟨v20, e20, e⟩ := ob e
    refine hg_aIs 0 rfl (fun _ _ _ _ => rfl) A (Abs_ks A (i := 33) rfl) rfl (by decide) e20 (fun r20 => ?_)
    obtain ⟨h21, e21, e⟩ := ob e
    refine hg_wIs rfl A (Abs_ks A (i := 66) rfl) (by decide) r20 e21 (fun w21 A21 => ?_)
    refine hg_run 1 (pc' := 132) (ls' := [some (vr 395), some (vi l1), some (vi l2), z3]) (st' := [vR 395]) rfl ?_
    refine gs_395_86 rfl A21 ?_
    refine hg_run 2 (pc' := 137) (ls' := [some (vr 395), some (vi l1), some (vi l2), z3]) (st' := [vR 395, vI l2, vR 439]) rfl ?_
    refine gs_395_37 rfl A21 ?_
    refine hg_run 1 (pc' := 141) (ls' := [some (vr 395), some (vi l1), some (vi l2), z3]) (st' := [vI l2, vR 406, vI l2, vR 439]) rfl ?_
    obtain ⟨v22, e22, e⟩ := ob e
    refine hg_aIs 0 rfl (fun _ _ _ _ => rfl) A21 (Abs_ks A21 (i := 34) rfl) rfl (by decide) e22 (fun r22 => ?_)
    obtain ⟨h23, e23, e⟩ := ob e
    refine hg_wIs rfl A21 (Abs_ks A21 (i := 67) rfl) (by decide) r22 e23 (fun w23 A23 => ?_)
    refine hg_run 1 (pc' := 144) (ls' := [some (vr 395), some (vi l1), some (vi l2), z3]) (st' := [vR 395]) rfl ?_
    refine gs_395_88 rfl A23 ?_
    refine hg_run 2 (pc' := 149) (ls' := [some (vr 395), some (vi l1), some (vi l2), z3]) (st' := [vR 395, vI l2, vR 441]) rfl ?_
    refine gs_395_38 rfl A23 ?_
    refine hg_run 1 (pc' := 153) (ls' := [some (vr 395), some (vi l1), some (vi l2), z3]) (st' := [vI l2, vR 407, vI l2, vR 441]) rfl ?_
    obtain ⟨v24, e24, e⟩ := ob e
    refine hg_aIs 1 rfl (fun _ _ _ _ => rfl) A23 (Abs_ks A23 (i := 35) rfl) rfl (by decide) e24 (fun r24 => ?_)
    obtain ⟨h25, e25, e⟩ := ob e
    refine hg_wBs rfl A23 (Abs_ks A23 (i := 69) rfl) (by decide) e25 (fun w25 A25 => ?_)
    refine hg_run 2 (pc' := 112) (ls' := [some (vr 395), some (vi l1), some (vi (wadd l2 1)), z3]) (st' := []) rfl ?_
    cases e
    exact kb (wadd l2 1) h25 rfl _ (rg_add _ _) A25
set_option maxRecDepth 100000 in
theorem t283_l112 {d : Nat} (hd : 126 ≤ d)  {l1 : Int} {z3 : Option hO} {Q : mmO → Prop}  (n : Nat) {l2 : Int}  {h : hS} {w : mmW} {r : hS} (rl2 : rg l2) (A : Abs h w) (e : lp (fun s => c283_b112  s.1 s.2) n (l2, h) = some r) (ke : ∀ (x_0 : hS), r = (x_0) → ∀ w', ∀ (y2 : Option hO), Abs x_0 w' → hG d 283 161 [some (vr 395), some (vi l1), y2, z3] [] w' Q) : hG d 283 112 [some (vr 395), some (vi l1), some (vi l2), z3] [] w Q := by
  induction n generalizing l2 h w with
  | zero => cases e
  | succ n ih =>
    rcases lp_succ e with ⟨s1, e1, e2⟩ | e1
    · exact t283_b112 hd rl2 A e1 (fun s_0 s_1 q w1 rl2 A1 => by cases q; exact ih rl2 A1 e2) (fun x_0 q => by cases q)
    · exact t283_b112 hd rl2 A e1 (fun s_0 s_1 q => by cases q) (fun x_0 q => by cases q; exact ke _ rfl)
def c283_j273 (l2 : Int) (h : hS) : Option ((Int × hS) ⊕ (hS)) :=
  some (.inl ((wadd l2 1), h))
set_option maxRecDepth 100000 in
theorem t283_j273 {d : Nat} (hd : 126 ≤ d) {l2 : Int} {l1 : Int} {z3 : Option hO} {h : hS} {w : mmW} {o : (Int × hS) ⊕ (hS)} {Q : mmO → Prop} (rl2 : rg l2) (A : Abs h w) (e : c283_j273 l2 h = some o) (kb : ∀ (s_0 : Int) (s_1 : hS), o = .inl (s_0, s_1) → ∀ w', ∀ (y3 : Option hO), rg s_0 → Abs s_1 w' → hG d 283 163 [some (vr 395), some (vi l1), some (vi s_0), y3] [] w' Q) (ke : ∀ (x_0 : hS), o = .inr (x_0) → ∀ w', ∀ (y2 y3 : Option hO), Abs x_0 w' → hG d 283 279 [some (vr 395), some (vi l1), y2, y3] [] w' Q) : hG d 283 273 [some (vr 395), some (vi l1), some (vi l2), z3] [] w Q := by
  unfold c283_j273 at e
  refine hg_run 2 (pc' := 163) (ls' := [some (vr 395), some (vi l1), some (vi (wadd l2 1)), z3]) (st' := []) rfl ?_
  cases e
  exact kb (wadd l2 1) h rfl _ _ (rg_add _ _) A
def c283_j267 (l3 : Int) (h : hS) : Option ((Int × hS) ⊕ (hS)) :=
  some (.inl ((wadd l3 1), h))
set_option maxRecDepth 100000 in
theorem t283_j267 {d : Nat} (hd : 126 ≤ d) {l3 : Int} {l1 : Int} {l2 : Int} {h : hS} {w : mmW} {o : (Int × hS) ⊕ (hS)} {Q : mmO → Prop} (rl3 : rg l3) (A : Abs h w) (e : c283_j267 l3 h = some o) (kb : ∀ (s_0 : Int) (s_1 : hS), o = .inl (s_0, s_1) → ∀ w', rg s_0 → Abs s_1 w' → hG d 283 225 [some (vr 395), some (vi l1), some (vi l2), some (vi s_0)] [] w' Q) (ke : ∀ (x_0 : hS), o = .inr (x_0) → ∀ w', ∀ (y3 : Option hO), Abs x_0 w' → hG d 283 273 [some (vr 395), some (vi l1), some (vi l2), y3] [] w' Q) : hG d 283 267 [some (vr 395), some (vi l1), some (vi l2), some (vi l3)] [] w Q := by
  unfold c283_j267 at e
  refine hg_run 2 (pc' := 225) (ls' := [some (vr 395), some (vi l1), some (vi l2), some (vi (wadd l3 1))]) (st' := []) rfl ?_
  cases e
  exact kb (wadd l3 1) h rfl _ (rg_add _ _) A
def c283_b225 (l2 : Int) (l3 : Int) (h : hS) : Option ((Int × hS) ⊕ (hS)) :=
  if 40 ≤ l3 then
  some (.inr (h))
  else
  (aIs h 442 1600 (wadd (wmul 40 l2) l3)).bind (fun v38 =>
  if v38 = 0 then
  c283_j267 l3 h
  else
  (aIs h 440 1600 (wadd (wmul 40 l2) l3)).bind (fun v40 =>
  (wIs h 405 1600 (wadd (wmul 40 l2) l3) v40).bind (fun h41 =>
  c283_j267 l3 h41)))
set_option maxRecDepth 100000 in
theorem t283_b225 {d : Nat} (hd : 126 ≤ d) {l2 : Int} {l3 : Int} {l1 : Int} {h : hS} {w : mmW} {o : (Int × hS) ⊕ (hS)} {Q : mmO → Prop} (rl2 : rg l2) (rl3 : rg l3) (A : Abs h w) (e : c283_b225 l2 l3 h = some o) (kb : ∀ (s_0 : Int) (s_1 : hS), o = .inl (s_0, s_1) → ∀ w', rg s_0 → Abs s_1 w' → hG d 283 225 [some (vr 395), some (vi l1), some (vi l2), some (vi s_0)] [] w' Q) (ke : ∀ (x_0 : hS), o = .inr (x_0) → ∀ w', ∀ (y3 : Option hO), Abs x_0 w' → hG d 283 273 [some (vr 395), some (vi l1), some (vi l2), y3] [] w' Q) : hG d 283 225 [some (vr 395), some (vi l1), some (vi l2), some (vi l3)] [] w Q := by
  unfold c283_b225 at e
  refine hg_run 2 (pc' := 228) (ls' := [some (vr 395), some (vi l1), some (vi l2), some (vi l3)]) (st' := [vI 40, vI l3]) rfl ?_
  rcases oi e with ⟨q37, e⟩ | ⟨q37, e⟩
  · refine hg_icT (tgt := 273) rfl (by decide) rl3 (rgn 40 rfl) q37 ?_
    cases e
    exact ke h rfl _ _  A
  · refine hg_icF (tgt := 273) rfl (by decide) rl3 (rgn 40 rfl) q37 ?_
    refine hg_run 1 (pc' := 232) (ls' := [some (vr 395), some (vi l1), some (vi l2), some (vi l3)]) (st' := [vR 395]) rfl ?_
    refine gs_395_89 rfl A ?_
    refine hg_run 5 (pc' := 241) (ls' := [some (vr 395), some (vi l1), some (vi l2), some (vi l3)]) (st' := [vI (wadd (wmul 40 l2) l3), vR 442]) rfl ?_
    obtain ⟨v38, e38, e⟩ := ob e
    refine hg_aIs 1 rfl (fun _ _ _ _ => rfl) A (Abs_ks A (i := 70) rfl) rfl (by decide) e38 (fun r38 => ?_)
    rcases oi e with ⟨q39, e⟩ | ⟨q39, e⟩
    · refine hg_ifT (tgt := 267) rfl (by decide) r38 q39 ?_
      exact t283_j267 hd rl3 A e kb ke
    · refine hg_ifF (tgt := 267) rfl (by decide) r38 q39 ?_
      refine hg_run 1 (pc' := 246) (ls' := [some (vr 395), some (vi l1), some (vi l2), some (vi l3)]) (st' := [vR 395]) rfl ?_
      refine gs_395_36 rfl A ?_
      refine hg_run 6 (pc' := 256) (ls' := [some (vr 395), some (vi l1), some (vi l2), some (vi l3)]) (st' := [vR 395, vI (wadd (wmul 40 l2) l3), vR 405]) rfl ?_
      refine gs_395_87 rfl A ?_
      refine hg_run 5 (pc' := 265) (ls' := [some (vr 395), some (vi l1), some (vi l2), some (vi l3)]) (st' := [vI (wadd (wmul 40 l2) l3), vR 440, vI (wadd (wmul 40 l2) l3), vR 405]) rfl ?_
      obtain ⟨v40, e40, e⟩ := ob e
      refine hg_aIs 0 rfl (fun _ _ _ _ => rfl) A (Abs_ks A (i := 68) rfl) rfl (by decide) e40 (fun r40 => ?_)
      obtain ⟨h41, e41, e⟩ := ob e
      refine hg_wIs rfl A (Abs_ks A (i := 33) rfl) (by decide) r40 e41 (fun w41 A41 => ?_)
      exact t283_j267 hd rl3 A41 e kb ke
set_option maxRecDepth 100000 in
theorem t283_l225 {d : Nat} (hd : 126 ≤ d) {l2 : Int} {l1 : Int} {Q : mmO → Prop} (rl2 : rg l2) (n : Nat) {l3 : Int}  {h : hS} {w : mmW} {r : hS} (rl3 : rg l3) (A : Abs h w) (e : lp (fun s => c283_b225 l2 s.1 s.2) n (l3, h) = some r) (ke : ∀ (x_0 : hS), r = (x_0) → ∀ w', ∀ (y3 : Option hO), Abs x_0 w' → hG d 283 273 [some (vr 395), some (vi l1), some (vi l2), y3] [] w' Q) : hG d 283 225 [some (vr 395), some (vi l1), some (vi l2), some (vi l3)] [] w Q := by
  induction n generalizing l3 h w with
  | zero => cases e
  | succ n ih =>
    rcases lp_succ e with ⟨s1, e1, e2⟩ | e1
    · exact t283_b225 hd rl2 rl3 A e1 (fun s_0 s_1 q w1 rl3 A1 => by cases q; exact ih rl3 A1 e2) (fun x_0 q => by cases q)
    · exact t283_b225 hd rl2 rl3 A e1 (fun s_0 s_1 q => by cases q) (fun x_0 q => by cases q; exact ke _ rfl)
def c283_b163 (l2 : Int) (h : hS) : Option ((Int × hS) ⊕ (hS)) :=
  if (hI h 395 33) ≤ l2 then
  some (.inr (h))
  else
  (aIs h 404 40 l2).bind (fun v28 =>
  (wIs h 443 40 l2 v28).bind (fun h29 =>
  (aIs h29 446 40 l2).bind (fun v30 =>
  if v30 = (-1) then
  c283_j273 l2 h29
  else
  (aIs h29 446 40 l2).bind (fun v32 =>
  (c199 1 v32 3 h29).bind (fun v33 =>
  if v33 = 1 then
  (aIs h29 446 40 l2).bind (fun v35 =>
  (c288 l2 v35 h29).bind (fun h36 =>
  (lp (fun s => c283_b225 l2 s.1 s.2) hF0 (0, h36)).bind (fun r42 =>
  c283_j273 l2 r42)))
  else
  c283_j273 l2 h29)))))
set_option maxRecDepth 100000 in
theorem t283_b163 {d : Nat} (hd : 126 ≤ d) {l2 : Int} {l1 : Int} {z3 : Option hO} {h : hS} {w : mmW} {o : (Int × hS) ⊕ (hS)} {Q : mmO → Prop} (rl2 : rg l2) (A : Abs h w) (e : c283_b163 l2 h = some o) (kb : ∀ (s_0 : Int) (s_1 : hS), o = .inl (s_0, s_1) → ∀ w', ∀ (y3 : Option hO), rg s_0 → Abs s_1 w' → hG d 283 163 [some (vr 395), some (vi l1), some (vi s_0), y3] [] w' Q) (ke : ∀ (x_0 : hS), o = .inr (x_0) → ∀ w', ∀ (y2 y3 : Option hO), Abs x_0 w' → hG d 283 279 [some (vr 395), some (vi l1), y2, y3] [] w' Q) : hG d 283 163 [some (vr 395), some (vi l1), some (vi l2), z3] [] w Q := by
  unfold c283_b163 at e
  refine hg_run 2 (pc' := 165) (ls' := [some (vr 395), some (vi l1), some (vi l2), z3]) (st' := [vR 395, vI l2]) rfl ?_
  refine gs_395_33 rfl A ?_
  rcases oi e with ⟨q27, e⟩ | ⟨q27, e⟩
  · refine hg_icT (tgt := 279) rfl (by decide) rl2 (Abs_rg A 395 33) q27 ?_
    cases e
    exact ke h rfl _ _ _  A
  · refine hg_icF (tgt := 279) rfl (by decide) rl2 (Abs_rg A 395 33) q27 ?_
    refine hg_run 1 (pc' := 172) (ls' := [some (vr 395), some (vi l1), some (vi l2), z3]) (st' := [vR 395]) rfl ?_
    refine gs_395_90 rfl A ?_
    refine hg_run 2 (pc' := 177) (ls' := [some (vr 395), some (vi l1), some (vi l2), z3]) (st' := [vR 395, vI l2, vR 443]) rfl ?_
    refine gs_395_35 rfl A ?_
    refine hg_run 1 (pc' := 181) (ls' := [some (vr 395), some (vi l1), some (vi l2), z3]) (st' := [vI l2, vR 404, vI l2, vR 443]) rfl ?_
    obtain ⟨v28, e28, e⟩ := ob e
    refine hg_aIs 0 rfl (fun _ _ _ _ => rfl) A (Abs_ks A (i := 32) rfl) rfl (by decide) e28 (fun r28 => ?_)
    obtain ⟨h29, e29, e⟩ := ob e
    refine hg_wIs rfl A (Abs_ks A (i := 71) rfl) (by decide) r28 e29 (fun w29 A29 => ?_)
    refine hg_run 1 (pc' := 184) (ls' := [some (vr 395), some (vi l1), some (vi l2), z3]) (st' := [vR 395]) rfl ?_
    refine gs_395_93 rfl A29 ?_
    refine hg_run 1 (pc' := 188) (ls' := [some (vr 395), some (vi l1), some (vi l2), z3]) (st' := [vI l2, vR 446]) rfl ?_
    obtain ⟨v30, e30, e⟩ := ob e
    refine hg_aIs 0 rfl (fun _ _ _ _ => rfl) A29 (Abs_ks A29 (i := 74) rfl) rfl (by decide) e30 (fun r30 => ?_)
    refine hg_run 1 (pc' := 190) (ls' := [some (vr 395), some (vi l1), some (vi l2), z3]) (st' := [vI (-1), vI v30]) rfl ?_
    rcases oi e with ⟨q31, e⟩ | ⟨q31, e⟩
    · refine hg_icF (tgt := 196) rfl (by decide) r30 (rgn (-1) rfl) (show ¬ ¬ (v30 = (-1)) from fun f => f q31) ?_
      refine hg_run 1 (pc' := 273) (ls' := [some (vr 395), some (vi l1), some (vi l2), z3]) (st' := []) rfl ?_
      exact t283_j273 hd rl2 A29 e kb ke
    · refine hg_icT (tgt := 196) rfl (by decide) r30 (rgn (-1) rfl) (show ¬ (v30 = (-1)) from q31) ?_
      refine hg_run 3 (pc' := 199) (ls' := [some (vr 395), some (vi l1), some (vi l2), z3]) (st' := [vR 395, vI 1, vR 395]) rfl ?_
      refine gs_395_93 rfl A29 ?_
      refine hg_run 1 (pc' := 203) (ls' := [some (vr 395), some (vi l1), some (vi l2), z3]) (st' := [vI l2, vR 446, vI 1, vR 395]) rfl ?_
      obtain ⟨v32, e32, e⟩ := ob e
      refine hg_aIs 0 rfl (fun _ _ _ _ => rfl) A29 (Abs_ks A29 (i := 74) rfl) rfl (by decide) e32 (fun r32 => ?_)
      refine hg_run 1 (pc' := 205) (ls' := [some (vr 395), some (vi l1), some (vi l2), z3]) (st' := [vI 3, vI v32, vI 1, vR 395]) rfl ?_
      obtain ⟨v33, e33, e⟩ := ob e
      refine hg_cIp (as := [vR 395, vI 1, vI v32, vI 3]) (st' := []) rfl (fun _ _ _ _ => rfl) rfl rfl (Nat.le_of_ble_eq_true rfl) (Nat.le_of_ble_eq_true rfl) (recvV A29 (a := 13) (Abs_ks A29 (i := 23) rfl).1) (t199 (by omega) A29 (rgn 1 rfl) r32 (rgn 3 rfl) e33) (fun r33 => ?_)
      refine hg_run 1 (pc' := 209) (ls' := [some (vr 395), some (vi l1), some (vi l2), z3]) (st' := [vI 1, vI v33]) rfl ?_
      rcases oi e with ⟨q34, e⟩ | ⟨q34, e⟩
      · refine hg_icF (tgt := 273) rfl (by decide) r33 (rgn 1 rfl) (show ¬ ¬ (v33 = 1) from fun f => f q34) ?_
        refine hg_run 3 (pc' := 215) (ls' := [some (vr 395), some (vi l1), some (vi l2), z3]) (st' := [vR 395, vI l2, vR 395]) rfl ?_
        refine gs_395_93 rfl A29 ?_
        refine hg_run 1 (pc' := 219) (ls' := [some (vr 395), some (vi l1), some (vi l2), z3]) (st' := [vI l2, vR 446, vI l2, vR 395]) rfl ?_
        obtain ⟨v35, e35, e⟩ := ob e
        refine hg_aIs 0 rfl (fun _ _ _ _ => rfl) A29 (Abs_ks A29 (i := 74) rfl) rfl (by decide) e35 (fun r35 => ?_)
        obtain ⟨h36, e36, e⟩ := ob e
        refine hg_cV (as := [vR 395, vI l2, vI v35]) (st' := []) rfl (fun _ _ _ _ => rfl) rfl rfl (Nat.le_of_ble_eq_true rfl) (Nat.le_of_ble_eq_true rfl) (recvV A29 (a := 13) (Abs_ks A29 (i := 23) rfl).1) (t288 (by omega) A29 rl2 r35 e36) (fun w36 A36 => ?_)
        refine hg_run 2 (pc' := 225) (ls' := [some (vr 395), some (vi l1), some (vi l2), some (vi 0)]) (st' := []) rfl ?_
        obtain ⟨r42, e42, e⟩ := ob e
        refine t283_l225 hd rl2 _ (rgn 0 rfl) A36 e42 ?_
        intro x42_0 qq42 w42 z42_3 A42
        subst qq42
        exact t283_j273 hd rl2 A42 e kb ke
      · refine hg_icT (tgt := 273) rfl (by decide) r33 (rgn 1 rfl) (show ¬ (v33 = 1) from q34) ?_
        exact t283_j273 hd rl2 A29 e kb ke
set_option maxRecDepth 100000 in
theorem t283_l163 {d : Nat} (hd : 126 ≤ d)  {l1 : Int} {Q : mmO → Prop}  (n : Nat) {l2 : Int} {z3 : Option hO} {h : hS} {w : mmW} {r : hS} (rl2 : rg l2) (A : Abs h w) (e : lp (fun s => c283_b163  s.1 s.2) n (l2, h) = some r) (ke : ∀ (x_0 : hS), r = (x_0) → ∀ w', ∀ (y2 y3 : Option hO), Abs x_0 w' → hG d 283 279 [some (vr 395), some (vi l1), y2, y3] [] w' Q) : hG d 283 163 [some (vr 395), some (vi l1), some (vi l2), z3] [] w Q := by
  induction n generalizing l2 z3 h w with
  | zero => cases e
  | succ n ih =>
    rcases lp_succ e with ⟨s1, e1, e2⟩ | e1
    · exact t283_b163 hd rl2 A e1 (fun s_0 s_1 q w1 y3 rl2 A1 => by cases q; exact ih rl2 A1 e2) (fun x_0 q => by cases q)
    · exact t283_b163 hd rl2 A e1 (fun s_0 s_1 q => by cases q) (fun x_0 q => by cases q; exact ke _ rfl)
def c283_b281 (l2 : Int) (h : hS) : Option ((Int × hS) ⊕ (hS)) :=
  if 769 ≤ l2 then
  some (.inr (h))
  else
  (aIs h 400 2307 l2).bind (fun v45 =>
  (aIs h 400 2307 (wadd 1538 l2)).bind (fun v46 =>
  (wIs h 447 769 l2 v46).bind (fun h47 =>
  (wIs h47 400 2307 (wadd 1538 l2) v45).bind (fun h48 =>
  some (.inl ((wadd l2 1), h48))))))
set_option maxRecDepth 100000 in
theorem t283_b281 {d : Nat} (hd : 126 ≤ d) {l2 : Int} {l1 : Int} {z3 : Option hO} {h : hS} {w : mmW} {o : (Int × hS) ⊕ (hS)} {Q : mmO → Prop} (rl2 : rg l2) (A : Abs h w) (e : c283_b281 l2 h = some o) (kb : ∀ (s_0 : Int) (s_1 : hS), o = .inl (s_0, s_1) → ∀ w', ∀ (y3 : Option hO), rg s_0 → Abs s_1 w' → hG d 283 281 [some (vr 395), some (vi l1), some (vi s_0), y3] [] w' Q) (ke : ∀ (x_0 : hS), o = .inr (x_0) → ∀ w', ∀ (y2 y3 : Option hO), Abs x_0 w' → hG d 283 328 [some (vr 395), some (vi l1), y2, y3] [] w' Q) : hG d 283 281 [some (vr 395), some (vi l1), some (vi l2), z3] [] w Q := by
  unfold c283_b281 at e
  refine hg_run 2 (pc' := 285) (ls' := [some (vr 395), some (vi l1), some (vi l2), z3]) (st' := [vI 769, vI l2]) rfl ?_
  rcases oi e with ⟨q44, e⟩ | ⟨q44, e⟩
  · refine hg_icT (tgt := 328) rfl (by decide) rl2 (rgn 769 rfl) q44 ?_
    cases e
    exact ke h rfl _ _ _  A
  · refine hg_icF (tgt := 328) rfl (by decide) rl2 (rgn 769 rfl) q44 ?_
    refine hg_run 1 (pc' := 289) (ls' := [some (vr 395), some (vi l1), some (vi l2), z3]) (st' := [vR 395]) rfl ?_
    refine gs_395_23 rfl A ?_
    refine hg_run 1 (pc' := 293) (ls' := [some (vr 395), some (vi l1), some (vi l2), z3]) (st' := [vI l2, vR 400]) rfl ?_
    obtain ⟨v45, e45, e⟩ := ob e
    refine hg_aIs 0 rfl (fun _ _ _ _ => rfl) A (Abs_ks A (i := 28) rfl) rfl (by decide) e45 (fun r45 => ?_)
    refine hg_run 2 (pc' := 296) (ls' := [some (vr 395), some (vi l1), some (vi l2), some (vi v45)]) (st' := [vR 395]) rfl ?_
    refine gs_395_94 rfl A ?_
    refine hg_run 2 (pc' := 301) (ls' := [some (vr 395), some (vi l1), some (vi l2), some (vi v45)]) (st' := [vR 395, vI l2, vR 447]) rfl ?_
    refine gs_395_23 rfl A ?_
    refine hg_run 3 (pc' := 309) (ls' := [some (vr 395), some (vi l1), some (vi l2), some (vi v45)]) (st' := [vI (wadd 1538 l2), vR 400, vI l2, vR 447]) rfl ?_
    obtain ⟨v46, e46, e⟩ := ob e
    refine hg_aIs 0 rfl (fun _ _ _ _ => rfl) A (Abs_ks A (i := 28) rfl) rfl (by decide) e46 (fun r46 => ?_)
    obtain ⟨h47, e47, e⟩ := ob e
    refine hg_wIs rfl A (Abs_ks A (i := 75) rfl) (by decide) r46 e47 (fun w47 A47 => ?_)
    refine hg_run 1 (pc' := 312) (ls' := [some (vr 395), some (vi l1), some (vi l2), some (vi v45)]) (st' := [vR 395]) rfl ?_
    refine gs_395_23 rfl A47 ?_
    refine hg_run 4 (pc' := 321) (ls' := [some (vr 395), some (vi l1), some (vi l2), some (vi v45)]) (st' := [vI v45, vI (wadd 1538 l2), vR 400]) rfl ?_
    obtain ⟨h48, e48, e⟩ := ob e
    refine hg_wIs rfl A47 (Abs_ks A47 (i := 28) rfl) (by decide) r45 e48 (fun w48 A48 => ?_)
    refine hg_run 2 (pc' := 281) (ls' := [some (vr 395), some (vi l1), some (vi (wadd l2 1)), some (vi v45)]) (st' := []) rfl ?_
    cases e
    exact kb (wadd l2 1) h48 rfl _ _ (rg_add _ _) A48
set_option maxRecDepth 100000 in
theorem t283_l281 {d : Nat} (hd : 126 ≤ d)  {l1 : Int} {Q : mmO → Prop}  (n : Nat) {l2 : Int} {z3 : Option hO} {h : hS} {w : mmW} {r : hS} (rl2 : rg l2) (A : Abs h w) (e : lp (fun s => c283_b281  s.1 s.2) n (l2, h) = some r) (ke : ∀ (x_0 : hS), r = (x_0) → ∀ w', ∀ (y2 y3 : Option hO), Abs x_0 w' → hG d 283 328 [some (vr 395), some (vi l1), y2, y3] [] w' Q) : hG d 283 281 [some (vr 395), some (vi l1), some (vi l2), z3] [] w Q := by
  induction n generalizing l2 z3 h w with
  | zero => cases e
  | succ n ih =>
    rcases lp_succ e with ⟨s1, e1, e2⟩ | e1
    · exact t283_b281 hd rl2 A e1 (fun s_0 s_1 q w1 y3 rl2 A1 => by cases q; exact ih rl2 A1 e2) (fun x_0 q => by cases q)
    · exact t283_b281 hd rl2 A e1 (fun s_0 s_1 q => by cases q) (fun x_0 q => by cases q; exact ke _ rfl)
def c283_j366 (l2 : Int) (h : hS) : Option ((Int × hS) ⊕ (hS)) :=
  some (.inl ((wadd l2 1), h))
set_option maxRecDepth 100000 in
theorem t283_j366 {d : Nat} (hd : 126 ≤ d) {l2 : Int} {l1 : Int} {z3 : Option hO} {h : hS} {w : mmW} {o : (Int × hS) ⊕ (hS)} {Q : mmO → Prop} (rl2 : rg l2) (A : Abs h w) (e : c283_j366 l2 h = some o) (kb : ∀ (s_0 : Int) (s_1 : hS), o = .inl (s_0, s_1) → ∀ w', rg s_0 → Abs s_1 w' → hG d 283 336 [some (vr 395), some (vi l1), some (vi s_0), z3] [] w' Q) (ke : ∀ (x_0 : hS), o = .inr (x_0) → ∀ w', ∀ (y2 : Option hO), Abs x_0 w' → hG d 283 372 [some (vr 395), some (vi l1), y2, z3] [] w' Q) : hG d 283 366 [some (vr 395), some (vi l1), some (vi l2), z3] [] w Q := by
  unfold c283_j366 at e
  refine hg_run 2 (pc' := 336) (ls' := [some (vr 395), some (vi l1), some (vi (wadd l2 1)), z3]) (st' := []) rfl ?_
  cases e
  exact kb (wadd l2 1) h rfl _ (rg_add _ _) A
def c283_b336 (l2 : Int) (h : hS) : Option ((Int × hS) ⊕ (hS)) :=
  if (hI h 395 33) ≤ l2 then
  some (.inr (h))
  else
  (aIs h 446 40 l2).bind (fun v52 =>
  if v52 = (-1) then
  c283_j366 l2 h
  else
  (aIs h 446 40 l2).bind (fun v54 =>
  (wIs h 404 40 l2 v54).bind (fun h55 =>
  c283_j366 l2 h55)))
set_option maxRecDepth 100000 in
theorem t283_b336 {d : Nat} (hd : 126 ≤ d) {l2 : Int} {l1 : Int} {z3 : Option hO} {h : hS} {w : mmW} {o : (Int × hS) ⊕ (hS)} {Q : mmO → Prop} (rl2 : rg l2) (A : Abs h w) (e : c283_b336 l2 h = some o) (kb : ∀ (s_0 : Int) (s_1 : hS), o = .inl (s_0, s_1) → ∀ w', rg s_0 → Abs s_1 w' → hG d 283 336 [some (vr 395), some (vi l1), some (vi s_0), z3] [] w' Q) (ke : ∀ (x_0 : hS), o = .inr (x_0) → ∀ w', ∀ (y2 : Option hO), Abs x_0 w' → hG d 283 372 [some (vr 395), some (vi l1), y2, z3] [] w' Q) : hG d 283 336 [some (vr 395), some (vi l1), some (vi l2), z3] [] w Q := by
  unfold c283_b336 at e
  refine hg_run 2 (pc' := 338) (ls' := [some (vr 395), some (vi l1), some (vi l2), z3]) (st' := [vR 395, vI l2]) rfl ?_
  refine gs_395_33 rfl A ?_
  rcases oi e with ⟨q51, e⟩ | ⟨q51, e⟩
  · refine hg_icT (tgt := 372) rfl (by decide) rl2 (Abs_rg A 395 33) q51 ?_
    cases e
    exact ke h rfl _ _  A
  · refine hg_icF (tgt := 372) rfl (by decide) rl2 (Abs_rg A 395 33) q51 ?_
    refine hg_run 1 (pc' := 345) (ls' := [some (vr 395), some (vi l1), some (vi l2), z3]) (st' := [vR 395]) rfl ?_
    refine gs_395_93 rfl A ?_
    refine hg_run 1 (pc' := 349) (ls' := [some (vr 395), some (vi l1), some (vi l2), z3]) (st' := [vI l2, vR 446]) rfl ?_
    obtain ⟨v52, e52, e⟩ := ob e
    refine hg_aIs 0 rfl (fun _ _ _ _ => rfl) A (Abs_ks A (i := 74) rfl) rfl (by decide) e52 (fun r52 => ?_)
    refine hg_run 1 (pc' := 351) (ls' := [some (vr 395), some (vi l1), some (vi l2), z3]) (st' := [vI (-1), vI v52]) rfl ?_
    rcases oi e with ⟨q53, e⟩ | ⟨q53, e⟩
    · refine hg_icT (tgt := 366) rfl (by decide) r52 (rgn (-1) rfl) q53 ?_
      exact t283_j366 hd rl2 A e kb ke
    · refine hg_icF (tgt := 366) rfl (by decide) r52 (rgn (-1) rfl) q53 ?_
      refine hg_run 1 (pc' := 355) (ls' := [some (vr 395), some (vi l1), some (vi l2), z3]) (st' := [vR 395]) rfl ?_
      refine gs_395_35 rfl A ?_
      refine hg_run 2 (pc' := 360) (ls' := [some (vr 395), some (vi l1), some (vi l2), z3]) (st' := [vR 395, vI l2, vR 404]) rfl ?_
      refine gs_395_93 rfl A ?_
      refine hg_run 1 (pc' := 364) (ls' := [some (vr 395), some (vi l1), some (vi l2), z3]) (st' := [vI l2, vR 446, vI l2, vR 404]) rfl ?_
      obtain ⟨v54, e54, e⟩ := ob e
      refine hg_aIs 0 rfl (fun _ _ _ _ => rfl) A (Abs_ks A (i := 74) rfl) rfl (by decide) e54 (fun r54 => ?_)
      obtain ⟨h55, e55, e⟩ := ob e
      refine hg_wIs rfl A (Abs_ks A (i := 32) rfl) (by decide) r54 e55 (fun w55 A55 => ?_)
      exact t283_j366 hd rl2 A55 e kb ke
set_option maxRecDepth 100000 in
theorem t283_l336 {d : Nat} (hd : 126 ≤ d)  {l1 : Int} {z3 : Option hO} {Q : mmO → Prop}  (n : Nat) {l2 : Int}  {h : hS} {w : mmW} {r : hS} (rl2 : rg l2) (A : Abs h w) (e : lp (fun s => c283_b336  s.1 s.2) n (l2, h) = some r) (ke : ∀ (x_0 : hS), r = (x_0) → ∀ w', ∀ (y2 : Option hO), Abs x_0 w' → hG d 283 372 [some (vr 395), some (vi l1), y2, z3] [] w' Q) : hG d 283 336 [some (vr 395), some (vi l1), some (vi l2), z3] [] w Q := by
  induction n generalizing l2 h w with
  | zero => cases e
  | succ n ih =>
    rcases lp_succ e with ⟨s1, e1, e2⟩ | e1
    · exact t283_b336 hd rl2 A e1 (fun s_0 s_1 q w1 rl2 A1 => by cases q; exact ih rl2 A1 e2) (fun x_0 q => by cases q)
    · exact t283_b336 hd rl2 A e1 (fun s_0 s_1 q => by cases q) (fun x_0 q => by cases q; exact ke _ rfl)
def c283_j547 (l2 : Int) (h : hS) : Option ((Int × hS) ⊕ (hS)) :=
  some (.inl ((wadd l2 1), h))
set_option maxRecDepth 100000 in
theorem t283_j547 {d : Nat} (hd : 126 ≤ d) {l2 : Int} {z1 : Option hO} {z3 : Option hO} {h : hS} {w : mmW} {o : (Int × hS) ⊕ (hS)} {Q : mmO → Prop} (rl2 : rg l2) (A : Abs h w) (e : c283_j547 l2 h = some o) (kb : ∀ (s_0 : Int) (s_1 : hS), o = .inl (s_0, s_1) → ∀ w', rg s_0 → Abs s_1 w' → hG d 283 515 [some (vr 395), z1, some (vi s_0), z3] [] w' Q) (ke : ∀ (x_0 : hS), o = .inr (x_0) → ∀ w', ∀ (y2 : Option hO), Abs x_0 w' → hG d 283 553 [some (vr 395), z1, y2, z3] [] w' Q) : hG d 283 547 [some (vr 395), z1, some (vi l2), z3] [] w Q := by
  unfold c283_j547 at e
  refine hg_run 2 (pc' := 515) (ls' := [some (vr 395), z1, some (vi (wadd l2 1)), z3]) (st' := []) rfl ?_
  cases e
  exact kb (wadd l2 1) h rfl _ (rg_add _ _) A
def c283_b515 (l2 : Int) (h : hS) : Option ((Int × hS) ⊕ (hS)) :=
  if (hI h 395 33) ≤ l2 then
  some (.inr (h))
  else
  (aIs h 403 40 l2).bind (fun v62 =>
  if v62 = 0 then
  c283_j547 l2 h
  else
  (aIs h 446 40 l2).bind (fun v64 =>
  if v64 = (-1) then
  (c290 l2 h).bind (fun h66 =>
  c283_j547 l2 h66)
  else
  c283_j547 l2 h))
set_option maxRecDepth 100000 in
theorem t283_b515 {d : Nat} (hd : 126 ≤ d) {l2 : Int} {z1 : Option hO} {z3 : Option hO} {h : hS} {w : mmW} {o : (Int × hS) ⊕ (hS)} {Q : mmO → Prop} (rl2 : rg l2) (A : Abs h w) (e : c283_b515 l2 h = some o) (kb : ∀ (s_0 : Int) (s_1 : hS), o = .inl (s_0, s_1) → ∀ w', rg s_0 → Abs s_1 w' → hG d 283 515 [some (vr 395), z1, some (vi s_0), z3] [] w' Q) (ke : ∀ (x_0 : hS), o = .inr (x_0) → ∀ w', ∀ (y2 : Option hO), Abs x_0 w' → hG d 283 553 [some (vr 395), z1, y2, z3] [] w' Q) : hG d 283 515 [some (vr 395), z1, some (vi l2), z3] [] w Q := by
  unfold c283_b515 at e
  refine hg_run 2 (pc' := 517) (ls' := [some (vr 395), z1, some (vi l2), z3]) (st' := [vR 395, vI l2]) rfl ?_
  refine gs_395_33 rfl A ?_
  rcases oi e with ⟨q61, e⟩ | ⟨q61, e⟩
  · refine hg_icT (tgt := 553) rfl (by decide) rl2 (Abs_rg A 395 33) q61 ?_
    cases e
    exact ke h rfl _ _  A
  · refine hg_icF (tgt := 553) rfl (by decide) rl2 (Abs_rg A 395 33) q61 ?_
    refine hg_run 1 (pc' := 524) (ls' := [some (vr 395), z1, some (vi l2), z3]) (st' := [vR 395]) rfl ?_
    refine gs_395_34 rfl A ?_
    refine hg_run 1 (pc' := 528) (ls' := [some (vr 395), z1, some (vi l2), z3]) (st' := [vI l2, vR 403]) rfl ?_
    obtain ⟨v62, e62, e⟩ := ob e
    refine hg_aIs 1 rfl (fun _ _ _ _ => rfl) A (Abs_ks A (i := 31) rfl) rfl (by decide) e62 (fun r62 => ?_)
    rcases oi e with ⟨q63, e⟩ | ⟨q63, e⟩
    · refine hg_ifT (tgt := 547) rfl (by decide) r62 q63 ?_
      exact t283_j547 hd rl2 A e kb ke
    · refine hg_ifF (tgt := 547) rfl (by decide) r62 q63 ?_
      refine hg_run 1 (pc' := 533) (ls' := [some (vr 395), z1, some (vi l2), z3]) (st' := [vR 395]) rfl ?_
      refine gs_395_93 rfl A ?_
      refine hg_run 1 (pc' := 537) (ls' := [some (vr 395), z1, some (vi l2), z3]) (st' := [vI l2, vR 446]) rfl ?_
      obtain ⟨v64, e64, e⟩ := ob e
      refine hg_aIs 0 rfl (fun _ _ _ _ => rfl) A (Abs_ks A (i := 74) rfl) rfl (by decide) e64 (fun r64 => ?_)
      refine hg_run 1 (pc' := 539) (ls' := [some (vr 395), z1, some (vi l2), z3]) (st' := [vI (-1), vI v64]) rfl ?_
      rcases oi e with ⟨q65, e⟩ | ⟨q65, e⟩
      · refine hg_icF (tgt := 547) rfl (by decide) r64 (rgn (-1) rfl) (show ¬ ¬ (v64 = (-1)) from fun f => f q65) ?_
        refine hg_run 2 (pc' := 544) (ls' := [some (vr 395), z1, some (vi l2), z3]) (st' := [vI l2, vR 395]) rfl ?_
        obtain ⟨h66, e66, e⟩ := ob e
        refine hg_cV (as := [vR 395, vI l2]) (st' := []) rfl (fun _ _ _ _ => rfl) rfl rfl (Nat.le_of_ble_eq_true rfl) (Nat.le_of_ble_eq_true rfl) (recvV A (a := 13) (Abs_ks A (i := 23) rfl).1) (t290 (by omega) A rl2 e66) (fun w66 A66 => ?_)
        exact t283_j547 hd rl2 A66 e kb ke
      · refine hg_icT (tgt := 547) rfl (by decide) r64 (rgn (-1) rfl) (show ¬ (v64 = (-1)) from q65) ?_
        exact t283_j547 hd rl2 A e kb ke
set_option maxRecDepth 100000 in
theorem t283_l515 {d : Nat} (hd : 126 ≤ d)  {z1 : Option hO} {z3 : Option hO} {Q : mmO → Prop}  (n : Nat) {l2 : Int}  {h : hS} {w : mmW} {r : hS} (rl2 : rg l2) (A : Abs h w) (e : lp (fun s => c283_b515  s.1 s.2) n (l2, h) = some r) (ke : ∀ (x_0 : hS), r = (x_0) → ∀ w', ∀ (y2 : Option hO), Abs x_0 w' → hG d 283 553 [some (vr 395), z1, y2, z3] [] w' Q) : hG d 283 515 [some (vr 395), z1, some (vi l2), z3] [] w Q := by
  induction n generalizing l2 h w with
  | zero => cases e
  | succ n ih =>
    rcases lp_succ e with ⟨s1, e1, e2⟩ | e1
    · exact t283_b515 hd rl2 A e1 (fun s_0 s_1 q w1 rl2 A1 => by cases q; exact ih rl2 A1 e2) (fun x_0 q => by cases q)
    · exact t283_b515 hd rl2 A e1 (fun s_0 s_1 q => by cases q) (fun x_0 q => by cases q; exact ke _ rfl)
def c283_b388 (l2 : Int) (h : hS) : Option ((Int × hS) ⊕ (hS)) :=
  if 769 ≤ l2 then
  some (.inr (h))
  else
  (aIs h 447 769 l2).bind (fun v70 =>
  (wIs h 400 2307 (wadd 1538 l2) v70).bind (fun h71 =>
  some (.inl ((wadd l2 1), h71))))
set_option maxRecDepth 100000 in
theorem t283_b388 {d : Nat} (hd : 126 ≤ d) {l2 : Int} {z1 : Option hO} {z3 : Option hO} {h : hS} {w : mmW} {o : (Int × hS) ⊕ (hS)} {Q : mmO → Prop} (rl2 : rg l2) (A : Abs h w) (e : c283_b388 l2 h = some o) (kb : ∀ (s_0 : Int) (s_1 : hS), o = .inl (s_0, s_1) → ∀ w', rg s_0 → Abs s_1 w' → hG d 283 388 [some (vr 395), z1, some (vi s_0), z3] [] w' Q) (ke : ∀ (x_0 : hS), o = .inr (x_0) → ∀ w', ∀ (y2 : Option hO), Abs x_0 w' → hG d 283 417 [some (vr 395), z1, y2, z3] [] w' Q) : hG d 283 388 [some (vr 395), z1, some (vi l2), z3] [] w Q := by
  unfold c283_b388 at e
  refine hg_run 2 (pc' := 392) (ls' := [some (vr 395), z1, some (vi l2), z3]) (st' := [vI 769, vI l2]) rfl ?_
  rcases oi e with ⟨q69, e⟩ | ⟨q69, e⟩
  · refine hg_icT (tgt := 417) rfl (by decide) rl2 (rgn 769 rfl) q69 ?_
    cases e
    exact ke h rfl _ _  A
  · refine hg_icF (tgt := 417) rfl (by decide) rl2 (rgn 769 rfl) q69 ?_
    refine hg_run 1 (pc' := 396) (ls' := [some (vr 395), z1, some (vi l2), z3]) (st' := [vR 395]) rfl ?_
    refine gs_395_23 rfl A ?_
    refine hg_run 4 (pc' := 405) (ls' := [some (vr 395), z1, some (vi l2), z3]) (st' := [vR 395, vI (wadd 1538 l2), vR 400]) rfl ?_
    refine gs_395_94 rfl A ?_
    refine hg_run 1 (pc' := 409) (ls' := [some (vr 395), z1, some (vi l2), z3]) (st' := [vI l2, vR 447, vI (wadd 1538 l2), vR 400]) rfl ?_
    obtain ⟨v70, e70, e⟩ := ob e
    refine hg_aIs 0 rfl (fun _ _ _ _ => rfl) A (Abs_ks A (i := 75) rfl) rfl (by decide) e70 (fun r70 => ?_)
    obtain ⟨h71, e71, e⟩ := ob e
    refine hg_wIs rfl A (Abs_ks A (i := 28) rfl) (by decide) r70 e71 (fun w71 A71 => ?_)
    refine hg_run 2 (pc' := 388) (ls' := [some (vr 395), z1, some (vi (wadd l2 1)), z3]) (st' := []) rfl ?_
    cases e
    exact kb (wadd l2 1) h71 rfl _ (rg_add _ _) A71
set_option maxRecDepth 100000 in
theorem t283_l388 {d : Nat} (hd : 126 ≤ d)  {z1 : Option hO} {z3 : Option hO} {Q : mmO → Prop}  (n : Nat) {l2 : Int}  {h : hS} {w : mmW} {r : hS} (rl2 : rg l2) (A : Abs h w) (e : lp (fun s => c283_b388  s.1 s.2) n (l2, h) = some r) (ke : ∀ (x_0 : hS), r = (x_0) → ∀ w', ∀ (y2 : Option hO), Abs x_0 w' → hG d 283 417 [some (vr 395), z1, y2, z3] [] w' Q) : hG d 283 388 [some (vr 395), z1, some (vi l2), z3] [] w Q := by
  induction n generalizing l2 h w with
  | zero => cases e
  | succ n ih =>
    rcases lp_succ e with ⟨s1, e1, e2⟩ | e1
    · exact t283_b388 hd rl2 A e1 (fun s_0 s_1 q w1 rl2 A1 => by cases q; exact ih rl2 A1 e2) (fun x_0 q => by cases q)
    · exact t283_b388 hd rl2 A e1 (fun s_0 s_1 q => by cases q) (fun x_0 q => by cases q; exact ke _ rfl)
def c283_b419 (l2 : Int) (h : hS) : Option ((Int × hS) ⊕ (hS)) :=
  if 1600 ≤ l2 then
  some (.inr (h))
  else
  (aIs h 438 1600 l2).bind (fun v74 =>
  (wIs h 405 1600 l2 v74).bind (fun h75 =>
  (aIs h75 439 1600 l2).bind (fun v76 =>
  (wIs h75 406 1600 l2 v76).bind (fun h77 =>
  (aIs h77 441 1600 l2).bind (fun v78 =>
  (wIs h77 407 1600 l2 (wbol v78)).bind (fun h79 =>
  some (.inl ((wadd l2 1), h79))))))))
set_option maxRecDepth 100000 in
theorem t283_b419 {d : Nat} (hd : 126 ≤ d) {l2 : Int} {z1 : Option hO} {z3 : Option hO} {h : hS} {w : mmW} {o : (Int × hS) ⊕ (hS)} {Q : mmO → Prop} (rl2 : rg l2) (A : Abs h w) (e : c283_b419 l2 h = some o) (kb : ∀ (s_0 : Int) (s_1 : hS), o = .inl (s_0, s_1) → ∀ w', rg s_0 → Abs s_1 w' → hG d 283 419 [some (vr 395), z1, some (vi s_0), z3] [] w' Q) (ke : ∀ (x_0 : hS), o = .inr (x_0) → ∀ w', ∀ (y2 : Option hO), Abs x_0 w' → hG d 283 468 [some (vr 395), z1, y2, z3] [] w' Q) : hG d 283 419 [some (vr 395), z1, some (vi l2), z3] [] w Q := by
  unfold c283_b419 at e
  refine hg_run 2 (pc' := 423) (ls' := [some (vr 395), z1, some (vi l2), z3]) (st' := [vI 1600, vI l2]) rfl ?_
  rcases oi e with ⟨q73, e⟩ | ⟨q73, e⟩
  · refine hg_icT (tgt := 468) rfl (by decide) rl2 (rgn 1600 rfl) q73 ?_
    cases e
    exact ke h rfl _ _  A
  · refine hg_icF (tgt := 468) rfl (by decide) rl2 (rgn 1600 rfl) q73 ?_
    refine hg_run 1 (pc' := 427) (ls' := [some (vr 395), z1, some (vi l2), z3]) (st' := [vR 395]) rfl ?_
    refine gs_395_36 rfl A ?_
    refine hg_run 2 (pc' := 432) (ls' := [some (vr 395), z1, some (vi l2), z3]) (st' := [vR 395, vI l2, vR 405]) rfl ?_
    refine gs_395_85 rfl A ?_
    refine hg_run 1 (pc' := 436) (ls' := [some (vr 395), z1, some (vi l2), z3]) (st' := [vI l2, vR 438, vI l2, vR 405]) rfl ?_
    obtain ⟨v74, e74, e⟩ := ob e
    refine hg_aIs 0 rfl (fun _ _ _ _ => rfl) A (Abs_ks A (i := 66) rfl) rfl (by decide) e74 (fun r74 => ?_)
    obtain ⟨h75, e75, e⟩ := ob e
    refine hg_wIs rfl A (Abs_ks A (i := 33) rfl) (by decide) r74 e75 (fun w75 A75 => ?_)
    refine hg_run 1 (pc' := 439) (ls' := [some (vr 395), z1, some (vi l2), z3]) (st' := [vR 395]) rfl ?_
    refine gs_395_37 rfl A75 ?_
    refine hg_run 2 (pc' := 444) (ls' := [some (vr 395), z1, some (vi l2), z3]) (st' := [vR 395, vI l2, vR 406]) rfl ?_
    refine gs_395_86 rfl A75 ?_
    refine hg_run 1 (pc' := 448) (ls' := [some (vr 395), z1, some (vi l2), z3]) (st' := [vI l2, vR 439, vI l2, vR 406]) rfl ?_
    obtain ⟨v76, e76, e⟩ := ob e
    refine hg_aIs 0 rfl (fun _ _ _ _ => rfl) A75 (Abs_ks A75 (i := 67) rfl) rfl (by decide) e76 (fun r76 => ?_)
    obtain ⟨h77, e77, e⟩ := ob e
    refine hg_wIs rfl A75 (Abs_ks A75 (i := 34) rfl) (by decide) r76 e77 (fun w77 A77 => ?_)
    refine hg_run 1 (pc' := 451) (ls' := [some (vr 395), z1, some (vi l2), z3]) (st' := [vR 395]) rfl ?_
    refine gs_395_38 rfl A77 ?_
    refine hg_run 2 (pc' := 456) (ls' := [some (vr 395), z1, some (vi l2), z3]) (st' := [vR 395, vI l2, vR 407]) rfl ?_
    refine gs_395_88 rfl A77 ?_
    refine hg_run 1 (pc' := 460) (ls' := [some (vr 395), z1, some (vi l2), z3]) (st' := [vI l2, vR 441, vI l2, vR 407]) rfl ?_
    obtain ⟨v78, e78, e⟩ := ob e
    refine hg_aIs 1 rfl (fun _ _ _ _ => rfl) A77 (Abs_ks A77 (i := 69) rfl) rfl (by decide) e78 (fun r78 => ?_)
    obtain ⟨h79, e79, e⟩ := ob e
    refine hg_wBs rfl A77 (Abs_ks A77 (i := 35) rfl) (by decide) e79 (fun w79 A79 => ?_)
    refine hg_run 2 (pc' := 419) (ls' := [some (vr 395), z1, some (vi (wadd l2 1)), z3]) (st' := []) rfl ?_
    cases e
    exact kb (wadd l2 1) h79 rfl _ (rg_add _ _) A79
set_option maxRecDepth 100000 in
theorem t283_l419 {d : Nat} (hd : 126 ≤ d)  {z1 : Option hO} {z3 : Option hO} {Q : mmO → Prop}  (n : Nat) {l2 : Int}  {h : hS} {w : mmW} {r : hS} (rl2 : rg l2) (A : Abs h w) (e : lp (fun s => c283_b419  s.1 s.2) n (l2, h) = some r) (ke : ∀ (x_0 : hS), r = (x_0) → ∀ w', ∀ (y2 : Option hO), Abs x_0 w' → hG d 283 468 [some (vr 395), z1, y2, z3] [] w' Q) : hG d 283 419 [some (vr 395), z1, some (vi l2), z3] [] w Q := by
  induction n generalizing l2 h w with
  | zero => cases e
  | succ n ih =>
    rcases lp_succ e with ⟨s1, e1, e2⟩ | e1
    · exact t283_b419 hd rl2 A e1 (fun s_0 s_1 q w1 rl2 A1 => by cases q; exact ih rl2 A1 e2) (fun x_0 q => by cases q)
    · exact t283_b419 hd rl2 A e1 (fun s_0 s_1 q => by cases q) (fun x_0 q => by cases q; exact ke _ rfl)
def c283_b470 (l2 : Int) (h : hS) : Option ((Int × hS) ⊕ (hS)) :=
  if (hI h 395 33) ≤ l2 then
  some (.inr (h))
  else
  (aIs h 443 40 l2).bind (fun v82 =>
  (wIs h 404 40 l2 v82).bind (fun h83 =>
  some (.inl ((wadd l2 1), h83))))
set_option maxRecDepth 100000 in
theorem t283_b470 {d : Nat} (hd : 126 ≤ d) {l2 : Int} {z1 : Option hO} {z3 : Option hO} {h : hS} {w : mmW} {o : (Int × hS) ⊕ (hS)} {Q : mmO → Prop} (rl2 : rg l2) (A : Abs h w) (e : c283_b470 l2 h = some o) (kb : ∀ (s_0 : Int) (s_1 : hS), o = .inl (s_0, s_1) → ∀ w', rg s_0 → Abs s_1 w' → hG d 283 470 [some (vr 395), z1, some (vi s_0), z3] [] w' Q) (ke : ∀ (x_0 : hS), o = .inr (x_0) → ∀ w', ∀ (y2 : Option hO), Abs x_0 w' → hG d 283 496 [some (vr 395), z1, y2, z3] [] w' Q) : hG d 283 470 [some (vr 395), z1, some (vi l2), z3] [] w Q := by
  unfold c283_b470 at e
  refine hg_run 2 (pc' := 472) (ls' := [some (vr 395), z1, some (vi l2), z3]) (st' := [vR 395, vI l2]) rfl ?_
  refine gs_395_33 rfl A ?_
  rcases oi e with ⟨q81, e⟩ | ⟨q81, e⟩
  · refine hg_icT (tgt := 496) rfl (by decide) rl2 (Abs_rg A 395 33) q81 ?_
    cases e
    exact ke h rfl _ _  A
  · refine hg_icF (tgt := 496) rfl (by decide) rl2 (Abs_rg A 395 33) q81 ?_
    refine hg_run 1 (pc' := 479) (ls' := [some (vr 395), z1, some (vi l2), z3]) (st' := [vR 395]) rfl ?_
    refine gs_395_35 rfl A ?_
    refine hg_run 2 (pc' := 484) (ls' := [some (vr 395), z1, some (vi l2), z3]) (st' := [vR 395, vI l2, vR 404]) rfl ?_
    refine gs_395_90 rfl A ?_
    refine hg_run 1 (pc' := 488) (ls' := [some (vr 395), z1, some (vi l2), z3]) (st' := [vI l2, vR 443, vI l2, vR 404]) rfl ?_
    obtain ⟨v82, e82, e⟩ := ob e
    refine hg_aIs 0 rfl (fun _ _ _ _ => rfl) A (Abs_ks A (i := 71) rfl) rfl (by decide) e82 (fun r82 => ?_)
    obtain ⟨h83, e83, e⟩ := ob e
    refine hg_wIs rfl A (Abs_ks A (i := 32) rfl) (by decide) r82 e83 (fun w83 A83 => ?_)
    refine hg_run 2 (pc' := 470) (ls' := [some (vr 395), z1, some (vi (wadd l2 1)), z3]) (st' := []) rfl ?_
    cases e
    exact kb (wadd l2 1) h83 rfl _ (rg_add _ _) A83
set_option maxRecDepth 100000 in
theorem t283_l470 {d : Nat} (hd : 126 ≤ d)  {z1 : Option hO} {z3 : Option hO} {Q : mmO → Prop}  (n : Nat) {l2 : Int}  {h : hS} {w : mmW} {r : hS} (rl2 : rg l2) (A : Abs h w) (e : lp (fun s => c283_b470  s.1 s.2) n (l2, h) = some r) (ke : ∀ (x_0 : hS), r = (x_0) → ∀ w', ∀ (y2 : Option hO), Abs x_0 w' → hG d 283 496 [some (vr 395), z1, y2, z3] [] w' Q) : hG d 283 470 [some (vr 395), z1, some (vi l2), z3] [] w Q := by
  induction n generalizing l2 h w with
  | zero => cases e
  | succ n ih =>
    rcases lp_succ e with ⟨s1, e1, e2⟩ | e1
    · exact t283_b470 hd rl2 A e1 (fun s_0 s_1 q w1 rl2 A1 => by cases q; exact ih rl2 A1 e2) (fun x_0 q => by cases q)
    · exact t283_b470 hd rl2 A e1 (fun s_0 s_1 q => by cases q) (fun x_0 q => by cases q; exact ke _ rfl)
def c283 (l1 : Int) (h : hS) : Option (Int × hS) :=
  (lp (fun s => c283_b2  s.1 s.2) hF0 (0, h)).bind (fun r3 =>
  (some (sI r3 395 39 0)).bind (fun h4 =>
  (lp (fun s => c283_b29 l1 s.1 s.2) hF0 (0, h4)).bind (fun r18 => xs r18 (fun x18 =>
  (lp (fun s => c283_b112  s.1 s.2) hF0 (0, x18)).bind (fun r26 =>
  (lp (fun s => c283_b163  s.1 s.2) hF0 (0, r26)).bind (fun r43 =>
  (lp (fun s => c283_b281  s.1 s.2) hF0 (0, r43)).bind (fun r49 =>
  (c226 1 0 r49).bind (fun h50 =>
  (lp (fun s => c283_b336  s.1 s.2) hF0 (0, h50)).bind (fun r56 =>
  (c289 l1 r56).bind (fun v57 =>
  if v57.1 = 0 then
  (c226 2 0 v57.2).bind (fun h68 =>
  (lp (fun s => c283_b388  s.1 s.2) hF0 (0, h68)).bind (fun r72 =>
  (lp (fun s => c283_b419  s.1 s.2) hF0 (0, r72)).bind (fun r80 =>
  (lp (fun s => c283_b470  s.1 s.2) hF0 (0, r80)).bind (fun r84 =>
  some (0, r84)))))
  else
  (some (sI v57.2 395 27 (wadd (hI v57.2 395 27) 1))).bind (fun h59 =>
  (some (sI h59 395 29 l1)).bind (fun h60 =>
  (lp (fun s => c283_b515  s.1 s.2) hF0 (0, h60)).bind (fun r67 =>
  some (1, r67))))))))))) (fun o18 => some o18))))
set_option maxRecDepth 100000 in
theorem t283 {d : Nat} (hd : 127 ≤ d) {l1 : Int} {h : hS} {w : mmW} {o : Int × hS} (A : Abs h w) (rl1 : rg l1) (e : c283 l1 h = some o) : hEv d 283 [vR 395, vI l1] w (qI o) := by
  obtain ⟨d, rfl⟩ : ∃ d1, d = d1 + 1 := ⟨d - 1, by omega⟩
  have hd : 126 ≤ d := by omega
  refine hEv_start (args := [vr 395, vi l1]) (nl := 4) rfl (Nat.le_of_ble_eq_true rfl) ?_
  show hG d 283 0 [some (vr 395), some (vi l1), none, none] [] w _
  have kr : ∀ (v1 : Int) (h1 : hS), o = (v1, h1) → ∀ w', rg v1 → Abs h1 w' → qI o (some (.int (Int32.ofInt v1)), w') := fun v1 h1 q w' r A' => by cases q; exact ⟨rfl, r, A'⟩
  unfold c283 at e
  refine hg_run 2 (pc' := 2) (ls' := [some (vr 395), some (vi l1), some (vi 0), none]) (st' := []) rfl ?_
  obtain ⟨r3, e3, e⟩ := ob e
  refine t283_l2 hd  _ (rgn 0 rfl) A e3 ?_
  intro x3_0 qq3 w3 z3_2 A3
  subst qq3
  refine hg_run 2 (pc' := 24) (ls' := [some (vr 395), some (vi l1), z3_2, none]) (st' := [vI 0, vR 395]) rfl ?_
  obtain ⟨h4, e4, e⟩ := ob e
  refine ps_395_39 rfl A3 (rgn 0 rfl) e4 (fun w4 A4 => ?_)
  refine hg_run 2 (pc' := 29) (ls' := [some (vr 395), some (vi l1), some (vi 0), none]) (st' := []) rfl ?_
  obtain ⟨r18, e18, e⟩ := ob e
  refine t283_l29 hd rl1 _ (rgn 0 rfl) A4 e18 ?_ ?_
  · intro x18_0 qq18 w18 z18_2 A18
    subst qq18
    have e := xs_l e
    refine hg_run 2 (pc' := 112) (ls' := [some (vr 395), some (vi l1), some (vi 0), none]) (st' := []) rfl ?_
    obtain ⟨r26, e26, e⟩ := ob e
    refine t283_l112 hd  _ (rgn 0 rfl) A18 e26 ?_
    intro x26_0 qq26 w26 z26_2 A26
    subst qq26
    refine hg_run 2 (pc' := 163) (ls' := [some (vr 395), some (vi l1), some (vi 0), none]) (st' := []) rfl ?_
    obtain ⟨r43, e43, e⟩ := ob e
    refine t283_l163 hd  _ (rgn 0 rfl) A26 e43 ?_
    intro x43_0 qq43 w43 z43_2 z43_3 A43
    subst qq43
    refine hg_run 2 (pc' := 281) (ls' := [some (vr 395), some (vi l1), some (vi 0), z43_3]) (st' := []) rfl ?_
    obtain ⟨r49, e49, e⟩ := ob e
    refine t283_l281 hd  _ (rgn 0 rfl) A43 e49 ?_
    intro x49_0 qq49 w49 z49_2 z49_3 A49
    subst qq49
    refine hg_run 3 (pc' := 331) (ls' := [some (vr 395), some (vi l1), z49_2, z49_3]) (st' := [vI 0, vI 1, vR 395]) rfl ?_
    obtain ⟨h50, e50, e⟩ := ob e
    refine hg_cV (as := [vR 395, vI 1, vI 0]) (st' := []) rfl (fun _ _ _ _ => rfl) rfl rfl (Nat.le_of_ble_eq_true rfl) (Nat.le_of_ble_eq_true rfl) (recvV A49 (a := 13) (Abs_ks A49 (i := 23) rfl).1) (t226 (by omega) A49 (rgn 1 rfl) (rgn 0 rfl) e50) (fun w50 A50 => ?_)
    refine hg_run 2 (pc' := 336) (ls' := [some (vr 395), some (vi l1), some (vi 0), z49_3]) (st' := []) rfl ?_
    obtain ⟨r56, e56, e⟩ := ob e
    refine t283_l336 hd  _ (rgn 0 rfl) A50 e56 ?_
    intro x56_0 qq56 w56 z56_2 A56
    subst qq56
    refine hg_run 2 (pc' := 374) (ls' := [some (vr 395), some (vi l1), z56_2, z49_3]) (st' := [vI l1, vR 395]) rfl ?_
    obtain ⟨v57, e57, e⟩ := ob e
    refine hg_cI (as := [vR 395, vI l1]) (st' := []) rfl (fun _ _ _ _ => rfl) rfl rfl (Nat.le_of_ble_eq_true rfl) (Nat.le_of_ble_eq_true rfl) (recvV A56 (a := 13) (Abs_ks A56 (i := 23) rfl).1) (t289 (by omega) A56 rl1 e57) (fun w57 r57 A57 => ?_)
    rcases oi e with ⟨q58, e⟩ | ⟨q58, e⟩
    · refine hg_ifF (tgt := 498) rfl (by decide) r57 (show ¬ ¬ (v57.1 = 0) from fun f => f q58) ?_
      refine hg_run 3 (pc' := 383) (ls' := [some (vr 395), some (vi l1), z56_2, z49_3]) (st' := [vI 0, vI 2, vR 395]) rfl ?_
      obtain ⟨h68, e68, e⟩ := ob e
      refine hg_cV (as := [vR 395, vI 2, vI 0]) (st' := []) rfl (fun _ _ _ _ => rfl) rfl rfl (Nat.le_of_ble_eq_true rfl) (Nat.le_of_ble_eq_true rfl) (recvV A57 (a := 13) (Abs_ks A57 (i := 23) rfl).1) (t226 (by omega) A57 (rgn 2 rfl) (rgn 0 rfl) e68) (fun w68 A68 => ?_)
      refine hg_run 2 (pc' := 388) (ls' := [some (vr 395), some (vi l1), some (vi 0), z49_3]) (st' := []) rfl ?_
      obtain ⟨r72, e72, e⟩ := ob e
      refine t283_l388 hd  _ (rgn 0 rfl) A68 e72 ?_
      intro x72_0 qq72 w72 z72_2 A72
      subst qq72
      refine hg_run 2 (pc' := 419) (ls' := [some (vr 395), some (vi l1), some (vi 0), z49_3]) (st' := []) rfl ?_
      obtain ⟨r80, e80, e⟩ := ob e
      refine t283_l419 hd  _ (rgn 0 rfl) A72 e80 ?_
      intro x80_0 qq80 w80 z80_2 A80
      subst qq80
      refine hg_run 2 (pc' := 470) (ls' := [some (vr 395), some (vi l1), some (vi 0), z49_3]) (st' := []) rfl ?_
      obtain ⟨r84, e84, e⟩ := ob e
      refine t283_l470 hd  _ (rgn 0 rfl) A80 e84 ?_
      intro x84_0 qq84 w84 z84_2 A84
      subst qq84
      refine hg_run 1 (pc' := 497) (ls' := [some (vr 395), some (vi l1), z84_2, z49_3]) (st' := [vI 0]) rfl ?_
      cases e
      exact hg_retI rfl (by decide) (fit_B (.inl rfl)) (kr _ _ rfl _ (rgn 0 rfl) A84)
    · refine hg_ifT (tgt := 498) rfl (by decide) r57 (show ¬ (v57.1 = 0) from q58) ?_
      refine hg_run 2 (pc' := 500) (ls' := [some (vr 395), some (vi l1), z56_2, z49_3]) (st' := [vR 395, vR 395]) rfl ?_
      refine gs_395_27 rfl A57 ?_
      refine hg_run 2 (pc' := 505) (ls' := [some (vr 395), some (vi l1), z56_2, z49_3]) (st' := [vI (wadd (hI v57.2 395 27) 1), vR 395]) rfl ?_
      obtain ⟨h59, e59, e⟩ := ob e
      refine ps_395_27 rfl A57 (rg_add _ _) e59 (fun w59 A59 => ?_)
      refine hg_run 2 (pc' := 510) (ls' := [some (vr 395), some (vi l1), z56_2, z49_3]) (st' := [vI l1, vR 395]) rfl ?_
      obtain ⟨h60, e60, e⟩ := ob e
      refine ps_395_29 rfl A59 rl1 e60 (fun w60 A60 => ?_)
      refine hg_run 2 (pc' := 515) (ls' := [some (vr 395), some (vi l1), some (vi 0), z49_3]) (st' := []) rfl ?_
      obtain ⟨r67, e67, e⟩ := ob e
      refine t283_l515 hd  _ (rgn 0 rfl) A60 e67 ?_
      intro x67_0 qq67 w67 z67_2 A67
      subst qq67
      refine hg_run 1 (pc' := 554) (ls' := [some (vr 395), some (vi l1), z67_2, z49_3]) (st' := [vI 1]) rfl ?_
      cases e
      exact hg_retI rfl (by decide) (fit_B (.inr rfl)) (kr _ _ rfl _ (rgn 1 rfl) A67)
  · intro v18 h18 qq18 w18 r18 A18
    subst qq18
    have e := xs_r e
    cases e
    exact kr _ _ rfl w18 r18 A18
def c274_b35 (l2 : Int) (l3 : Int) (h : hS) : Option ((Int × hS) ⊕ (hS)) :=
  if 8 ≤ l3 then
  some (.inr (h))
  else
  (c199 1 l2 (wadd 6 l3) h).bind (fun v7 =>
  (c201 1 l2 (wadd 22 l3) v7 h).bind (fun h8 =>
  some (.inl ((wadd l3 1), h8))))
set_option maxRecDepth 100000 in
theorem t274_b35 {d : Nat} (hd : 127 ≤ d) {l2 : Int} {l3 : Int} {l1 : Int} {z4 : Option hO} {z5 : Option hO} {z6 : Option hO} {h : hS} {w : mmW} {o : (Int × hS) ⊕ (hS)} {Q : mmO → Prop} (rl2 : rg l2) (rl3 : rg l3) (A : Abs h w) (e : c274_b35 l2 l3 h = some o) (kb : ∀ (s_0 : Int) (s_1 : hS), o = .inl (s_0, s_1) → ∀ w', rg s_0 → Abs s_1 w' → hG d 274 35 [some (vr 395), some (vi l1), some (vi l2), some (vi s_0), z4, z5, z6] [] w' Q) (ke : ∀ (x_0 : hS), o = .inr (x_0) → ∀ w', ∀ (y3 : Option hO), Abs x_0 w' → hG d 274 67 [some (vr 395), some (vi l1), some (vi l2), y3, z4, z5, z6] [] w' Q) : hG d 274 35 [some (vr 395), some (vi l1), some (vi l2), some (vi l3), z4, z5, z6] [] w Q := by
  unfold c274_b35 at e
  refine hg_run 2 (pc' := 38) (ls' := [some (vr 395), some (vi l1), some (vi l2), some (vi l3), z4, z5, z6]) (st' := [vI 8, vI l3]) rfl ?_
  rcases oi e with ⟨q6, e⟩ | ⟨q6, e⟩
  · refine hg_icT (tgt := 67) rfl (by decide) rl3 (rgn 8 rfl) q6 ?_
    cases e
    exact ke h rfl _ _  A
  · refine hg_icF (tgt := 67) rfl (by decide) rl3 (rgn 8 rfl) q6 ?_
    refine hg_run 12 (pc' := 55) (ls' := [some (vr 395), some (vi l1), some (vi l2), some (vi l3), z4, z5, z6]) (st' := [vI (wadd 6 l3), vI l2, vI 1, vR 395, vI (wadd 22 l3), vI l2, vI 1, vR 395]) rfl ?_
    obtain ⟨v7, e7, e⟩ := ob e
    refine hg_cIp (as := [vR 395, vI 1, vI l2, vI (wadd 6 l3)]) (st' := [vI (wadd 22 l3), vI l2, vI 1, vR 395]) rfl (fun _ _ _ _ => rfl) rfl rfl (Nat.le_of_ble_eq_true rfl) (Nat.le_of_ble_eq_true rfl) (recvV A (a := 13) (Abs_ks A (i := 23) rfl).1) (t199 (by omega) A (rgn 1 rfl) rl2 (rg_add _ _) e7) (fun r7 => ?_)
    obtain ⟨h8, e8, e⟩ := ob e
    refine hg_cV (as := [vR 395, vI 1, vI l2, vI (wadd 22 l3), vI v7]) (st' := []) rfl (fun _ _ _ _ => rfl) rfl rfl (Nat.le_of_ble_eq_true rfl) (Nat.le_of_ble_eq_true rfl) (recvV A (a := 13) (Abs_ks A (i := 23) rfl).1) (t201 (by omega) A (rgn 1 rfl) rl2 (rg_add _ _) r7 e8) (fun w8 A8 => ?_)
    refine hg_run 2 (pc' := 35) (ls' := [some (vr 395), some (vi l1), some (vi l2), some (vi (wadd l3 1)), z4, z5, z6]) (st' := []) rfl ?_
    cases e
    exact kb (wadd l3 1) h8 rfl _ (rg_add _ _) A8
set_option maxRecDepth 100000 in
theorem t274_l35 {d : Nat} (hd : 127 ≤ d) {l2 : Int} {l1 : Int} {z4 : Option hO} {z5 : Option hO} {z6 : Option hO} {Q : mmO → Prop} (rl2 : rg l2) (n : Nat) {l3 : Int}  {h : hS} {w : mmW} {r : hS} (rl3 : rg l3) (A : Abs h w) (e : lp (fun s => c274_b35 l2 s.1 s.2) n (l3, h) = some r) (ke : ∀ (x_0 : hS), r = (x_0) → ∀ w', ∀ (y3 : Option hO), Abs x_0 w' → hG d 274 67 [some (vr 395), some (vi l1), some (vi l2), y3, z4, z5, z6] [] w' Q) : hG d 274 35 [some (vr 395), some (vi l1), some (vi l2), some (vi l3), z4, z5, z6] [] w Q := by
  induction n generalizing l3 h w with
  | zero => cases e
  | succ n ih =>
    rcases lp_succ e with ⟨s1, e1, e2⟩ | e1
    · exact t274_b35 hd rl2 rl3 A e1 (fun s_0 s_1 q w1 rl3 A1 => by cases q; exact ih rl3 A1 e2) (fun x_0 q => by cases q)
    · exact t274_b35 hd rl2 rl3 A e1 (fun s_0 s_1 q => by cases q) (fun x_0 q => by cases q; exact ke _ rfl)
def c274_b8 (l2 : Int) (h : hS) : Option ((Int × hS) ⊕ (hS)) :=
  (c198 1 h).bind (fun v2 =>
  if v2 ≤ l2 then
  some (.inr (h))
  else
  (c201 1 l2 3 0 h).bind (fun h4 =>
  (c201 1 l2 4 l2 h4).bind (fun h5 =>
  (lp (fun s => c274_b35 l2 s.1 s.2) hF0 (0, h5)).bind (fun r9 =>
  some (.inl ((wadd l2 1), r9))))))
set_option maxRecDepth 100000 in
theorem t274_b8 {d : Nat} (hd : 127 ≤ d) {l2 : Int} {l1 : Int} {z3 : Option hO} {z4 : Option hO} {z5 : Option hO} {z6 : Option hO} {h : hS} {w : mmW} {o : (Int × hS) ⊕ (hS)} {Q : mmO → Prop} (rl2 : rg l2) (A : Abs h w) (e : c274_b8 l2 h = some o) (kb : ∀ (s_0 : Int) (s_1 : hS), o = .inl (s_0, s_1) → ∀ w', ∀ (y3 : Option hO), rg s_0 → Abs s_1 w' → hG d 274 8 [some (vr 395), some (vi l1), some (vi s_0), y3, z4, z5, z6] [] w' Q) (ke : ∀ (x_0 : hS), o = .inr (x_0) → ∀ w', ∀ (y2 y3 : Option hO), Abs x_0 w' → hG d 274 73 [some (vr 395), some (vi l1), y2, y3, z4, z5, z6] [] w' Q) : hG d 274 8 [some (vr 395), some (vi l1), some (vi l2), z3, z4, z5, z6] [] w Q := by
  unfold c274_b8 at e
  refine hg_run 3 (pc' := 11) (ls' := [some (vr 395), some (vi l1), some (vi l2), z3, z4, z5, z6]) (st' := [vI 1, vR 395, vI l2]) rfl ?_
  obtain ⟨v2, e2, e⟩ := ob e
  refine hg_cIp (as := [vR 395, vI 1]) (st' := [vI l2]) rfl (fun _ _ _ _ => rfl) rfl rfl (Nat.le_of_ble_eq_true rfl) (Nat.le_of_ble_eq_true rfl) (recvV A (a := 13) (Abs_ks A (i := 23) rfl).1) (t198 (by omega) A (rgn 1 rfl) e2) (fun r2 => ?_)
  rcases oi e with ⟨q3, e⟩ | ⟨q3, e⟩
  · refine hg_icT (tgt := 73) rfl (by decide) rl2 r2 q3 ?_
    cases e
    exact ke h rfl _ _ _  A
  · refine hg_icF (tgt := 73) rfl (by decide) rl2 r2 q3 ?_
    refine hg_run 5 (pc' := 22) (ls' := [some (vr 395), some (vi l1), some (vi l2), z3, z4, z5, z6]) (st' := [vI 0, vI 3, vI l2, vI 1, vR 395]) rfl ?_
    obtain ⟨h4, e4, e⟩ := ob e
    refine hg_cV (as := [vR 395, vI 1, vI l2, vI 3, vI 0]) (st' := []) rfl (fun _ _ _ _ => rfl) rfl rfl (Nat.le_of_ble_eq_true rfl) (Nat.le_of_ble_eq_true rfl) (recvV A (a := 13) (Abs_ks A (i := 23) rfl).1) (t201 (by omega) A (rgn 1 rfl) rl2 (rgn 3 rfl) (rgn 0 rfl) e4) (fun w4 A4 => ?_)
    refine hg_run 5 (pc' := 30) (ls' := [some (vr 395), some (vi l1), some (vi l2), z3, z4, z5, z6]) (st' := [vI l2, vI 4, vI l2, vI 1, vR 395]) rfl ?_
    obtain ⟨h5, e5, e⟩ := ob e
    refine hg_cV (as := [vR 395, vI 1, vI l2, vI 4, vI l2]) (st' := []) rfl (fun _ _ _ _ => rfl) rfl rfl (Nat.le_of_ble_eq_true rfl) (Nat.le_of_ble_eq_true rfl) (recvV A4 (a := 13) (Abs_ks A4 (i := 23) rfl).1) (t201 (by omega) A4 (rgn 1 rfl) rl2 (rgn 4 rfl) rl2 e5) (fun w5 A5 => ?_)
    refine hg_run 2 (pc' := 35) (ls' := [some (vr 395), some (vi l1), some (vi l2), some (vi 0), z4, z5, z6]) (st' := []) rfl ?_
    obtain ⟨r9, e9, e⟩ := ob e
    refine t274_l35 hd rl2 _ (rgn 0 rfl) A5 e9 ?_
    intro x9_0 qq9 w9 z9_3 A9
    subst qq9
    refine hg_run 2 (pc' := 8) (ls' := [some (vr 395), some (vi l1), some (vi (wadd l2 1)), z9_3, z4, z5, z6]) (st' := []) rfl ?_
    cases e
    exact kb (wadd l2 1) r9 rfl _ _ (rg_add _ _) A9
set_option maxRecDepth 100000 in
theorem t274_l8 {d : Nat} (hd : 127 ≤ d)  {l1 : Int} {z4 : Option hO} {z5 : Option hO} {z6 : Option hO} {Q : mmO → Prop}  (n : Nat) {l2 : Int} {z3 : Option hO} {h : hS} {w : mmW} {r : hS} (rl2 : rg l2) (A : Abs h w) (e : lp (fun s => c274_b8  s.1 s.2) n (l2, h) = some r) (ke : ∀ (x_0 : hS), r = (x_0) → ∀ w', ∀ (y2 y3 : Option hO), Abs x_0 w' → hG d 274 73 [some (vr 395), some (vi l1), y2, y3, z4, z5, z6] [] w' Q) : hG d 274 8 [some (vr 395), some (vi l1), some (vi l2), z3, z4, z5, z6] [] w Q := by
  induction n generalizing l2 z3 h w with
  | zero => cases e
  | succ n ih =>
    rcases lp_succ e with ⟨s1, e1, e2⟩ | e1
    · exact t274_b8 hd rl2 A e1 (fun s_0 s_1 q w1 y3 rl2 A1 => by cases q; exact ih rl2 A1 e2) (fun x_0 q => by cases q)
    · exact t274_b8 hd rl2 A e1 (fun s_0 s_1 q => by cases q) (fun x_0 q => by cases q; exact ke _ rfl)
def c274_b82 (l2 : Int) (l3 : Int) (h : hS) : Option ((Int × Int × hS) ⊕ ((hS) ⊕ (Int × hS))) :=
  if l3 = (-1) then
  some (.inr (.inl (h)))
  else
  (c275 l3 l2 h).bind (fun v13 =>
  if v13.1 = 0 then
  some (.inr (.inr (0, v13.2)))
  else
  (c257 l3 4 v13.2).bind (fun v15 =>
  some (.inl ((wadd l2 1), v15, v13.2))))
set_option maxRecDepth 100000 in
theorem t274_b82 {d : Nat} (hd : 127 ≤ d) {l2 : Int} {l3 : Int} {l1 : Int} {z4 : Option hO} {z5 : Option hO} {z6 : Option hO} {h : hS} {w : mmW} {o : (Int × Int × hS) ⊕ ((hS) ⊕ (Int × hS))} {Q : mmO → Prop} (rl2 : rg l2) (rl3 : rg l3) (A : Abs h w) (e : c274_b82 l2 l3 h = some o) (kb : ∀ (s_0 : Int) (s_1 : Int) (s_2 : hS), o = .inl (s_0, s_1, s_2) → ∀ w', rg s_0 → rg s_1 → Abs s_2 w' → hG d 274 82 [some (vr 395), some (vi l1), some (vi s_0), some (vi s_1), z4, z5, z6] [] w' Q) (ke : ∀ (x_0 : hS), o = .inr (.inl (x_0)) → ∀ w', ∀ (y2 y3 : Option hO), Abs x_0 w' → hG d 274 111 [some (vr 395), some (vi l1), y2, y3, z4, z5, z6] [] w' Q) (kr : ∀ (v1 : Int) (h1 : hS), o = .inr (.inr (v1, h1)) → ∀ w', rg v1 → Abs h1 w' → Q (some (.int (Int32.ofInt v1)), w')) : hG d 274 82 [some (vr 395), some (vi l1), some (vi l2), some (vi l3), z4, z5, z6] [] w Q := by
  unfold c274_b82 at e
  refine hg_run 2 (pc' := 84) (ls' := [some (vr 395), some (vi l1), some (vi l2), some (vi l3), z4, z5, z6]) (st' := [vI (-1), vI l3]) rfl ?_
  rcases oi e with ⟨q12, e⟩ | ⟨q12, e⟩
  · refine hg_icT (tgt := 111) rfl (by decide) rl3 (rgn (-1) rfl) q12 ?_
    cases e
    exact ke h rfl _ _ _  A
  · refine hg_icF (tgt := 111) rfl (by decide) rl3 (rgn (-1) rfl) q12 ?_
    refine hg_run 3 (pc' := 90) (ls' := [some (vr 395), some (vi l1), some (vi l2), some (vi l3), z4, z5, z6]) (st' := [vI l2, vI l3, vR 395]) rfl ?_
    obtain ⟨v13, e13, e⟩ := ob e
    refine hg_cI (as := [vR 395, vI l3, vI l2]) (st' := []) rfl (fun _ _ _ _ => rfl) rfl rfl (Nat.le_of_ble_eq_true rfl) (Nat.le_of_ble_eq_true rfl) (recvV A (a := 13) (Abs_ks A (i := 23) rfl).1) (t275 (by omega) A rl3 rl2 e13) (fun w13 r13 A13 => ?_)
    rcases oi e with ⟨q14, e⟩ | ⟨q14, e⟩
    · refine hg_ifF (tgt := 98) rfl (by decide) r13 (show ¬ ¬ (v13.1 = 0) from fun f => f q14) ?_
      refine hg_run 1 (pc' := 97) (ls' := [some (vr 395), some (vi l1), some (vi l2), some (vi l3), z4, z5, z6]) (st' := [vI 0]) rfl ?_
      cases e
      exact hg_retI rfl (by decide) (fit_B (.inl rfl)) (kr _ _ rfl _ (rgn 0 rfl) A13)
    · refine hg_ifT (tgt := 98) rfl (by decide) r13 (show ¬ (v13.1 = 0) from q14) ?_
      refine hg_run 4 (pc' := 104) (ls' := [some (vr 395), some (vi l1), some (vi (wadd l2 1)), some (vi l3), z4, z5, z6]) (st' := [vI 4, vI l3, vR 395]) rfl ?_
      obtain ⟨v15, e15, e⟩ := ob e
      refine hg_cIp (as := [vR 395, vI l3, vI 4]) (st' := []) rfl (fun _ _ _ _ => rfl) rfl rfl (Nat.le_of_ble_eq_true rfl) (Nat.le_of_ble_eq_true rfl) (recvV A13 (a := 13) (Abs_ks A13 (i := 23) rfl).1) (t257 (by omega) A13 rl3 (rgn 4 rfl) e15) (fun r15 => ?_)
      refine hg_run 2 (pc' := 82) (ls' := [some (vr 395), some (vi l1), some (vi (wadd l2 1)), some (vi v15), z4, z5, z6]) (st' := []) rfl ?_
      cases e
      exact kb (wadd l2 1) v15 v13.2 rfl _ (rg_add _ _) r15 A13
set_option maxRecDepth 100000 in
theorem t274_l82 {d : Nat} (hd : 127 ≤ d)  {l1 : Int} {z4 : Option hO} {z5 : Option hO} {z6 : Option hO} {Q : mmO → Prop}  (n : Nat) {l2 : Int} {l3 : Int}  {h : hS} {w : mmW} {r : (hS) ⊕ (Int × hS)} (rl2 : rg l2) (rl3 : rg l3) (A : Abs h w) (e : lp (fun s => c274_b82  s.1 s.2.1 s.2.2) n (l2, l3, h) = some r) (ke : ∀ (x_0 : hS), r = .inl (x_0) → ∀ w', ∀ (y2 y3 : Option hO), Abs x_0 w' → hG d 274 111 [some (vr 395), some (vi l1), y2, y3, z4, z5, z6] [] w' Q) (kr : ∀ (v1 : Int) (h1 : hS), r = .inr (v1, h1) → ∀ w', rg v1 → Abs h1 w' → Q (some (.int (Int32.ofInt v1)), w')) : hG d 274 82 [some (vr 395), some (vi l1), some (vi l2), some (vi l3), z4, z5, z6] [] w Q := by
  induction n generalizing l2 l3 h w with
  | zero => cases e
  | succ n ih =>
    rcases lp_succ e with ⟨s1, e1, e2⟩ | e1
    · exact t274_b82 hd rl2 rl3 A e1 (fun s_0 s_1 s_2 q w1 rl2 rl3 A1 => by cases q; exact ih rl2 rl3 A1 e2) (fun x_0 q => by cases q) (fun v0 h0 q => by cases q)
    · exact t274_b82 hd rl2 rl3 A e1 (fun s_0 s_1 s_2 q => by cases q) (fun x_0 q => by cases q; exact ke _ rfl) (fun v0 h0 q => by cases q; exact kr _ _ rfl)
def c274_j180 (l4 : Int) (h : hS) : Option ((Int × hS) ⊕ (hS)) :=
  some (.inl ((wadd l4 1), h))
set_option maxRecDepth 100000 in
theorem t274_j180 {d : Nat} (hd : 127 ≤ d) {l4 : Int} {l1 : Int} {z2 : Option hO} {l3 : Int} {z5 : Option hO} {z6 : Option hO} {h : hS} {w : mmW} {o : (Int × hS) ⊕ (hS)} {Q : mmO → Prop} (rl4 : rg l4) (A : Abs h w) (e : c274_j180 l4 h = some o) (kb : ∀ (s_0 : Int) (s_1 : hS), o = .inl (s_0, s_1) → ∀ w', rg s_0 → Abs s_1 w' → hG d 274 131 [some (vr 395), some (vi l1), z2, some (vi l3), some (vi s_0), z5, z6] [] w' Q) (ke : ∀ (x_0 : hS), o = .inr (x_0) → ∀ w', ∀ (y4 : Option hO), Abs x_0 w' → hG d 274 186 [some (vr 395), some (vi l1), z2, some (vi l3), y4, z5, z6] [] w' Q) : hG d 274 180 [some (vr 395), some (vi l1), z2, some (vi l3), some (vi l4), z5, z6] [] w Q := by
  unfold c274_j180 at e
  refine hg_run 2 (pc' := 131) (ls' := [some (vr 395), some (vi l1), z2, some (vi l3), some (vi (wadd l4 1)), z5, z6]) (st' := []) rfl ?_
  cases e
  exact kb (wadd l4 1) h rfl _ (rg_add _ _) A
def c274_b131 (l4 : Int) (h : hS) : Option ((Int × hS) ⊕ (hS)) :=
  (c198 1 h).bind (fun v20 =>
  if v20 ≤ l4 then
  some (.inr (h))
  else
  (c199 1 l4 1 h).bind (fun v22 =>
  if v22 = (-1) then
  c274_j180 l4 h
  else
  (c199 1 l4 1 h).bind (fun v24 =>
  (c199 1 v24 3 h).bind (fun v25 =>
  if v25 = 1 then
  (c201 1 l4 3 1 h).bind (fun h27 =>
  c274_j180 l4 h27)
  else
  c274_j180 l4 h))))
set_option maxRecDepth 100000 in
theorem t274_b131 {d : Nat} (hd : 127 ≤ d) {l4 : Int} {l1 : Int} {z2 : Option hO} {l3 : Int} {z5 : Option hO} {z6 : Option hO} {h : hS} {w : mmW} {o : (Int × hS) ⊕ (hS)} {Q : mmO → Prop} (rl4 : rg l4) (A : Abs h w) (e : c274_b131 l4 h = some o) (kb : ∀ (s_0 : Int) (s_1 : hS), o = .inl (s_0, s_1) → ∀ w', rg s_0 → Abs s_1 w' → hG d 274 131 [some (vr 395), some (vi l1), z2, some (vi l3), some (vi s_0), z5, z6] [] w' Q) (ke : ∀ (x_0 : hS), o = .inr (x_0) → ∀ w', ∀ (y4 : Option hO), Abs x_0 w' → hG d 274 186 [some (vr 395), some (vi l1), z2, some (vi l3), y4, z5, z6] [] w' Q) : hG d 274 131 [some (vr 395), some (vi l1), z2, some (vi l3), some (vi l4), z5, z6] [] w Q := by
  unfold c274_b131 at e
  refine hg_run 3 (pc' := 135) (ls' := [some (vr 395), some (vi l1), z2, some (vi l3), some (vi l4), z5, z6]) (st' := [vI 1, vR 395, vI l4]) rfl ?_
  obtain ⟨v20, e20, e⟩ := ob e
  refine hg_cIp (as := [vR 395, vI 1]) (st' := [vI l4]) rfl (fun _ _ _ _ => rfl) rfl rfl (Nat.le_of_ble_eq_true rfl) (Nat.le_of_ble_eq_true rfl) (recvV A (a := 13) (Abs_ks A (i := 23) rfl).1) (t198 (by omega) A (rgn 1 rfl) e20) (fun r20 => ?_)
  rcases oi e with ⟨q21, e⟩ | ⟨q21, e⟩
  · refine hg_icT (tgt := 186) rfl (by decide) rl4 r20 q21 ?_
    cases e
    exact ke h rfl _ _  A
  · refine hg_icF (tgt := 186) rfl (by decide) rl4 r20 q21 ?_
    refine hg_run 4 (pc' := 146) (ls' := [some (vr 395), some (vi l1), z2, some (vi l3), some (vi l4), z5, z6]) (st' := [vI 1, vI l4, vI 1, vR 395]) rfl ?_
    obtain ⟨v22, e22, e⟩ := ob e
    refine hg_cIp (as := [vR 395, vI 1, vI l4, vI 1]) (st' := []) rfl (fun _ _ _ _ => rfl) rfl rfl (Nat.le_of_ble_eq_true rfl) (Nat.le_of_ble_eq_true rfl) (recvV A (a := 13) (Abs_ks A (i := 23) rfl).1) (t199 (by omega) A (rgn 1 rfl) rl4 (rgn 1 rfl) e22) (fun r22 => ?_)
    refine hg_run 1 (pc' := 150) (ls' := [some (vr 395), some (vi l1), z2, some (vi l3), some (vi l4), z5, z6]) (st' := [vI (-1), vI v22]) rfl ?_
    rcases oi e with ⟨q23, e⟩ | ⟨q23, e⟩
    · refine hg_icT (tgt := 180) rfl (by decide) r22 (rgn (-1) rfl) q23 ?_
      exact t274_j180 hd rl4 A e kb ke
    · refine hg_icF (tgt := 180) rfl (by decide) r22 (rgn (-1) rfl) q23 ?_
      refine hg_run 6 (pc' := 160) (ls' := [some (vr 395), some (vi l1), z2, some (vi l3), some (vi l4), z5, z6]) (st' := [vI 1, vI l4, vI 1, vR 395, vI 1, vR 395]) rfl ?_
      obtain ⟨v24, e24, e⟩ := ob e
      refine hg_cIp (as := [vR 395, vI 1, vI l4, vI 1]) (st' := [vI 1, vR 395]) rfl (fun _ _ _ _ => rfl) rfl rfl (Nat.le_of_ble_eq_true rfl) (Nat.le_of_ble_eq_true rfl) (recvV A (a := 13) (Abs_ks A (i := 23) rfl).1) (t199 (by omega) A (rgn 1 rfl) rl4 (rgn 1 rfl) e24) (fun r24 => ?_)
      refine hg_run 1 (pc' := 164) (ls' := [some (vr 395), some (vi l1), z2, some (vi l3), some (vi l4), z5, z6]) (st' := [vI 3, vI v24, vI 1, vR 395]) rfl ?_
      obtain ⟨v25, e25, e⟩ := ob e
      refine hg_cIp (as := [vR 395, vI 1, vI v24, vI 3]) (st' := []) rfl (fun _ _ _ _ => rfl) rfl rfl (Nat.le_of_ble_eq_true rfl) (Nat.le_of_ble_eq_true rfl) (recvV A (a := 13) (Abs_ks A (i := 23) rfl).1) (t199 (by omega) A (rgn 1 rfl) r24 (rgn 3 rfl) e25) (fun r25 => ?_)
      refine hg_run 1 (pc' := 168) (ls' := [some (vr 395), some (vi l1), z2, some (vi l3), some (vi l4), z5, z6]) (st' := [vI 1, vI v25]) rfl ?_
      rcases oi e with ⟨q26, e⟩ | ⟨q26, e⟩
      · refine hg_icF (tgt := 180) rfl (by decide) r25 (rgn 1 rfl) (show ¬ ¬ (v25 = 1) from fun f => f q26) ?_
        refine hg_run 5 (pc' := 177) (ls' := [some (vr 395), some (vi l1), z2, some (vi l3), some (vi l4), z5, z6]) (st' := [vI 1, vI 3, vI l4, vI 1, vR 395]) rfl ?_
        obtain ⟨h27, e27, e⟩ := ob e
        refine hg_cV (as := [vR 395, vI 1, vI l4, vI 3, vI 1]) (st' := []) rfl (fun _ _ _ _ => rfl) rfl rfl (Nat.le_of_ble_eq_true rfl) (Nat.le_of_ble_eq_true rfl) (recvV A (a := 13) (Abs_ks A (i := 23) rfl).1) (t201 (by omega) A (rgn 1 rfl) rl4 (rgn 3 rfl) (rgn 1 rfl) e27) (fun w27 A27 => ?_)
        exact t274_j180 hd rl4 A27 e kb ke
      · refine hg_icT (tgt := 180) rfl (by decide) r25 (rgn 1 rfl) (show ¬ (v25 = 1) from q26) ?_
        exact t274_j180 hd rl4 A e kb ke
set_option maxRecDepth 100000 in
theorem t274_l131 {d : Nat} (hd : 127 ≤ d)  {l1 : Int} {z2 : Option hO} {l3 : Int} {z5 : Option hO} {z6 : Option hO} {Q : mmO → Prop}  (n : Nat) {l4 : Int}  {h : hS} {w : mmW} {r : hS} (rl4 : rg l4) (A : Abs h w) (e : lp (fun s => c274_b131  s.1 s.2) n (l4, h) = some r) (ke : ∀ (x_0 : hS), r = (x_0) → ∀ w', ∀ (y4 : Option hO), Abs x_0 w' → hG d 274 186 [some (vr 395), some (vi l1), z2, some (vi l3), y4, z5, z6] [] w' Q) : hG d 274 131 [some (vr 395), some (vi l1), z2, some (vi l3), some (vi l4), z5, z6] [] w Q := by
  induction n generalizing l4 h w with
  | zero => cases e
  | succ n ih =>
    rcases lp_succ e with ⟨s1, e1, e2⟩ | e1
    · exact t274_b131 hd rl4 A e1 (fun s_0 s_1 q w1 rl4 A1 => by cases q; exact ih rl4 A1 e2) (fun x_0 q => by cases q)
    · exact t274_b131 hd rl4 A e1 (fun s_0 s_1 q => by cases q) (fun x_0 q => by cases q; exact ke _ rfl)
def c274_b122 (l3 : Int) (h : hS) : Option ((Int × hS) ⊕ (hS)) :=
  if 12 ≤ l3 then
  some (.inr (h))
  else
  (lp (fun s => c274_b131  s.1 s.2) hF0 (0, h)).bind (fun r28 =>
  some (.inl ((wadd l3 1), r28)))
set_option maxRecDepth 100000 in
theorem t274_b122 {d : Nat} (hd : 127 ≤ d) {l3 : Int} {l1 : Int} {z2 : Option hO} {z4 : Option hO} {z5 : Option hO} {z6 : Option hO} {h : hS} {w : mmW} {o : (Int × hS) ⊕ (hS)} {Q : mmO → Prop} (rl3 : rg l3) (A : Abs h w) (e : c274_b122 l3 h = some o) (kb : ∀ (s_0 : Int) (s_1 : hS), o = .inl (s_0, s_1) → ∀ w', ∀ (y4 : Option hO), rg s_0 → Abs s_1 w' → hG d 274 122 [some (vr 395), some (vi l1), z2, some (vi s_0), y4, z5, z6] [] w' Q) (ke : ∀ (x_0 : hS), o = .inr (x_0) → ∀ w', ∀ (y3 y4 : Option hO), Abs x_0 w' → hG d 274 192 [some (vr 395), some (vi l1), z2, y3, y4, z5, z6] [] w' Q) : hG d 274 122 [some (vr 395), some (vi l1), z2, some (vi l3), z4, z5, z6] [] w Q := by
  unfold c274_b122 at e
  refine hg_run 2 (pc' := 125) (ls' := [some (vr 395), some (vi l1), z2, some (vi l3), z4, z5, z6]) (st' := [vI 12, vI l3]) rfl ?_
  rcases oi e with ⟨q19, e⟩ | ⟨q19, e⟩
  · refine hg_icT (tgt := 192) rfl (by decide) rl3 (rgn 12 rfl) q19 ?_
    cases e
    exact ke h rfl _ _ _  A
  · refine hg_icF (tgt := 192) rfl (by decide) rl3 (rgn 12 rfl) q19 ?_
    refine hg_run 2 (pc' := 131) (ls' := [some (vr 395), some (vi l1), z2, some (vi l3), some (vi 0), z5, z6]) (st' := []) rfl ?_
    obtain ⟨r28, e28, e⟩ := ob e
    refine t274_l131 hd  _ (rgn 0 rfl) A e28 ?_
    intro x28_0 qq28 w28 z28_4 A28
    subst qq28
    refine hg_run 2 (pc' := 122) (ls' := [some (vr 395), some (vi l1), z2, some (vi (wadd l3 1)), z28_4, z5, z6]) (st' := []) rfl ?_
    cases e
    exact kb (wadd l3 1) r28 rfl _ _ (rg_add _ _) A28
set_option maxRecDepth 100000 in
theorem t274_l122 {d : Nat} (hd : 127 ≤ d)  {l1 : Int} {z2 : Option hO} {z5 : Option hO} {z6 : Option hO} {Q : mmO → Prop}  (n : Nat) {l3 : Int} {z4 : Option hO} {h : hS} {w : mmW} {r : hS} (rl3 : rg l3) (A : Abs h w) (e : lp (fun s => c274_b122  s.1 s.2) n (l3, h) = some r) (ke : ∀ (x_0 : hS), r = (x_0) → ∀ w', ∀ (y3 y4 : Option hO), Abs x_0 w' → hG d 274 192 [some (vr 395), some (vi l1), z2, y3, y4, z5, z6] [] w' Q) : hG d 274 122 [some (vr 395), some (vi l1), z2, some (vi l3), z4, z5, z6] [] w Q := by
  induction n generalizing l3 z4 h w with
  | zero => cases e
  | succ n ih =>
    rcases lp_succ e with ⟨s1, e1, e2⟩ | e1
    · exact t274_b122 hd rl3 A e1 (fun s_0 s_1 q w1 y4 rl3 A1 => by cases q; exact ih rl3 A1 e2) (fun x_0 q => by cases q)
    · exact t274_b122 hd rl3 A e1 (fun s_0 s_1 q => by cases q) (fun x_0 q => by cases q; exact ke _ rfl)
def c274_j307 (l5 : Int) (h : hS) : Option ((Int × hS) ⊕ (hS)) :=
  some (.inl ((wadd l5 1), h))
set_option maxRecDepth 100000 in
theorem t274_j307 {d : Nat} (hd : 127 ≤ d) {l5 : Int} {l1 : Int} {z2 : Option hO} {l3 : Int} {l4 : Int} {z6 : Option hO} {h : hS} {w : mmW} {o : (Int × hS) ⊕ (hS)} {Q : mmO → Prop} (rl5 : rg l5) (A : Abs h w) (e : c274_j307 l5 h = some o) (kb : ∀ (s_0 : Int) (s_1 : hS), o = .inl (s_0, s_1) → ∀ w', ∀ (y6 : Option hO), rg s_0 → Abs s_1 w' → hG d 274 239 [some (vr 395), some (vi l1), z2, some (vi l3), some (vi l4), some (vi s_0), y6] [] w' Q) (ke : ∀ (x_0 : hS), o = .inr (x_0) → ∀ w', ∀ (y5 y6 : Option hO), Abs x_0 w' → hG d 274 313 [some (vr 395), some (vi l1), z2, some (vi l3), some (vi l4), y5, y6] [] w' Q) : hG d 274 307 [some (vr 395), some (vi l1), z2, some (vi l3), some (vi l4), some (vi l5), z6] [] w Q := by
  unfold c274_j307 at e
  refine hg_run 2 (pc' := 239) (ls' := [some (vr 395), some (vi l1), z2, some (vi l3), some (vi l4), some (vi (wadd l5 1)), z6]) (st' := []) rfl ?_
  cases e
  exact kb (wadd l5 1) h rfl _ _ (rg_add _ _) A
def c274_b239 (l3 : Int) (l4 : Int) (l5 : Int) (h : hS) : Option ((Int × hS) ⊕ (hS)) :=
  (c199 1 l3 30 h).bind (fun v35 =>
  if v35 ≤ l5 then
  some (.inr (h))
  else
  if l4 = (-1) then
  some (.inr (h))
  else
  (c199 1 l3 (wadd 31 l5) h).bind (fun v38 =>
  (c208 0 l4 v38 h).bind (fun v39 =>
  if v39 = (-1) then
  c274_j307 l5 h
  else
  (c199 0 l4 (wadd 35 v39) h).bind (fun v41 =>
  (c201 1 l3 (wadd 35 l5) v41 h).bind (fun h42 =>
  c274_j307 l5 h42)))))
set_option maxRecDepth 100000 in
theorem t274_b239 {d : Nat} (hd : 127 ≤ d) {l3 : Int} {l4 : Int} {l5 : Int} {l1 : Int} {z2 : Option hO} {z6 : Option hO} {h : hS} {w : mmW} {o : (Int × hS) ⊕ (hS)} {Q : mmO → Prop} (rl3 : rg l3) (rl4 : rg l4) (rl5 : rg l5) (A : Abs h w) (e : c274_b239 l3 l4 l5 h = some o) (kb : ∀ (s_0 : Int) (s_1 : hS), o = .inl (s_0, s_1) → ∀ w', ∀ (y6 : Option hO), rg s_0 → Abs s_1 w' → hG d 274 239 [some (vr 395), some (vi l1), z2, some (vi l3), some (vi l4), some (vi s_0), y6] [] w' Q) (ke : ∀ (x_0 : hS), o = .inr (x_0) → ∀ w', ∀ (y5 y6 : Option hO), Abs x_0 w' → hG d 274 313 [some (vr 395), some (vi l1), z2, some (vi l3), some (vi l4), y5, y6] [] w' Q) : hG d 274 239 [some (vr 395), some (vi l1), z2, some (vi l3), some (vi l4), some (vi l5), z6] [] w Q := by
  unfold c274_b239 at e
  refine hg_run 5 (pc' := 246) (ls' := [some (vr 395), some (vi l1), z2, some (vi l3), some (vi l4), some (vi l5), z6]) (st' := [vI 30, vI l3, vI 1, vR 395, vI l5]) rfl ?_
  obtain ⟨v35, e35, e⟩ := ob e
  refine hg_cIp (as := [vR 395, vI 1, vI l3, vI 30]) (st' := [vI l5]) rfl (fun _ _ _ _ => rfl) rfl rfl (Nat.le_of_ble_eq_true rfl) (Nat.le_of_ble_eq_true rfl) (recvV A (a := 13) (Abs_ks A (i := 23) rfl).1) (t199 (by omega) A (rgn 1 rfl) rl3 (rgn 30 rfl) e35) (fun r35 => ?_)
  rcases oi e with ⟨q36, e⟩ | ⟨q36, e⟩
  · refine hg_icT (tgt := 313) rfl (by decide) rl5 r35 q36 ?_
    cases e
    exact ke h rfl _ _ _  A
  · refine hg_icF (tgt := 313) rfl (by decide) rl5 r35 q36 ?_
    refine hg_run 2 (pc' := 255) (ls' := [some (vr 395), some (vi l1), z2, some (vi l3), some (vi l4), some (vi l5), z6]) (st' := [vI (-1), vI l4]) rfl ?_
    rcases oi e with ⟨q37, e⟩ | ⟨q37, e⟩
    · refine hg_icT (tgt := 313) rfl (by decide) rl4 (rgn (-1) rfl) q37 ?_
      cases e
      exact ke h rfl _ _ _  A
    · refine hg_icF (tgt := 313) rfl (by decide) rl4 (rgn (-1) rfl) q37 ?_
      refine hg_run 9 (pc' := 270) (ls' := [some (vr 395), some (vi l1), z2, some (vi l3), some (vi l4), some (vi l5), z6]) (st' := [vI (wadd 31 l5), vI l3, vI 1, vR 395, vI l4, vI 0, vR 395]) rfl ?_
      obtain ⟨v38, e38, e⟩ := ob e
      refine hg_cIp (as := [vR 395, vI 1, vI l3, vI (wadd 31 l5)]) (st' := [vI l4, vI 0, vR 395]) rfl (fun _ _ _ _ => rfl) rfl rfl (Nat.le_of_ble_eq_true rfl) (Nat.le_of_ble_eq_true rfl) (recvV A (a := 13) (Abs_ks A (i := 23) rfl).1) (t199 (by omega) A (rgn 1 rfl) rl3 (rg_add _ _) e38) (fun r38 => ?_)
      obtain ⟨v39, e39, e⟩ := ob e
      refine hg_cIp (as := [vR 395, vI 0, vI l4, vI v38]) (st' := []) rfl (fun _ _ _ _ => rfl) rfl rfl (Nat.le_of_ble_eq_true rfl) (Nat.le_of_ble_eq_true rfl) (recvV A (a := 13) (Abs_ks A (i := 23) rfl).1) (t208 (by omega) A (rgn 0 rfl) rl4 r38 e39) (fun r39 => ?_)
      refine hg_run 3 (pc' := 281) (ls' := [some (vr 395), some (vi l1), z2, some (vi l3), some (vi l4), some (vi l5), some (vi v39)]) (st' := [vI (-1), vI v39]) rfl ?_
      rcases oi e with ⟨q40, e⟩ | ⟨q40, e⟩
      · refine hg_icT (tgt := 307) rfl (by decide) r39 (rgn (-1) rfl) q40 ?_
        exact t274_j307 hd rl5 A e kb ke
      · refine hg_icF (tgt := 307) rfl (by decide) r39 (rgn (-1) rfl) q40 ?_
        refine hg_run 12 (pc' := 301) (ls' := [some (vr 395), some (vi l1), z2, some (vi l3), some (vi l4), some (vi l5), some (vi v39)]) (st' := [vI (wadd 35 v39), vI l4, vI 0, vR 395, vI (wadd 35 l5), vI l3, vI 1, vR 395]) rfl ?_
        obtain ⟨v41, e41, e⟩ := ob e
        refine hg_cIp (as := [vR 395, vI 0, vI l4, vI (wadd 35 v39)]) (st' := [vI (wadd 35 l5), vI l3, vI 1, vR 395]) rfl (fun _ _ _ _ => rfl) rfl rfl (Nat.le_of_ble_eq_true rfl) (Nat.le_of_ble_eq_true rfl) (recvV A (a := 13) (Abs_ks A (i := 23) rfl).1) (t199 (by omega) A (rgn 0 rfl) rl4 (rg_add _ _) e41) (fun r41 => ?_)
        obtain ⟨h42, e42, e⟩ := ob e
        refine hg_cV (as := [vR 395, vI 1, vI l3, vI (wadd 35 l5), vI v41]) (st' := []) rfl (fun _ _ _ _ => rfl) rfl rfl (Nat.le_of_ble_eq_true rfl) (Nat.le_of_ble_eq_true rfl) (recvV A (a := 13) (Abs_ks A (i := 23) rfl).1) (t201 (by omega) A (rgn 1 rfl) rl3 (rg_add _ _) r41 e42) (fun w42 A42 => ?_)
        exact t274_j307 hd rl5 A42 e kb ke
set_option maxRecDepth 100000 in
theorem t274_l239 {d : Nat} (hd : 127 ≤ d) {l3 : Int} {l4 : Int} {l1 : Int} {z2 : Option hO} {Q : mmO → Prop} (rl3 : rg l3) (rl4 : rg l4) (n : Nat) {l5 : Int} {z6 : Option hO} {h : hS} {w : mmW} {r : hS} (rl5 : rg l5) (A : Abs h w) (e : lp (fun s => c274_b239 l3 l4 s.1 s.2) n (l5, h) = some r) (ke : ∀ (x_0 : hS), r = (x_0) → ∀ w', ∀ (y5 y6 : Option hO), Abs x_0 w' → hG d 274 313 [some (vr 395), some (vi l1), z2, some (vi l3), some (vi l4), y5, y6] [] w' Q) : hG d 274 239 [some (vr 395), some (vi l1), z2, some (vi l3), some (vi l4), some (vi l5), z6] [] w Q := by
  induction n generalizing l5 z6 h w with
  | zero => cases e
  | succ n ih =>
    rcases lp_succ e with ⟨s1, e1, e2⟩ | e1
    · exact t274_b239 hd rl3 rl4 rl5 A e1 (fun s_0 s_1 q w1 y6 rl5 A1 => by cases q; exact ih rl5 A1 e2) (fun x_0 q => by cases q)
    · exact t274_b239 hd rl3 rl4 rl5 A e1 (fun s_0 s_1 q => by cases q) (fun x_0 q => by cases q; exact ke _ rfl)
def c274_j227 (l3 : Int) (h : hS) : Option ((Int × hS) ⊕ (hS)) :=
  (c199 1 l3 4 h).bind (fun v34 =>
  (lp (fun s => c274_b239 l3 v34 s.1 s.2) hF0 (0, h)).bind (fun r43 =>
  some (.inl ((wadd l3 1), r43))))
set_option maxRecDepth 100000 in
theorem t274_j227 {d : Nat} (hd : 127 ≤ d) {l3 : Int} {l1 : Int} {z2 : Option hO} {z4 : Option hO} {z5 : Option hO} {z6 : Option hO} {h : hS} {w : mmW} {o : (Int × hS) ⊕ (hS)} {Q : mmO → Prop} (rl3 : rg l3) (A : Abs h w) (e : c274_j227 l3 h = some o) (kb : ∀ (s_0 : Int) (s_1 : hS), o = .inl (s_0, s_1) → ∀ w', ∀ (y4 y5 y6 : Option hO), rg s_0 → Abs s_1 w' → hG d 274 194 [some (vr 395), some (vi l1), z2, some (vi s_0), y4, y5, y6] [] w' Q) (ke : ∀ (x_0 : hS), o = .inr (x_0) → ∀ w', ∀ (y3 y4 y5 y6 : Option hO), Abs x_0 w' → hG d 274 319 [some (vr 395), some (vi l1), z2, y3, y4, y5, y6] [] w' Q) : hG d 274 227 [some (vr 395), some (vi l1), z2, some (vi l3), z4, z5, z6] [] w Q := by
  unfold c274_j227 at e
  refine hg_run 4 (pc' := 231) (ls' := [some (vr 395), some (vi l1), z2, some (vi l3), z4, z5, z6]) (st' := [vI 4, vI l3, vI 1, vR 395]) rfl ?_
  obtain ⟨v34, e34, e⟩ := ob e
  refine hg_cIp (as := [vR 395, vI 1, vI l3, vI 4]) (st' := []) rfl (fun _ _ _ _ => rfl) rfl rfl (Nat.le_of_ble_eq_true rfl) (Nat.le_of_ble_eq_true rfl) (recvV A (a := 13) (Abs_ks A (i := 23) rfl).1) (t199 (by omega) A (rgn 1 rfl) rl3 (rgn 4 rfl) e34) (fun r34 => ?_)
  refine hg_run 3 (pc' := 239) (ls' := [some (vr 395), some (vi l1), z2, some (vi l3), some (vi v34), some (vi 0), z6]) (st' := []) rfl ?_
  obtain ⟨r43, e43, e⟩ := ob e
  refine t274_l239 hd rl3 r34 _ (rgn 0 rfl) A e43 ?_
  intro x43_0 qq43 w43 z43_5 z43_6 A43
  subst qq43
  refine hg_run 2 (pc' := 194) (ls' := [some (vr 395), some (vi l1), z2, some (vi (wadd l3 1)), some (vi v34), z43_5, z43_6]) (st' := []) rfl ?_
  cases e
  exact kb (wadd l3 1) r43 rfl _ _ _ _ (rg_add _ _) A43
def c274_b194 (l3 : Int) (h : hS) : Option ((Int × hS) ⊕ (hS)) :=
  (c198 1 h).bind (fun v30 =>
  if v30 ≤ l3 then
  some (.inr (h))
  else
  (c199 1 l3 3 h).bind (fun v32 =>
  if v32 = 1 then
  (c201 1 l3 2 (wadd (hI h 395 27) 1) h).bind (fun h44 =>
  c274_j227 l3 h44)
  else
  c274_j227 l3 h))
set_option maxRecDepth 100000 in
theorem t274_b194 {d : Nat} (hd : 127 ≤ d) {l3 : Int} {l1 : Int} {z2 : Option hO} {z4 : Option hO} {z5 : Option hO} {z6 : Option hO} {h : hS} {w : mmW} {o : (Int × hS) ⊕ (hS)} {Q : mmO → Prop} (rl3 : rg l3) (A : Abs h w) (e : c274_b194 l3 h = some o) (kb : ∀ (s_0 : Int) (s_1 : hS), o = .inl (s_0, s_1) → ∀ w', ∀ (y4 y5 y6 : Option hO), rg s_0 → Abs s_1 w' → hG d 274 194 [some (vr 395), some (vi l1), z2, some (vi s_0), y4, y5, y6] [] w' Q) (ke : ∀ (x_0 : hS), o = .inr (x_0) → ∀ w', ∀ (y3 y4 y5 y6 : Option hO), Abs x_0 w' → hG d 274 319 [some (vr 395), some (vi l1), z2, y3, y4, y5, y6] [] w' Q) : hG d 274 194 [some (vr 395), some (vi l1), z2, some (vi l3), z4, z5, z6] [] w Q := by
  unfold c274_b194 at e
  refine hg_run 3 (pc' := 197) (ls' := [some (vr 395), some (vi l1), z2, some (vi l3), z4, z5, z6]) (st' := [vI 1, vR 395, vI l3]) rfl ?_
  obtain ⟨v30, e30, e⟩ := ob e
  refine hg_cIp (as := [vR 395, vI 1]) (st' := [vI l3]) rfl (fun _ _ _ _ => rfl) rfl rfl (Nat.le_of_ble_eq_true rfl) (Nat.le_of_ble_eq_true rfl) (recvV A (a := 13) (Abs_ks A (i := 23) rfl).1) (t198 (by omega) A (rgn 1 rfl) e30) (fun r30 => ?_)
  rcases oi e with ⟨q31, e⟩ | ⟨q31, e⟩
  · refine hg_icT (tgt := 319) rfl (by decide) rl3 r30 q31 ?_
    cases e
    exact ke h rfl _ _ _ _ _  A
  · refine hg_icF (tgt := 319) rfl (by decide) rl3 r30 q31 ?_
    refine hg_run 4 (pc' := 207) (ls' := [some (vr 395), some (vi l1), z2, some (vi l3), z4, z5, z6]) (st' := [vI 3, vI l3, vI 1, vR 395]) rfl ?_
    obtain ⟨v32, e32, e⟩ := ob e
    refine hg_cIp (as := [vR 395, vI 1, vI l3, vI 3]) (st' := []) rfl (fun _ _ _ _ => rfl) rfl rfl (Nat.le_of_ble_eq_true rfl) (Nat.le_of_ble_eq_true rfl) (recvV A (a := 13) (Abs_ks A (i := 23) rfl).1) (t199 (by omega) A (rgn 1 rfl) rl3 (rgn 3 rfl) e32) (fun r32 => ?_)
    refine hg_run 1 (pc' := 211) (ls' := [some (vr 395), some (vi l1), z2, some (vi l3), z4, z5, z6]) (st' := [vI 1, vI v32]) rfl ?_
    rcases oi e with ⟨q33, e⟩ | ⟨q33, e⟩
    · refine hg_icF (tgt := 227) rfl (by decide) r32 (rgn 1 rfl) (show ¬ ¬ (v32 = 1) from fun f => f q33) ?_
      refine hg_run 5 (pc' := 219) (ls' := [some (vr 395), some (vi l1), z2, some (vi l3), z4, z5, z6]) (st' := [vR 395, vI 2, vI l3, vI 1, vR 395]) rfl ?_
      refine gs_395_27 rfl A ?_
      refine hg_run 2 (pc' := 224) (ls' := [some (vr 395), some (vi l1), z2, some (vi l3), z4, z5, z6]) (st' := [vI (wadd (hI h 395 27) 1), vI 2, vI l3, vI 1, vR 395]) rfl ?_
      obtain ⟨h44, e44, e⟩ := ob e
      refine hg_cV (as := [vR 395, vI 1, vI l3, vI 2, vI (wadd (hI h 395 27) 1)]) (st' := []) rfl (fun _ _ _ _ => rfl) rfl rfl (Nat.le_of_ble_eq_true rfl) (Nat.le_of_ble_eq_true rfl) (recvV A (a := 13) (Abs_ks A (i := 23) rfl).1) (t201 (by omega) A (rgn 1 rfl) rl3 (rgn 2 rfl) (rg_add _ _) e44) (fun w44 A44 => ?_)
      exact t274_j227 hd rl3 A44 e kb ke
    · refine hg_icT (tgt := 227) rfl (by decide) r32 (rgn 1 rfl) (show ¬ (v32 = 1) from q33) ?_
      exact t274_j227 hd rl3 A e kb ke
set_option maxRecDepth 100000 in
theorem t274_l194 {d : Nat} (hd : 127 ≤ d)  {l1 : Int} {z2 : Option hO} {Q : mmO → Prop}  (n : Nat) {l3 : Int} {z4 z5 z6 : Option hO} {h : hS} {w : mmW} {r : hS} (rl3 : rg l3) (A : Abs h w) (e : lp (fun s => c274_b194  s.1 s.2) n (l3, h) = some r) (ke : ∀ (x_0 : hS), r = (x_0) → ∀ w', ∀ (y3 y4 y5 y6 : Option hO), Abs x_0 w' → hG d 274 319 [some (vr 395), some (vi l1), z2, y3, y4, y5, y6] [] w' Q) : hG d 274 194 [some (vr 395), some (vi l1), z2, some (vi l3), z4, z5, z6] [] w Q := by
  induction n generalizing l3 z4 z5 z6 h w with
  | zero => cases e
  | succ n ih =>
    rcases lp_succ e with ⟨s1, e1, e2⟩ | e1
    · exact t274_b194 hd rl3 A e1 (fun s_0 s_1 q w1 y4 y5 y6 rl3 A1 => by cases q; exact ih rl3 A1 e2) (fun x_0 q => by cases q)
    · exact t274_b194 hd rl3 A e1 (fun s_0 s_1 q => by cases q) (fun x_0 q => by cases q; exact ke _ rfl)
def c274 (l1 : Int) (h : hS) : Option (Int × hS) :=
  (c226 0 1 h).bind (fun h1 =>
  (lp (fun s => c274_b8  s.1 s.2) hF0 (0, h1)).bind (fun r10 =>
  (aIs r10 401 6 l1).bind (fun v11 =>
  (lp (fun s => c274_b82  s.1 s.2.1 s.2.2) hF0 (0, v11, r10)).bind (fun r16 => xs r16 (fun x16 =>
  (c282  x16).bind (fun v17 =>
  if v17.1 = 0 then
  some (0, v17.2)
  else
  (lp (fun s => c274_b122  s.1 s.2) hF0 (0, v17.2)).bind (fun r29 =>
  (lp (fun s => c274_b194  s.1 s.2) hF0 (0, r29)).bind (fun r45 =>
  (c283 l1 r45).bind (fun v46 =>
  (kB v46.1).bind (fun u47 =>
  some (v46.1, v46.2))))))) (fun o16 => some o16)))))
set_option maxRecDepth 100000 in
theorem t274 {d : Nat} (hd : 128 ≤ d) {l1 : Int} {h : hS} {w : mmW} {o : Int × hS} (A : Abs h w) (rl1 : rg l1) (e : c274 l1 h = some o) : hEv d 274 [vR 395, vI l1] w (qI o) := by
  obtain ⟨d, rfl⟩ : ∃ d1, d = d1 + 1 := ⟨d - 1, by omega⟩
  have hd : 127 ≤ d := by omega
  refine hEv_start (args := [vr 395, vi l1]) (nl := 7) rfl (Nat.le_of_ble_eq_true rfl) ?_
  show hG d 274 0 [some (vr 395), some (vi l1), none, none, none, none, none] [] w _
  have kr : ∀ (v1 : Int) (h1 : hS), o = (v1, h1) → ∀ w', rg v1 → Abs h1 w' → qI o (some (.int (Int32.ofInt v1)), w') := fun v1 h1 q w' r A' => by cases q; exact ⟨rfl, r, A'⟩
  unfold c274 at e
  refine hg_run 3 (pc' := 3) (ls' := [some (vr 395), some (vi l1), none, none, none, none, none]) (st' := [vI 1, vI 0, vR 395]) rfl ?_
  obtain ⟨h1, e1, e⟩ := ob e
  refine hg_cV (as := [vR 395, vI 0, vI 1]) (st' := []) rfl (fun _ _ _ _ => rfl) rfl rfl (Nat.le_of_ble_eq_true rfl) (Nat.le_of_ble_eq_true rfl) (recvV A (a := 13) (Abs_ks A (i := 23) rfl).1) (t226 (by omega) A (rgn 0 rfl) (rgn 1 rfl) e1) (fun w1 A1 => ?_)
  refine hg_run 2 (pc' := 8) (ls' := [some (vr 395), some (vi l1), some (vi 0), none, none, none, none]) (st' := []) rfl ?_
  obtain ⟨r10, e10, e⟩ := ob e
  refine t274_l8 hd  _ (rgn 0 rfl) A1 e10 ?_
  intro x10_0 qq10 w10 z10_2 z10_3 A10
  subst qq10
  refine hg_run 3 (pc' := 76) (ls' := [some (vr 395), some (vi l1), some (vi 0), z10_3, none, none, none]) (st' := [vR 395]) rfl ?_
  refine gs_395_31 rfl A10 ?_
  refine hg_run 1 (pc' := 80) (ls' := [some (vr 395), some (vi l1), some (vi 0), z10_3, none, none, none]) (st' := [vI l1, vR 401]) rfl ?_
  obtain ⟨v11, e11, e⟩ := ob e
  refine hg_aIs 0 rfl (fun _ _ _ _ => rfl) A10 (Abs_ks A10 (i := 29) rfl) rfl (by decide) e11 (fun r11 => ?_)
  refine hg_run 1 (pc' := 82) (ls' := [some (vr 395), some (vi l1), some (vi 0), some (vi v11), none, none, none]) (st' := []) rfl ?_
  obtain ⟨r16, e16, e⟩ := ob e
  refine t274_l82 hd  _ (rgn 0 rfl) r11 A10 e16 ?_ ?_
  · intro x16_0 qq16 w16 z16_2 z16_3 A16
    subst qq16
    have e := xs_l e
    refine hg_run 1 (pc' := 112) (ls' := [some (vr 395), some (vi l1), z16_2, z16_3, none, none, none]) (st' := [vR 395]) rfl ?_
    obtain ⟨v17, e17, e⟩ := ob e
    refine hg_cI (as := [vR 395]) (st' := []) rfl (fun _ _ _ _ => rfl) rfl rfl (Nat.le_of_ble_eq_true rfl) (Nat.le_of_ble_eq_true rfl) (recvV A16 (a := 13) (Abs_ks A16 (i := 23) rfl).1) (t282 (by omega) A16  e17) (fun w17 r17 A17 => ?_)
    rcases oi e with ⟨q18, e⟩ | ⟨q18, e⟩
    · refine hg_ifF (tgt := 120) rfl (by decide) r17 (show ¬ ¬ (v17.1 = 0) from fun f => f q18) ?_
      refine hg_run 1 (pc' := 119) (ls' := [some (vr 395), some (vi l1), z16_2, z16_3, none, none, none]) (st' := [vI 0]) rfl ?_
      cases e
      exact hg_retI rfl (by decide) (fit_B (.inl rfl)) (kr _ _ rfl _ (rgn 0 rfl) A17)
    · refine hg_ifT (tgt := 120) rfl (by decide) r17 (show ¬ (v17.1 = 0) from q18) ?_
      refine hg_run 2 (pc' := 122) (ls' := [some (vr 395), some (vi l1), z16_2, some (vi 0), none, none, none]) (st' := []) rfl ?_
      obtain ⟨r29, e29, e⟩ := ob e
      refine t274_l122 hd  _ (rgn 0 rfl) A17 e29 ?_
      intro x29_0 qq29 w29 z29_3 z29_4 A29
      subst qq29
      refine hg_run 2 (pc' := 194) (ls' := [some (vr 395), some (vi l1), z16_2, some (vi 0), z29_4, none, none]) (st' := []) rfl ?_
      obtain ⟨r45, e45, e⟩ := ob e
      refine t274_l194 hd  _ (rgn 0 rfl) A29 e45 ?_
      intro x45_0 qq45 w45 z45_3 z45_4 z45_5 z45_6 A45
      subst qq45
      refine hg_run 2 (pc' := 321) (ls' := [some (vr 395), some (vi l1), z16_2, z45_3, z45_4, z45_5, z45_6]) (st' := [vI l1, vR 395]) rfl ?_
      obtain ⟨v46, e46, e⟩ := ob e
      refine hg_cI (as := [vR 395, vI l1]) (st' := []) rfl (fun _ _ _ _ => rfl) rfl rfl (Nat.le_of_ble_eq_true rfl) (Nat.le_of_ble_eq_true rfl) (recvV A45 (a := 13) (Abs_ks A45 (i := 23) rfl).1) (t283 (by omega) A45 rl1 e46) (fun w46 r46 A46 => ?_)
      obtain ⟨u47, e47, e⟩ := ob e
      cases e
      exact hg_retI rfl (by decide) (fit_B (kB_e e47)) (kr _ _ rfl _ r46 A46)
  · intro v16 h16 qq16 w16 r16 A16
    subst qq16
    have e := xs_r e
    cases e
    exact kr _ _ rfl w16 r16 A16
def c273_j46 (s0 : Int) (l2 : Int) : Option ((Int × Int) ⊕ (Int)) :=
  some (.inl (s0, (wadd l2 1)))
theorem t273_j46 {d : Nat} (hd : 128 ≤ d) {s0 : Int} {l2 : Int} {z1 : Option hO} {h : hS} {w : mmW} {o : (Int × Int) ⊕ (Int)} {Q : mmO → Prop} (rs0 : rg s0) (rl2 : rg l2) (A : Abs h w) (e : c273_j46 s0 l2 = some o) (kb : ∀ (s_0 : Int) (s_1 : Int), o = .inl (s_0, s_1) → rg s_0 → rg s_1 → hG d 273 13 [some (vr 395), some (vi s_0), some (vi s_1)] [] w Q) (ke : ∀ (x_0 : Int), o = .inr (x_0) → ∀ (y2 : Option hO), rg x_0 → hG d 273 53 [some (vr 395), some (vi x_0), y2] [] w Q) : hG d 273 46 [some (vr 395), z1, some (vi l2)] [vI s0] w Q := by
  unfold c273_j46 at e
  refine hg_run 3 (pc' := 13) (ls' := [some (vr 395), some (vi s0), some (vi (wadd l2 1))]) (st' := []) rfl ?_
  cases e
  exact kb s0 (wadd l2 1) rfl rs0 (rg_add _ _)
def c273_j41 (l2 : Int) : Option ((Int × Int) ⊕ (Int)) :=
  c273_j46 1 l2
theorem t273_j41 {d : Nat} (hd : 128 ≤ d) {l2 : Int} {z1 : Option hO} {h : hS} {w : mmW} {o : (Int × Int) ⊕ (Int)} {Q : mmO → Prop} (rl2 : rg l2) (A : Abs h w) (e : c273_j41 l2 = some o) (kb : ∀ (s_0 : Int) (s_1 : Int), o = .inl (s_0, s_1) → rg s_0 → rg s_1 → hG d 273 13 [some (vr 395), some (vi s_0), some (vi s_1)] [] w Q) (ke : ∀ (x_0 : Int), o = .inr (x_0) → ∀ (y2 : Option hO), rg x_0 → hG d 273 53 [some (vr 395), some (vi x_0), y2] [] w Q) : hG d 273 41 [some (vr 395), z1, some (vi l2)] [] w Q := by
  unfold c273_j41 at e
  refine hg_run 2 (pc' := 46) (ls' := [some (vr 395), z1, some (vi l2)]) (st' := [vI 1]) rfl ?_
  exact t273_j46 hd (rgn 1 rfl) rl2 A e kb ke
def c273_j45 (l2 : Int) : Option ((Int × Int) ⊕ (Int)) :=
  c273_j46 0 l2
theorem t273_j45 {d : Nat} (hd : 128 ≤ d) {l2 : Int} {z1 : Option hO} {h : hS} {w : mmW} {o : (Int × Int) ⊕ (Int)} {Q : mmO → Prop} (rl2 : rg l2) (A : Abs h w) (e : c273_j45 l2 = some o) (kb : ∀ (s_0 : Int) (s_1 : Int), o = .inl (s_0, s_1) → rg s_0 → rg s_1 → hG d 273 13 [some (vr 395), some (vi s_0), some (vi s_1)] [] w Q) (ke : ∀ (x_0 : Int), o = .inr (x_0) → ∀ (y2 : Option hO), rg x_0 → hG d 273 53 [some (vr 395), some (vi x_0), y2] [] w Q) : hG d 273 45 [some (vr 395), z1, some (vi l2)] [] w Q := by
  unfold c273_j45 at e
  refine hg_run 1 (pc' := 46) (ls' := [some (vr 395), z1, some (vi l2)]) (st' := [vI 0]) rfl ?_
  exact t273_j46 hd (rgn 0 rfl) rl2 A e kb ke
def c273_b13 (h : hS) (l1 : Int) (l2 : Int) : Option ((Int × Int) ⊕ (Int)) :=
  if 10 ≤ l2 then
  some (.inr (l1))
  else
  if l1 = 0 then
  (aIs h 423 10 l2).bind (fun v4 =>
  if v4 = 0 then
  c273_j45 l2
  else
  (aIs h 425 10 l2).bind (fun v6 =>
  if v6 = 0 then
  c273_j45 l2
  else
  c273_j41 l2))
  else
  c273_j41 l2
theorem t273_b13 {d : Nat} (hd : 128 ≤ d) {l1 : Int} {l2 : Int}  {h : hS} {w : mmW} {o : (Int × Int) ⊕ (Int)} {Q : mmO → Prop} (rl1 : rg l1) (rl2 : rg l2) (A : Abs h w) (e : c273_b13 h l1 l2 = some o) (kb : ∀ (s_0 : Int) (s_1 : Int), o = .inl (s_0, s_1) → rg s_0 → rg s_1 → hG d 273 13 [some (vr 395), some (vi s_0), some (vi s_1)] [] w Q) (ke : ∀ (x_0 : Int), o = .inr (x_0) → ∀ (y2 : Option hO), rg x_0 → hG d 273 53 [some (vr 395), some (vi x_0), y2] [] w Q) : hG d 273 13 [some (vr 395), some (vi l1), some (vi l2)] [] w Q := by
  unfold c273_b13 at e
  refine hg_run 2 (pc' := 16) (ls' := [some (vr 395), some (vi l1), some (vi l2)]) (st' := [vI 10, vI l2]) rfl ?_
  rcases oi e with ⟨q2, e⟩ | ⟨q2, e⟩
  · refine hg_icT (tgt := 53) rfl (by decide) rl2 (rgn 10 rfl) q2 ?_
    cases e
    exact ke l1 rfl _ rl1
  · refine hg_icF (tgt := 53) rfl (by decide) rl2 (rgn 10 rfl) q2 ?_
    refine hg_run 1 (pc' := 20) (ls' := [some (vr 395), some (vi l1), some (vi l2)]) (st' := [vI l1]) rfl ?_
    rcases oi e with ⟨q3, e⟩ | ⟨q3, e⟩
    · refine hg_ifF (tgt := 41) rfl (by decide) rl1 (show ¬ ¬ (l1 = 0) from fun f => f q3) ?_
      refine hg_run 1 (pc' := 24) (ls' := [some (vr 395), some (vi l1), some (vi l2)]) (st' := [vR 395]) rfl ?_
      refine gs_395_67 rfl A ?_
      refine hg_run 1 (pc' := 28) (ls' := [some (vr 395), some (vi l1), some (vi l2)]) (st' := [vI l2, vR 423]) rfl ?_
      obtain ⟨v4, e4, e⟩ := ob e
      refine hg_aIs 1 rfl (fun _ _ _ _ => rfl) A (Abs_ks A (i := 51) rfl) rfl (by decide) e4 (fun r4 => ?_)
      rcases oi e with ⟨q5, e⟩ | ⟨q5, e⟩
      · refine hg_ifT (tgt := 45) rfl (by decide) r4 q5 ?_
        exact t273_j45 hd rl2 A e kb ke
      · refine hg_ifF (tgt := 45) rfl (by decide) r4 q5 ?_
        refine hg_run 1 (pc' := 33) (ls' := [some (vr 395), some (vi l1), some (vi l2)]) (st' := [vR 395]) rfl ?_
        refine gs_395_69 rfl A ?_
        refine hg_run 1 (pc' := 37) (ls' := [some (vr 395), some (vi l1), some (vi l2)]) (st' := [vI l2, vR 425]) rfl ?_
        obtain ⟨v6, e6, e⟩ := ob e
        refine hg_aIs 1 rfl (fun _ _ _ _ => rfl) A (Abs_ks A (i := 53) rfl) rfl (by decide) e6 (fun r6 => ?_)
        rcases oi e with ⟨q7, e⟩ | ⟨q7, e⟩
        · refine hg_ifT (tgt := 45) rfl (by decide) r6 q7 ?_
          exact t273_j45 hd rl2 A e kb ke
        · refine hg_ifF (tgt := 45) rfl (by decide) r6 q7 ?_
          exact t273_j41 hd rl2 A e kb ke
    · refine hg_ifT (tgt := 41) rfl (by decide) rl1 (show ¬ (l1 = 0) from q3) ?_
      exact t273_j41 hd rl2 A e kb ke
theorem t273_l13 {d : Nat} (hd : 128 ≤ d)   {h : hS} {w : mmW} {Q : mmO → Prop}  (n : Nat) {l1 : Int} {l2 : Int}  {r : Int} (rl1 : rg l1) (rl2 : rg l2) (A : Abs h w) (e : lp (fun s => c273_b13 h s.1 s.2) n (l1, l2) = some r) (ke : ∀ (x_0 : Int), r = (x_0) → ∀ (y2 : Option hO), rg x_0 → hG d 273 53 [some (vr 395), some (vi x_0), y2] [] w Q) : hG d 273 13 [some (vr 395), some (vi l1), some (vi l2)] [] w Q := by
  induction n generalizing l1 l2 with
  | zero => cases e
  | succ n ih =>
    rcases lp_succ e with ⟨s1, e1, e2⟩ | e1
    · exact t273_b13 hd rl1 rl2 A e1 (fun s_0 s_1 q rl1 rl2 => by cases q; exact ih rl1 rl2 e2) (fun x_0 q => by cases q)
    · exact t273_b13 hd rl1 rl2 A e1 (fun s_0 s_1 q => by cases q) (fun x_0 q => by cases q; exact ke _ rfl)
def c273_j111 (h : hS) : Option (hS) :=
  (some (sI h 395 28 (-1))).bind (fun h13 =>
  some h13)
theorem t273_j111 {d : Nat} (hd : 128 ≤ d)  {z1 : Option hO} {z2 : Option hO} {h : hS} {w : mmW} {o : hS} {Q : mmO → Prop}  (A : Abs h w) (e : c273_j111 h = some o) (kr : ∀ h1 : hS, o = h1 → ∀ w', Abs h1 w' → Q (none, w')) : hG d 273 111 [some (vr 395), z1, z2] [] w Q := by
  unfold c273_j111 at e
  refine hg_run 2 (pc' := 113) (ls' := [some (vr 395), z1, z2]) (st' := [vI (-1), vR 395]) rfl ?_
  obtain ⟨h13, e13, e⟩ := ob e
  refine ps_395_28 rfl A (rgn (-1) rfl) e13 (fun w13 A13 => ?_)
  cases e
  exact hg_retV rfl (kr _ rfl _ A13)
def c273_j110 (s1 : Int) (s2 : Int) (h : hS) : Option (hS) :=
  (wIs h 402 6 s1 s2).bind (fun h12 =>
  c273_j111 h12)
theorem t273_j110 {d : Nat} (hd : 128 ≤ d) {s1 : Int} {s2 : Int} {z1 : Option hO} {z2 : Option hO} {h : hS} {w : mmW} {o : hS} {Q : mmO → Prop} (rs1 : rg s1) (rs2 : rg s2) (A : Abs h w) (e : c273_j110 s1 s2 h = some o) (kr : ∀ h1 : hS, o = h1 → ∀ w', Abs h1 w' → Q (none, w')) : hG d 273 110 [some (vr 395), z1, z2] [vI s2, vI s1, vR 402] w Q := by
  unfold c273_j110 at e
  obtain ⟨h12, e12, e⟩ := ob e
  refine hg_wIs rfl A (Abs_ks A (i := 30) rfl) (by decide) rs2 e12 (fun w12 A12 => ?_)
  exact t273_j111 hd  A12 e kr
def c273 (h : hS) : Option (hS) :=
  if (hI h 395 28) = (-1) then
  some h
  else
  (lp (fun s => c273_b13 h s.1 s.2) hF0 (0, 0)).bind (fun r8 =>
  if r8 = 0 then
  (c274 (hI h 395 28) h).bind (fun v10 =>
  if v10.1 = 0 then
  c273_j110 (hI h 395 28) 4 v10.2
  else
  c273_j110 (hI h 395 28) 2 v10.2)
  else
  (some (sI h 395 26 (wadd (hI h 395 26) 1))).bind (fun h14 =>
  if 8 ≤ (hI h14 395 26) then
  (wIs h14 402 6 (hI h 395 28) 3).bind (fun h16 =>
  c273_j111 h16)
  else
  some h14))
theorem t273 {d : Nat} (hd : 129 ≤ d)  {h : hS} {w : mmW} {o : hS} (A : Abs h w)  (e : c273 h = some o) : hEv d 273 [vR 395] w (qV o) := by
  obtain ⟨d, rfl⟩ : ∃ d1, d = d1 + 1 := ⟨d - 1, by omega⟩
  have hd : 128 ≤ d := by omega
  refine hEv_start (args := [vr 395]) (nl := 3) rfl (Nat.le_of_ble_eq_true rfl) ?_
  show hG d 273 0 [some (vr 395), none, none] [] w _
  have kr : ∀ h1 : hS, o = h1 → ∀ w', Abs h1 w' → qV o (none, w') := fun h1 q w' A' => by cases q; exact ⟨rfl, A'⟩
  unfold c273 at e
  refine hg_run 1 (pc' := 1) (ls' := [some (vr 395), none, none]) (st' := [vR 395]) rfl ?_
  refine gs_395_28 rfl A ?_
  refine hg_run 1 (pc' := 5) (ls' := [some (vr 395), none, none]) (st' := [vI (-1), vI (hI h 395 28)]) rfl ?_
  rcases oi e with ⟨q1, e⟩ | ⟨q1, e⟩
  · refine hg_icF (tgt := 9) rfl (by decide) (Abs_rg A 395 28) (rgn (-1) rfl) (show ¬ ¬ ((hI h 395 28) = (-1)) from fun f => f q1) ?_
    cases e
    exact hg_retV rfl (kr _ rfl _ A)
  · refine hg_icT (tgt := 9) rfl (by decide) (Abs_rg A 395 28) (rgn (-1) rfl) (show ¬ ((hI h 395 28) = (-1)) from q1) ?_
    refine hg_run 4 (pc' := 13) (ls' := [some (vr 395), some (vi 0), some (vi 0)]) (st' := []) rfl ?_
    obtain ⟨r8, e8, e⟩ := ob e
    refine t273_l13 hd  _ (rgn 0 rfl) (rgn 0 rfl) A e8 ?_
    intro x8_0 qq8 z8_2 q8_1
    subst qq8
    refine hg_run 1 (pc' := 54) (ls' := [some (vr 395), some (vi r8), z8_2]) (st' := [vR 395]) rfl ?_
    refine gs_395_28 rfl A ?_
    refine hg_run 2 (pc' := 59) (ls' := [some (vr 395), some (vi r8), some (vi (hI h 395 28))]) (st' := [vI r8]) rfl ?_
    rcases oi e with ⟨q9, e⟩ | ⟨q9, e⟩
    · refine hg_ifT (tgt := 92) rfl (by decide) q8_1 q9 ?_
      refine hg_run 1 (pc' := 93) (ls' := [some (vr 395), some (vi r8), some (vi (hI h 395 28))]) (st' := [vR 395]) rfl ?_
      refine gs_395_32 rfl A ?_
      refine hg_run 3 (pc' := 99) (ls' := [some (vr 395), some (vi r8), some (vi (hI h 395 28))]) (st' := [vI (hI h 395 28), vR 395, vI (hI h 395 28), vR 402]) rfl ?_
      obtain ⟨v10, e10, e⟩ := ob e
      refine hg_cI (as := [vR 395, vI (hI h 395 28)]) (st' := [vI (hI h 395 28), vR 402]) rfl (fun _ _ _ _ => rfl) rfl rfl (Nat.le_of_ble_eq_true rfl) (Nat.le_of_ble_eq_true rfl) (recvV A (a := 13) (Abs_ks A (i := 23) rfl).1) (t274 (by omega) A (Abs_rg A 395 28) e10) (fun w10 r10 A10 => ?_)
      rcases oi e with ⟨q11, e⟩ | ⟨q11, e⟩
      · refine hg_ifT (tgt := 109) rfl (by decide) r10 q11 ?_
        refine hg_run 1 (pc' := 110) (ls' := [some (vr 395), some (vi r8), some (vi (hI h 395 28))]) (st' := [vI 4, vI (hI h 395 28), vR 402]) rfl ?_
        exact t273_j110 hd (Abs_rg A 395 28) (rgn 4 rfl) A10 e kr
      · refine hg_ifF (tgt := 109) rfl (by decide) r10 q11 ?_
        refine hg_run 2 (pc' := 110) (ls' := [some (vr 395), some (vi r8), some (vi (hI h 395 28))]) (st' := [vI 2, vI (hI h 395 28), vR 402]) rfl ?_
        exact t273_j110 hd (Abs_rg A 395 28) (rgn 2 rfl) A10 e kr
    · refine hg_ifF (tgt := 92) rfl (by decide) q8_1 q9 ?_
      refine hg_run 2 (pc' := 64) (ls' := [some (vr 395), some (vi r8), some (vi (hI h 395 28))]) (st' := [vR 395, vR 395]) rfl ?_
      refine gs_395_26 rfl A ?_
      refine hg_run 2 (pc' := 69) (ls' := [some (vr 395), some (vi r8), some (vi (hI h 395 28))]) (st' := [vI (wadd (hI h 395 26) 1), vR 395]) rfl ?_
      obtain ⟨h14, e14, e⟩ := ob e
      refine ps_395_26 rfl A (rg_add _ _) e14 (fun w14 A14 => ?_)
      refine hg_run 1 (pc' := 73) (ls' := [some (vr 395), some (vi r8), some (vi (hI h 395 28))]) (st' := [vR 395]) rfl ?_
      refine gs_395_26 rfl A14 ?_
      refine hg_run 1 (pc' := 78) (ls' := [some (vr 395), some (vi r8), some (vi (hI h 395 28))]) (st' := [vI 8, vI (hI h14 395 26)]) rfl ?_
      rcases oi e with ⟨q15, e⟩ | ⟨q15, e⟩
      · refine hg_icT (tgt := 82) rfl (by decide) (Abs_rg A14 395 26) (rgn 8 rfl) q15 ?_
        refine hg_run 1 (pc' := 83) (ls' := [some (vr 395), some (vi r8), some (vi (hI h 395 28))]) (st' := [vR 395]) rfl ?_
        refine gs_395_32 rfl A14 ?_
        refine hg_run 2 (pc' := 88) (ls' := [some (vr 395), some (vi r8), some (vi (hI h 395 28))]) (st' := [vI 3, vI (hI h 395 28), vR 402]) rfl ?_
        obtain ⟨h16, e16, e⟩ := ob e
        refine hg_wIs rfl A14 (Abs_ks A14 (i := 30) rfl) (by decide) (rgn 3 rfl) e16 (fun w16 A16 => ?_)
        refine hg_run 1 (pc' := 111) (ls' := [some (vr 395), some (vi r8), some (vi (hI h 395 28))]) (st' := []) rfl ?_
        exact t273_j111 hd  A16 e kr
      · refine hg_icF (tgt := 82) rfl (by decide) (Abs_rg A14 395 26) (rgn 8 rfl) q15 ?_
        cases e
        exact hg_retV rfl (kr _ rfl _ A14)
def c271_j127 (l1 : Int) (h : hS) : Option ((Int × hS) ⊕ (hS)) :=
  some (.inl ((wadd l1 1), h))
set_option maxRecDepth 100000 in
theorem t271_j127 {d : Nat} (hd : 827 ≤ d) {l1 : Int}  {h : hS} {w : mmW} {o : (Int × hS) ⊕ (hS)} {Q : mmO → Prop} (rl1 : rg l1) (A : Abs h w) (e : c271_j127 l1 h = some o) (kb : ∀ (s_0 : Int) (s_1 : hS), o = .inl (s_0, s_1) → ∀ w', rg s_0 → Abs s_1 w' → hG d 271 34 [some (vr 395), some (vi s_0)] [] w' Q) (ke : ∀ (x_0 : hS), o = .inr (x_0) → ∀ w', ∀ (y1 : Option hO), Abs x_0 w' → hG d 271 133 [some (vr 395), y1] [] w' Q) : hG d 271 127 [some (vr 395), some (vi l1)] [] w Q := by
  unfold c271_j127 at e
  refine hg_run 2 (pc' := 34) (ls' := [some (vr 395), some (vi (wadd l1 1))]) (st' := []) rfl ?_
  cases e
  exact kb (wadd l1 1) h rfl _ (rg_add _ _) A
def c271_b34 (l1 : Int) (h : hS) : Option ((Int × hS) ⊕ (hS)) :=
  if 40 ≤ l1 then
  some (.inr (h))
  else
  (wIs h 418 40 l1 3).bind (fun h6 =>
  (c241 l1 h6).bind (fun v7 =>
  if v7 = 0 then
  c271_j127 l1 h6
  else
  (wIs h6 418 40 l1 2).bind (fun h9 =>
  if (hI h9 395 30) = (-1) then
  c271_j127 l1 h9
  else
  (c251  h9).bind (fun h11 =>
  (c252 0 l1 (hI h11 395 30) (hI h11 395 59) h11).bind (fun v12 =>
  if v12.1 = 0 then
  c271_j127 l1 v12.2
  else
  (c266 0 v12.2).bind (fun h14 =>
  (aIs h14 414 252 0).bind (fun v15 =>
  (g254 700 254 [v15, 0, 0] h14).bind (fun v16 =>
  (c268 v16.1 v16.2).bind (fun v17 =>
  (wIs v17.2 418 40 l1 v17.1).bind (fun h18 =>
  c271_j127 l1 h18))))))))))
set_option maxRecDepth 100000 in
theorem t271_b34 {d : Nat} (hd : 827 ≤ d) {l1 : Int}  {h : hS} {w : mmW} {o : (Int × hS) ⊕ (hS)} {Q : mmO → Prop} (rl1 : rg l1) (A : Abs h w) (e : c271_b34 l1 h = some o) (kb : ∀ (s_0 : Int) (s_1 : hS), o = .inl (s_0, s_1) → ∀ w', rg s_0 → Abs s_1 w' → hG d 271 34 [some (vr 395), some (vi s_0)] [] w' Q) (ke : ∀ (x_0 : hS), o = .inr (x_0) → ∀ w', ∀ (y1 : Option hO), Abs x_0 w' → hG d 271 133 [some (vr 395), y1] [] w' Q) : hG d 271 34 [some (vr 395), some (vi l1)] [] w Q := by
  unfold c271_b34 at e
  refine hg_run 2 (pc' := 37) (ls' := [some (vr 395), some (vi l1)]) (st' := [vI 40, vI l1]) rfl ?_
  rcases oi e with ⟨q5, e⟩ | ⟨q5, e⟩
  · refine hg_icT (tgt := 133) rfl (by decide) rl1 (rgn 40 rfl) q5 ?_
    cases e
    exact ke h rfl _ _  A
  · refine hg_icF (tgt := 133) rfl (by decide) rl1 (rgn 40 rfl) q5 ?_
    refine hg_run 1 (pc' := 41) (ls' := [some (vr 395), some (vi l1)]) (st' := [vR 395]) rfl ?_
    refine gs_395_61 rfl A ?_
    refine hg_run 2 (pc' := 46) (ls' := [some (vr 395), some (vi l1)]) (st' := [vI 3, vI l1, vR 418]) rfl ?_
    obtain ⟨h6, e6, e⟩ := ob e
    refine hg_wIs rfl A (Abs_ks A (i := 46) rfl) (by decide) (rgn 3 rfl) e6 (fun w6 A6 => ?_)
    refine hg_run 2 (pc' := 49) (ls' := [some (vr 395), some (vi l1)]) (st' := [vI l1, vR 395]) rfl ?_
    obtain ⟨v7, e7, e⟩ := ob e
    refine hg_cIp (as := [vR 395, vI l1]) (st' := []) rfl (fun _ _ _ _ => rfl) rfl rfl (Nat.le_of_ble_eq_true rfl) (Nat.le_of_ble_eq_true rfl) (recvV A6 (a := 13) (Abs_ks A6 (i := 23) rfl).1) (t241 (by omega) A6 rl1 e7) (fun r7 => ?_)
    rcases oi e with ⟨q8, e⟩ | ⟨q8, e⟩
    · refine hg_ifF (tgt := 58) rfl (by decide) r7 (show ¬ ¬ (v7 = 0) from fun f => f q8) ?_
      refine hg_run 1 (pc' := 127) (ls' := [some (vr 395), some (vi l1)]) (st' := []) rfl ?_
      exact t271_j127 hd rl1 A6 e kb ke
    · refine hg_ifT (tgt := 58) rfl (by decide) r7 (show ¬ (v7 = 0) from q8) ?_
      refine hg_run 1 (pc' := 59) (ls' := [some (vr 395), some (vi l1)]) (st' := [vR 395]) rfl ?_
      refine gs_395_61 rfl A6 ?_
      refine hg_run 2 (pc' := 64) (ls' := [some (vr 395), some (vi l1)]) (st' := [vI 2, vI l1, vR 418]) rfl ?_
      obtain ⟨h9, e9, e⟩ := ob e
      refine hg_wIs rfl A6 (Abs_ks A6 (i := 46) rfl) (by decide) (rgn 2 rfl) e9 (fun w9 A9 => ?_)
      refine hg_run 1 (pc' := 66) (ls' := [some (vr 395), some (vi l1)]) (st' := [vR 395]) rfl ?_
      refine gs_395_30 rfl A9 ?_
      refine hg_run 1 (pc' := 70) (ls' := [some (vr 395), some (vi l1)]) (st' := [vI (-1), vI (hI h9 395 30)]) rfl ?_
      rcases oi e with ⟨q10, e⟩ | ⟨q10, e⟩
      · refine hg_icF (tgt := 76) rfl (by decide) (Abs_rg A9 395 30) (rgn (-1) rfl) (show ¬ ¬ ((hI h9 395 30) = (-1)) from fun f => f q10) ?_
        refine hg_run 1 (pc' := 127) (ls' := [some (vr 395), some (vi l1)]) (st' := []) rfl ?_
        exact t271_j127 hd rl1 A9 e kb ke
      · refine hg_icT (tgt := 76) rfl (by decide) (Abs_rg A9 395 30) (rgn (-1) rfl) (show ¬ ((hI h9 395 30) = (-1)) from q10) ?_
        refine hg_run 1 (pc' := 77) (ls' := [some (vr 395), some (vi l1)]) (st' := [vR 395]) rfl ?_
        obtain ⟨h11, e11, e⟩ := ob e
        refine hg_cV (as := [vR 395]) (st' := []) rfl (fun _ _ _ _ => rfl) rfl rfl (Nat.le_of_ble_eq_true rfl) (Nat.le_of_ble_eq_true rfl) (recvV A9 (a := 13) (Abs_ks A9 (i := 23) rfl).1) (t251 (by omega) A9  e11) (fun w11 A11 => ?_)
        refine hg_run 4 (pc' := 84) (ls' := [some (vr 395), some (vi l1)]) (st' := [vR 395, vI l1, vI 0, vR 395]) rfl ?_
        refine gs_395_30 rfl A11 ?_
        refine hg_run 1 (pc' := 88) (ls' := [some (vr 395), some (vi l1)]) (st' := [vR 395, vI (hI h11 395 30), vI l1, vI 0, vR 395]) rfl ?_
        refine gs_395_59 rfl A11 ?_
        obtain ⟨v12, e12, e⟩ := ob e
        refine hg_cI (as := [vR 395, vI 0, vI l1, vI (hI h11 395 30), vI (hI h11 395 59)]) (st' := []) rfl (fun _ _ _ _ => rfl) rfl rfl (Nat.le_of_ble_eq_true rfl) (Nat.le_of_ble_eq_true rfl) (recvV A11 (a := 13) (Abs_ks A11 (i := 23) rfl).1) (t252 (by omega) A11 (rgn 0 rfl) rl1 (Abs_rg A11 395 30) (Abs_rg A11 395 59) e12) (fun w12 r12 A12 => ?_)
        rcases oi e with ⟨q13, e⟩ | ⟨q13, e⟩
        · refine hg_ifF (tgt := 100) rfl (by decide) r12 (show ¬ ¬ (v12.1 = 0) from fun f => f q13) ?_
          refine hg_run 1 (pc' := 127) (ls' := [some (vr 395), some (vi l1)]) (st' := []) rfl ?_
          exact t271_j127 hd rl1 A12 e kb ke
        · refine hg_ifT (tgt := 100) rfl (by decide) r12 (show ¬ (v12.1 = 0) from q13) ?_
          refine hg_run 2 (pc' := 102) (ls' := [some (vr 395), some (vi l1)]) (st' := [vI 0, vR 395]) rfl ?_
          obtain ⟨h14, e14, e⟩ := ob e
          refine hg_cV (as := [vR 395, vI 0]) (st' := []) rfl (fun _ _ _ _ => rfl) rfl rfl (Nat.le_of_ble_eq_true rfl) (Nat.le_of_ble_eq_true rfl) (recvV A12 (a := 13) (Abs_ks A12 (i := 23) rfl).1) (t266 (by omega) A12 (rgn 0 rfl) e14) (fun w14 A14 => ?_)
          refine hg_run 1 (pc' := 106) (ls' := [some (vr 395), some (vi l1)]) (st' := [vR 395]) rfl ?_
          refine gs_395_61 rfl A14 ?_
          refine hg_run 4 (pc' := 113) (ls' := [some (vr 395), some (vi l1)]) (st' := [vR 395, vR 395, vR 395, vI l1, vR 418]) rfl ?_
          refine gs_395_49 rfl A14 ?_
          refine hg_run 1 (pc' := 117) (ls' := [some (vr 395), some (vi l1)]) (st' := [vI 0, vR 414, vR 395, vR 395, vI l1, vR 418]) rfl ?_
          obtain ⟨v15, e15, e⟩ := ob e
          refine hg_aIs 0 rfl (fun _ _ _ _ => rfl) A14 (Abs_ks A14 (i := 42) rfl) rfl (by decide) e15 (fun r15 => ?_)
          refine hg_run 2 (pc' := 120) (ls' := [some (vr 395), some (vi l1)]) (st' := [vI 0, vI 0, vI v15, vR 395, vR 395, vI l1, vR 418]) rfl ?_
          obtain ⟨v16, e16, e⟩ := ob e
          refine hg_cI (as := [vR 395, vI v15, vI 0, vI 0]) (st' := [vR 395, vI l1, vR 418]) rfl (fun _ _ _ _ => rfl) rfl rfl (Nat.le_of_ble_eq_true rfl) (Nat.le_of_ble_eq_true rfl) (recvV A14 (a := 13) (Abs_ks A14 (i := 23) rfl).1) (u254 700 (by omega) 254 _ _ _ _ A14 (rglc r15 (rglc (rgn 0 rfl) (rglc (rgn 0 rfl) rgl0))) e16) (fun w16 r16 A16 => ?_)
          obtain ⟨v17, e17, e⟩ := ob e
          refine hg_cI (as := [vR 395, vI v16.1]) (st' := [vI l1, vR 418]) rfl (fun _ _ _ _ => rfl) rfl rfl (Nat.le_of_ble_eq_true rfl) (Nat.le_of_ble_eq_true rfl) (recvV A16 (a := 13) (Abs_ks A16 (i := 23) rfl).1) (t268 (by omega) A16 r16 e17) (fun w17 r17 A17 => ?_)
          obtain ⟨h18, e18, e⟩ := ob e
          refine hg_wIs rfl A17 (Abs_ks A17 (i := 46) rfl) (by decide) r17 e18 (fun w18 A18 => ?_)
          exact t271_j127 hd rl1 A18 e kb ke
set_option maxRecDepth 100000 in
theorem t271_l34 {d : Nat} (hd : 827 ≤ d)   {Q : mmO → Prop}  (n : Nat) {l1 : Int}  {h : hS} {w : mmW} {r : hS} (rl1 : rg l1) (A : Abs h w) (e : lp (fun s => c271_b34  s.1 s.2) n (l1, h) = some r) (ke : ∀ (x_0 : hS), r = (x_0) → ∀ w', ∀ (y1 : Option hO), Abs x_0 w' → hG d 271 133 [some (vr 395), y1] [] w' Q) : hG d 271 34 [some (vr 395), some (vi l1)] [] w Q := by
  induction n generalizing l1 h w with
  | zero => cases e
  | succ n ih =>
    rcases lp_succ e with ⟨s1, e1, e2⟩ | e1
    · exact t271_b34 hd rl1 A e1 (fun s_0 s_1 q w1 rl1 A1 => by cases q; exact ih rl1 A1 e2) (fun x_0 q => by cases q)
    · exact t271_b34 hd rl1 A e1 (fun s_0 s_1 q => by cases q) (fun x_0 q => by cases q; exact ke _ rfl)
def c271_j155 (l1 : Int) (h : hS) : Option ((Int × hS) ⊕ (hS)) :=
  some (.inl ((wadd l1 1), h))
set_option maxRecDepth 100000 in
theorem t271_j155 {d : Nat} (hd : 827 ≤ d) {l1 : Int}  {h : hS} {w : mmW} {o : (Int × hS) ⊕ (hS)} {Q : mmO → Prop} (rl1 : rg l1) (A : Abs h w) (e : c271_j155 l1 h = some o) (kb : ∀ (s_0 : Int) (s_1 : hS), o = .inl (s_0, s_1) → ∀ w', rg s_0 → Abs s_1 w' → hG d 271 135 [some (vr 395), some (vi s_0)] [] w' Q) (ke : ∀ (x_0 : hS), o = .inr (x_0) → ∀ w', ∀ (y1 : Option hO), Abs x_0 w' → hG d 271 161 [some (vr 395), y1] [] w' Q) : hG d 271 155 [some (vr 395), some (vi l1)] [] w Q := by
  unfold c271_j155 at e
  refine hg_run 2 (pc' := 135) (ls' := [some (vr 395), some (vi (wadd l1 1))]) (st' := []) rfl ?_
  cases e
  exact kb (wadd l1 1) h rfl _ (rg_add _ _) A
def c271_b135 (l1 : Int) (h : hS) : Option ((Int × hS) ⊕ (hS)) :=
  if 10 ≤ l1 then
  some (.inr (h))
  else
  (aIs h 423 10 l1).bind (fun v21 =>
  if v21 = 0 then
  c271_j155 l1 h
  else
  (c272 l1 h).bind (fun h23 =>
  c271_j155 l1 h23))
set_option maxRecDepth 100000 in
theorem t271_b135 {d : Nat} (hd : 827 ≤ d) {l1 : Int}  {h : hS} {w : mmW} {o : (Int × hS) ⊕ (hS)} {Q : mmO → Prop} (rl1 : rg l1) (A : Abs h w) (e : c271_b135 l1 h = some o) (kb : ∀ (s_0 : Int) (s_1 : hS), o = .inl (s_0, s_1) → ∀ w', rg s_0 → Abs s_1 w' → hG d 271 135 [some (vr 395), some (vi s_0)] [] w' Q) (ke : ∀ (x_0 : hS), o = .inr (x_0) → ∀ w', ∀ (y1 : Option hO), Abs x_0 w' → hG d 271 161 [some (vr 395), y1] [] w' Q) : hG d 271 135 [some (vr 395), some (vi l1)] [] w Q := by
  unfold c271_b135 at e
  refine hg_run 2 (pc' := 138) (ls' := [some (vr 395), some (vi l1)]) (st' := [vI 10, vI l1]) rfl ?_
  rcases oi e with ⟨q20, e⟩ | ⟨q20, e⟩
  · refine hg_icT (tgt := 161) rfl (by decide) rl1 (rgn 10 rfl) q20 ?_
    cases e
    exact ke h rfl _ _  A
  · refine hg_icF (tgt := 161) rfl (by decide) rl1 (rgn 10 rfl) q20 ?_
    refine hg_run 1 (pc' := 142) (ls' := [some (vr 395), some (vi l1)]) (st' := [vR 395]) rfl ?_
    refine gs_395_67 rfl A ?_
    refine hg_run 1 (pc' := 146) (ls' := [some (vr 395), some (vi l1)]) (st' := [vI l1, vR 423]) rfl ?_
    obtain ⟨v21, e21, e⟩ := ob e
    refine hg_aIs 1 rfl (fun _ _ _ _ => rfl) A (Abs_ks A (i := 51) rfl) rfl (by decide) e21 (fun r21 => ?_)
    rcases oi e with ⟨q22, e⟩ | ⟨q22, e⟩
    · refine hg_ifT (tgt := 155) rfl (by decide) r21 q22 ?_
      exact t271_j155 hd rl1 A e kb ke
    · refine hg_ifF (tgt := 155) rfl (by decide) r21 q22 ?_
      refine hg_run 2 (pc' := 152) (ls' := [some (vr 395), some (vi l1)]) (st' := [vI l1, vR 395]) rfl ?_
      obtain ⟨h23, e23, e⟩ := ob e
      refine hg_cV (as := [vR 395, vI l1]) (st' := []) rfl (fun _ _ _ _ => rfl) rfl rfl (Nat.le_of_ble_eq_true rfl) (Nat.le_of_ble_eq_true rfl) (recvV A (a := 13) (Abs_ks A (i := 23) rfl).1) (t272 (by omega) A rl1 e23) (fun w23 A23 => ?_)
      exact t271_j155 hd rl1 A23 e kb ke
set_option maxRecDepth 100000 in
theorem t271_l135 {d : Nat} (hd : 827 ≤ d)   {Q : mmO → Prop}  (n : Nat) {l1 : Int}  {h : hS} {w : mmW} {r : hS} (rl1 : rg l1) (A : Abs h w) (e : lp (fun s => c271_b135  s.1 s.2) n (l1, h) = some r) (ke : ∀ (x_0 : hS), r = (x_0) → ∀ w', ∀ (y1 : Option hO), Abs x_0 w' → hG d 271 161 [some (vr 395), y1] [] w' Q) : hG d 271 135 [some (vr 395), some (vi l1)] [] w Q := by
  induction n generalizing l1 h w with
  | zero => cases e
  | succ n ih =>
    rcases lp_succ e with ⟨s1, e1, e2⟩ | e1
    · exact t271_b135 hd rl1 A e1 (fun s_0 s_1 q w1 rl1 A1 => by cases q; exact ih rl1 A1 e2) (fun x_0 q => by cases q)
    · exact t271_b135 hd rl1 A e1 (fun s_0 s_1 q => by cases q) (fun x_0 q => by cases q; exact ke _ rfl)
def c271 (h : hS) : Option (Int × hS) :=
  if (hI h 395 59) = 1000 then
  some ((-1), h)
  else
  (some (sI h 395 59 (wadd (hI h 395 59) 1))).bind (fun h2 =>
  (some (sI h2 395 66 0)).bind (fun h3 =>
  (some (sI h3 395 60 1)).bind (fun h4 =>
  (lp (fun s => c271_b34  s.1 s.2) hF0 (0, h4)).bind (fun r19 =>
  (lp (fun s => c271_b135  s.1 s.2) hF0 (0, r19)).bind (fun r24 =>
  (some (sI r24 395 60 0)).bind (fun h25 =>
  (c273  h25).bind (fun h26 =>
  some ((hI h26 395 59), h26))))))))
set_option maxRecDepth 100000 in
theorem t271 {d : Nat} (hd : 828 ≤ d)  {h : hS} {w : mmW} {o : Int × hS} (A : Abs h w)  (e : c271 h = some o) : hEv d 271 [vR 395] w (qI o) := by
  obtain ⟨d, rfl⟩ : ∃ d1, d = d1 + 1 := ⟨d - 1, by omega⟩
  have hd : 827 ≤ d := by omega
  refine hEv_start (args := [vr 395]) (nl := 2) rfl (Nat.le_of_ble_eq_true rfl) ?_
  show hG d 271 0 [some (vr 395), none] [] w _
  have kr : ∀ (v1 : Int) (h1 : hS), o = (v1, h1) → ∀ w', rg v1 → Abs h1 w' → qI o (some (.int (Int32.ofInt v1)), w') := fun v1 h1 q w' r A' => by cases q; exact ⟨rfl, r, A'⟩
  unfold c271 at e
  refine hg_run 1 (pc' := 1) (ls' := [some (vr 395), none]) (st' := [vR 395]) rfl ?_
  refine gs_395_59 rfl A ?_
  refine hg_run 1 (pc' := 7) (ls' := [some (vr 395), none]) (st' := [vI 1000, vI (hI h 395 59)]) rfl ?_
  rcases oi e with ⟨q1, e⟩ | ⟨q1, e⟩
  · refine hg_icF (tgt := 12) rfl (by decide) (Abs_rg A 395 59) (rgn 1000 rfl) (show ¬ ¬ ((hI h 395 59) = 1000) from fun f => f q1) ?_
    refine hg_run 1 (pc' := 11) (ls' := [some (vr 395), none]) (st' := [vI (-1)]) rfl ?_
    cases e
    exact hg_retI rfl (by decide) (fit_I _) (kr _ _ rfl _ (rgn (-1) rfl) A)
  · refine hg_icT (tgt := 12) rfl (by decide) (Abs_rg A 395 59) (rgn 1000 rfl) (show ¬ ((hI h 395 59) = 1000) from q1) ?_
    refine hg_run 2 (pc' := 14) (ls' := [some (vr 395), none]) (st' := [vR 395, vR 395]) rfl ?_
    refine gs_395_59 rfl A ?_
    refine hg_run 2 (pc' := 19) (ls' := [some (vr 395), none]) (st' := [vI (wadd (hI h 395 59) 1), vR 395]) rfl ?_
    obtain ⟨h2, e2, e⟩ := ob e
    refine ps_395_59 rfl A (rg_add _ _) e2 (fun w2 A2 => ?_)
    refine hg_run 2 (pc' := 24) (ls' := [some (vr 395), none]) (st' := [vI 0, vR 395]) rfl ?_
    obtain ⟨h3, e3, e⟩ := ob e
    refine ps_395_66 rfl A2 (rgn 0 rfl) e3 (fun w3 A3 => ?_)
    refine hg_run 2 (pc' := 29) (ls' := [some (vr 395), none]) (st' := [vI 1, vR 395]) rfl ?_
    obtain ⟨h4, e4, e⟩ := ob e
    refine ps_395_60 rfl A3 (rgn 1 rfl) (.inr rfl) e4 (fun w4 A4 => ?_)
    refine hg_run 2 (pc' := 34) (ls' := [some (vr 395), some (vi 0)]) (st' := []) rfl ?_
    obtain ⟨r19, e19, e⟩ := ob e
    refine t271_l34 hd  _ (rgn 0 rfl) A4 e19 ?_
    intro x19_0 qq19 w19 z19_1 A19
    subst qq19
    refine hg_run 2 (pc' := 135) (ls' := [some (vr 395), some (vi 0)]) (st' := []) rfl ?_
    obtain ⟨r24, e24, e⟩ := ob e
    refine t271_l135 hd  _ (rgn 0 rfl) A19 e24 ?_
    intro x24_0 qq24 w24 z24_1 A24
    subst qq24
    refine hg_run 2 (pc' := 163) (ls' := [some (vr 395), z24_1]) (st' := [vI 0, vR 395]) rfl ?_
    obtain ⟨h25, e25, e⟩ := ob e
    refine ps_395_60 rfl A24 (rgn 0 rfl) (.inl rfl) e25 (fun w25 A25 => ?_)
    refine hg_run 1 (pc' := 167) (ls' := [some (vr 395), z24_1]) (st' := [vR 395]) rfl ?_
    obtain ⟨h26, e26, e⟩ := ob e
    refine hg_cV (as := [vR 395]) (st' := []) rfl (fun _ _ _ _ => rfl) rfl rfl (Nat.le_of_ble_eq_true rfl) (Nat.le_of_ble_eq_true rfl) (recvV A25 (a := 13) (Abs_ks A25 (i := 23) rfl).1) (t273 (by omega) A25  e26) (fun w26 A26 => ?_)
    refine hg_run 1 (pc' := 171) (ls' := [some (vr 395), z24_1]) (st' := [vR 395]) rfl ?_
    refine gs_395_59 rfl A26 ?_
    cases e
    exact hg_retI rfl (by decide) (fit_I _) (kr _ _ rfl _ (Abs_rg A26 395 59) A26)
def c291_j21  : Option (Int) :=
  some (-1)
theorem t291_j21 {d : Nat} (hd : 1 ≤ d)  {z1 : Option hO} {h : hS} {w : mmW} {o : Int} {Q : mmO → Prop}  (A : Abs h w) (e : c291_j21  = some o) (kr : ∀ v1 : Int, o = v1 → rg v1 → Q (some (.int (Int32.ofInt v1)), w)) : hG d 291 21 [some (vr 395), z1] [] w Q := by
  unfold c291_j21 at e
  refine hg_run 2 (pc' := 31) (ls' := [some (vr 395), z1]) (st' := [vI (-1)]) rfl ?_
  cases e
  exact hg_retI rfl (by decide) (fit_I _) (kr _ rfl (rgn (-1) rfl))
def c291 (l1 : Int) (h : hS) : Option (Int) :=
  if (hI h 395 59) = 0 then
  c291_j21 
  else
  (c191 l1 0 (wsub (hI h 395 33) 1) h).bind (fun v2 =>
  if v2 = 0 then
  c291_j21 
  else
  (aIs h 418 40 l1).bind (fun v4 =>
  some v4))
theorem t291 {d : Nat} (hd : 2 ≤ d) {l1 : Int} {h : hS} {w : mmW} {o : Int} (A : Abs h w) (rl1 : rg l1) (e : c291 l1 h = some o) : hEv d 291 [vR 395, vI l1] w (qIp o w) := by
  obtain ⟨d, rfl⟩ : ∃ d1, d = d1 + 1 := ⟨d - 1, by omega⟩
  have hd : 1 ≤ d := by omega
  refine hEv_start (args := [vr 395, vi l1]) (nl := 2) rfl (Nat.le_of_ble_eq_true rfl) ?_
  show hG d 291 0 [some (vr 395), some (vi l1)] [] w _
  have kr : ∀ v1 : Int, o = v1 → rg v1 → qIp o w (some (.int (Int32.ofInt v1)), w) := fun v1 q r => by cases q; exact ⟨rfl, r⟩
  unfold c291 at e
  refine hg_run 1 (pc' := 1) (ls' := [some (vr 395), some (vi l1)]) (st' := [vR 395]) rfl ?_
  refine gs_395_59 rfl A ?_
  rcases oi e with ⟨q1, e⟩ | ⟨q1, e⟩
  · refine hg_ifT (tgt := 21) rfl (by decide) (Abs_rg A 395 59) q1 ?_
    exact t291_j21 hd  A e kr
  · refine hg_ifF (tgt := 21) rfl (by decide) (Abs_rg A 395 59) q1 ?_
    refine hg_run 3 (pc' := 10) (ls' := [some (vr 395), some (vi l1)]) (st' := [vR 395, vI 0, vI l1]) rfl ?_
    refine gs_395_33 rfl A ?_
    refine hg_run 2 (pc' := 15) (ls' := [some (vr 395), some (vi l1)]) (st' := [vI (wsub (hI h 395 33) 1), vI 0, vI l1]) rfl ?_
    obtain ⟨v2, e2, e⟩ := ob e
    refine hg_cIp (as := [vI l1, vI 0, vI (wsub (hI h 395 33) 1)]) (st' := []) rfl (fun _ _ _ _ => rfl) rfl rfl (Nat.le_of_ble_eq_true rfl) (Nat.le_of_ble_eq_true rfl) recv0 (t191 (by omega) A rl1 (rgn 0 rfl) (rg_sub _ _) e2) (fun r2 => ?_)
    rcases oi e with ⟨q3, e⟩ | ⟨q3, e⟩
    · refine hg_ifF (tgt := 25) rfl (by decide) r2 (show ¬ ¬ (v2 = 0) from fun f => f q3) ?_
      exact t291_j21 hd  A e kr
    · refine hg_ifT (tgt := 25) rfl (by decide) r2 (show ¬ (v2 = 0) from q3) ?_
      refine hg_run 1 (pc' := 26) (ls' := [some (vr 395), some (vi l1)]) (st' := [vR 395]) rfl ?_
      refine gs_395_61 rfl A ?_
      refine hg_run 1 (pc' := 30) (ls' := [some (vr 395), some (vi l1)]) (st' := [vI l1, vR 418]) rfl ?_
      obtain ⟨v4, e4, e⟩ := ob e
      refine hg_aIs 0 rfl (fun _ _ _ _ => rfl) A (Abs_ks A (i := 46) rfl) rfl (by decide) e4 (fun r4 => ?_)
      cases e
      exact hg_retI rfl (by decide) (fit_I _) (kr _ rfl r4)
def c292 (l1 : Int) (l2 : Int) (h : hS) : Option (Int) :=
  (c191 l1 0 (wsub (hI h 395 66) 1) h).bind (fun v1 =>
  if v1 = 0 then
  some (-1)
  else
  if l2 = 0 then
  (aIs h 419 50 l1).bind (fun v10 =>
  some v10)
  else
  if l2 = 1 then
  (aIs h 420 50 l1).bind (fun v9 =>
  some v9)
  else
  if l2 = 2 then
  (aIs h 421 50 l1).bind (fun v8 =>
  some v8)
  else
  if l2 = 3 then
  (aIs h 422 50 l1).bind (fun v7 =>
  some v7)
  else
  some (-1))
theorem t292 {d : Nat} (hd : 2 ≤ d) {l1 : Int} {l2 : Int} {h : hS} {w : mmW} {o : Int} (A : Abs h w) (rl1 : rg l1) (rl2 : rg l2) (e : c292 l1 l2 h = some o) : hEv d 292 [vR 395, vI l1, vI l2] w (qIp o w) := by
  obtain ⟨d, rfl⟩ : ∃ d1, d = d1 + 1 := ⟨d - 1, by omega⟩
  have hd : 1 ≤ d := by omega
  refine hEv_start (args := [vr 395, vi l1, vi l2]) (nl := 3) rfl (Nat.le_of_ble_eq_true rfl) ?_
  show hG d 292 0 [some (vr 395), some (vi l1), some (vi l2)] [] w _
  have kr : ∀ v1 : Int, o = v1 → rg v1 → qIp o w (some (.int (Int32.ofInt v1)), w) := fun v1 q r => by cases q; exact ⟨rfl, r⟩
  unfold c292 at e
  refine hg_run 3 (pc' := 3) (ls' := [some (vr 395), some (vi l1), some (vi l2)]) (st' := [vR 395, vI 0, vI l1]) rfl ?_
  refine gs_395_66 rfl A ?_
  refine hg_run 2 (pc' := 8) (ls' := [some (vr 395), some (vi l1), some (vi l2)]) (st' := [vI (wsub (hI h 395 66) 1), vI 0, vI l1]) rfl ?_
  obtain ⟨v1, e1, e⟩ := ob e
  refine hg_cIp (as := [vI l1, vI 0, vI (wsub (hI h 395 66) 1)]) (st' := []) rfl (fun _ _ _ _ => rfl) rfl rfl (Nat.le_of_ble_eq_true rfl) (Nat.le_of_ble_eq_true rfl) recv0 (t191 (by omega) A rl1 (rgn 0 rfl) (rg_sub _ _) e1) (fun r1 => ?_)
  rcases oi e with ⟨q2, e⟩ | ⟨q2, e⟩
  · refine hg_ifF (tgt := 16) rfl (by decide) r1 (show ¬ ¬ (v1 = 0) from fun f => f q2) ?_
    refine hg_run 1 (pc' := 15) (ls' := [some (vr 395), some (vi l1), some (vi l2)]) (st' := [vI (-1)]) rfl ?_
    cases e
    exact hg_retI rfl (by decide) (fit_I _) (kr _ rfl (rgn (-1) rfl))
  · refine hg_ifT (tgt := 16) rfl (by decide) r1 (show ¬ (v1 = 0) from q2) ?_
    refine hg_run 1 (pc' := 17) (ls' := [some (vr 395), some (vi l1), some (vi l2)]) (st' := [vI l2]) rfl ?_
    rcases oi e with ⟨q3, e⟩ | ⟨q3, e⟩
    · refine hg_ifF (tgt := 29) rfl (by decide) rl2 (show ¬ ¬ (l2 = 0) from fun f => f q3) ?_
      refine hg_run 1 (pc' := 21) (ls' := [some (vr 395), some (vi l1), some (vi l2)]) (st' := [vR 395]) rfl ?_
      refine gs_395_62 rfl A ?_
      refine hg_run 1 (pc' := 25) (ls' := [some (vr 395), some (vi l1), some (vi l2)]) (st' := [vI l1, vR 419]) rfl ?_
      obtain ⟨v10, e10, e⟩ := ob e
      refine hg_aIs 0 rfl (fun _ _ _ _ => rfl) A (Abs_ks A (i := 47) rfl) rfl (by decide) e10 (fun r10 => ?_)
      refine hg_run 1 (pc' := 72) (ls' := [some (vr 395), some (vi l1), some (vi l2)]) (st' := [vI v10]) rfl ?_
      cases e
      exact hg_retI rfl (by decide) (fit_I _) (kr _ rfl r10)
    · refine hg_ifT (tgt := 29) rfl (by decide) rl2 (show ¬ (l2 = 0) from q3) ?_
      refine hg_run 2 (pc' := 31) (ls' := [some (vr 395), some (vi l1), some (vi l2)]) (st' := [vI 1, vI l2]) rfl ?_
      rcases oi e with ⟨q4, e⟩ | ⟨q4, e⟩
      · refine hg_icF (tgt := 43) rfl (by decide) rl2 (rgn 1 rfl) (show ¬ ¬ (l2 = 1) from fun f => f q4) ?_
        refine hg_run 1 (pc' := 35) (ls' := [some (vr 395), some (vi l1), some (vi l2)]) (st' := [vR 395]) rfl ?_
        refine gs_395_63 rfl A ?_
        refine hg_run 1 (pc' := 39) (ls' := [some (vr 395), some (vi l1), some (vi l2)]) (st' := [vI l1, vR 420]) rfl ?_
        obtain ⟨v9, e9, e⟩ := ob e
        refine hg_aIs 0 rfl (fun _ _ _ _ => rfl) A (Abs_ks A (i := 48) rfl) rfl (by decide) e9 (fun r9 => ?_)
        refine hg_run 1 (pc' := 72) (ls' := [some (vr 395), some (vi l1), some (vi l2)]) (st' := [vI v9]) rfl ?_
        cases e
        exact hg_retI rfl (by decide) (fit_I _) (kr _ rfl r9)
      · refine hg_icT (tgt := 43) rfl (by decide) rl2 (rgn 1 rfl) (show ¬ (l2 = 1) from q4) ?_
        refine hg_run 2 (pc' := 45) (ls' := [some (vr 395), some (vi l1), some (vi l2)]) (st' := [vI 2, vI l2]) rfl ?_
        rcases oi e with ⟨q5, e⟩ | ⟨q5, e⟩
        · refine hg_icF (tgt := 57) rfl (by decide) rl2 (rgn 2 rfl) (show ¬ ¬ (l2 = 2) from fun f => f q5) ?_
          refine hg_run 1 (pc' := 49) (ls' := [some (vr 395), some (vi l1), some (vi l2)]) (st' := [vR 395]) rfl ?_
          refine gs_395_64 rfl A ?_
          refine hg_run 1 (pc' := 53) (ls' := [some (vr 395), some (vi l1), some (vi l2)]) (st' := [vI l1, vR 421]) rfl ?_
          obtain ⟨v8, e8, e⟩ := ob e
          refine hg_aIs 0 rfl (fun _ _ _ _ => rfl) A (Abs_ks A (i := 49) rfl) rfl (by decide) e8 (fun r8 => ?_)
          refine hg_run 1 (pc' := 72) (ls' := [some (vr 395), some (vi l1), some (vi l2)]) (st' := [vI v8]) rfl ?_
          cases e
          exact hg_retI rfl (by decide) (fit_I _) (kr _ rfl r8)
        · refine hg_icT (tgt := 57) rfl (by decide) rl2 (rgn 2 rfl) (show ¬ (l2 = 2) from q5) ?_
          refine hg_run 2 (pc' := 59) (ls' := [some (vr 395), some (vi l1), some (vi l2)]) (st' := [vI 3, vI l2]) rfl ?_
          rcases oi e with ⟨q6, e⟩ | ⟨q6, e⟩
          · refine hg_icF (tgt := 71) rfl (by decide) rl2 (rgn 3 rfl) (show ¬ ¬ (l2 = 3) from fun f => f q6) ?_
            refine hg_run 1 (pc' := 63) (ls' := [some (vr 395), some (vi l1), some (vi l2)]) (st' := [vR 395]) rfl ?_
            refine gs_395_65 rfl A ?_
            refine hg_run 1 (pc' := 67) (ls' := [some (vr 395), some (vi l1), some (vi l2)]) (st' := [vI l1, vR 422]) rfl ?_
            obtain ⟨v7, e7, e⟩ := ob e
            refine hg_aIs 0 rfl (fun _ _ _ _ => rfl) A (Abs_ks A (i := 50) rfl) rfl (by decide) e7 (fun r7 => ?_)
            refine hg_run 1 (pc' := 72) (ls' := [some (vr 395), some (vi l1), some (vi l2)]) (st' := [vI v7]) rfl ?_
            cases e
            exact hg_retI rfl (by decide) (fit_I _) (kr _ rfl r7)
          · refine hg_icT (tgt := 71) rfl (by decide) rl2 (rgn 3 rfl) (show ¬ (l2 = 3) from q6) ?_
            refine hg_run 1 (pc' := 72) (ls' := [some (vr 395), some (vi l1), some (vi l2)]) (st' := [vI (-1)]) rfl ?_
            cases e
            exact hg_retI rfl (by decide) (fit_I _) (kr _ rfl (rgn (-1) rfl))
def c293_b3 (h : hS) (l4 : Int) : Option ((Int) ⊕ (Int)) :=
  if 10 ≤ l4 then
  some (.inr (l4))
  else
  (aIs h 423 10 l4).bind (fun v2 =>
  if v2 = 0 then
  some (.inr (l4))
  else
  some (.inl ((wadd l4 1))))
set_option maxRecDepth 100000 in
theorem t293_b3 {d : Nat} (hd : 4 ≤ d) {l4 : Int} {l1 : Int} {l2 : Int} {l3 : Int} {z5 : Option hO} {h : hS} {w : mmW} {o : (Int) ⊕ (Int)} {Q : mmO → Prop} (rl4 : rg l4) (A : Abs h w) (e : c293_b3 h l4 = some o) (kb : ∀ (s_0 : Int), o = .inl (s_0) → rg s_0 → hG d 293 3 [some (vr 395), some (vi l1), some (vi l2), some (vi l3), some (vi s_0), z5] [] w Q) (ke : ∀ (x_0 : Int), o = .inr (x_0) → rg x_0 → hG d 293 26 [some (vr 395), some (vi l1), some (vi l2), some (vi l3), some (vi x_0), z5] [] w Q) : hG d 293 3 [some (vr 395), some (vi l1), some (vi l2), some (vi l3), some (vi l4), z5] [] w Q := by
  unfold c293_b3 at e
  refine hg_run 2 (pc' := 7) (ls' := [some (vr 395), some (vi l1), some (vi l2), some (vi l3), some (vi l4), z5]) (st' := [vI 10, vI l4]) rfl ?_
  rcases oi e with ⟨q1, e⟩ | ⟨q1, e⟩
  · refine hg_icT (tgt := 26) rfl (by decide) rl4 (rgn 10 rfl) q1 ?_
    cases e
    exact ke l4 rfl rl4
  · refine hg_icF (tgt := 26) rfl (by decide) rl4 (rgn 10 rfl) q1 ?_
    refine hg_run 1 (pc' := 11) (ls' := [some (vr 395), some (vi l1), some (vi l2), some (vi l3), some (vi l4), z5]) (st' := [vR 395]) rfl ?_
    refine gs_395_67 rfl A ?_
    refine hg_run 1 (pc' := 16) (ls' := [some (vr 395), some (vi l1), some (vi l2), some (vi l3), some (vi l4), z5]) (st' := [vI l4, vR 423]) rfl ?_
    obtain ⟨v2, e2, e⟩ := ob e
    refine hg_aIs 1 rfl (fun _ _ _ _ => rfl) A (Abs_ks A (i := 51) rfl) rfl (by decide) e2 (fun r2 => ?_)
    rcases oi e with ⟨q3, e⟩ | ⟨q3, e⟩
    · refine hg_ifT (tgt := 26) rfl (by decide) r2 q3 ?_
      cases e
      exact ke l4 rfl rl4
    · refine hg_ifF (tgt := 26) rfl (by decide) r2 q3 ?_
      refine hg_run 2 (pc' := 3) (ls' := [some (vr 395), some (vi l1), some (vi l2), some (vi l3), some (vi (wadd l4 1)), z5]) (st' := []) rfl ?_
      cases e
      exact kb (wadd l4 1) rfl (rg_add _ _)
set_option maxRecDepth 100000 in
theorem t293_l3 {d : Nat} (hd : 4 ≤ d)  {l1 : Int} {l2 : Int} {l3 : Int} {z5 : Option hO} {h : hS} {w : mmW} {Q : mmO → Prop}  (n : Nat) {l4 : Int}  {r : Int} (rl4 : rg l4) (A : Abs h w) (e : lp (fun s => c293_b3 h s) n (l4) = some r) (ke : ∀ (x_0 : Int), r = (x_0) → rg x_0 → hG d 293 26 [some (vr 395), some (vi l1), some (vi l2), some (vi l3), some (vi x_0), z5] [] w Q) : hG d 293 3 [some (vr 395), some (vi l1), some (vi l2), some (vi l3), some (vi l4), z5] [] w Q := by
  induction n generalizing l4 with
  | zero => cases e
  | succ n ih =>
    rcases lp_succ e with ⟨s1, e1, e2⟩ | e1
    · exact t293_b3 hd rl4 A e1 (fun s_0 q rl4 => by cases q; exact ih rl4 e2) (fun x_0 q => by cases q)
    · exact t293_b3 hd rl4 A e1 (fun s_0 q => by cases q) (fun x_0 q => by cases q; exact ke _ rfl)
def c293_b163 (l4 : Int) (l5 : Int) (h : hS) : Option ((Int × hS) ⊕ (hS)) :=
  if 12 ≤ l5 then
  some (.inr (h))
  else
  (aIs h 414 252 l5).bind (fun v25 =>
  (wIs h 435 120 (wadd (wmul 12 l4) l5) v25).bind (fun h26 =>
  (aIs h26 415 252 l5).bind (fun v27 =>
  (wIs h26 436 120 (wadd (wmul 12 l4) l5) v27).bind (fun h28 =>
  (aIs h28 416 252 l5).bind (fun v29 =>
  (wIs h28 437 120 (wadd (wmul 12 l4) l5) v29).bind (fun h30 =>
  some (.inl ((wadd l5 1), h30))))))))
set_option maxRecDepth 100000 in
theorem t293_b163 {d : Nat} (hd : 4 ≤ d) {l4 : Int} {l5 : Int} {z1 : Option hO} {z2 : Option hO} {z3 : Option hO} {h : hS} {w : mmW} {o : (Int × hS) ⊕ (hS)} {Q : mmO → Prop} (rl4 : rg l4) (rl5 : rg l5) (A : Abs h w) (e : c293_b163 l4 l5 h = some o) (kb : ∀ (s_0 : Int) (s_1 : hS), o = .inl (s_0, s_1) → ∀ w', rg s_0 → Abs s_1 w' → hG d 293 163 [some (vr 395), z1, z2, z3, some (vi l4), some (vi s_0)] [] w' Q) (ke : ∀ (x_0 : hS), o = .inr (x_0) → ∀ w', ∀ (y5 : Option hO), Abs x_0 w' → hG d 293 236 [some (vr 395), z1, z2, z3, some (vi l4), y5] [] w' Q) : hG d 293 163 [some (vr 395), z1, z2, z3, some (vi l4), some (vi l5)] [] w Q := by
  unfold c293_b163 at e
  refine hg_run 2 (pc' := 167) (ls' := [some (vr 395), z1, z2, z3, some (vi l4), some (vi l5)]) (st' := [vI 12, vI l5]) rfl ?_
  rcases oi e with ⟨q24, e⟩ | ⟨q24, e⟩
  · refine hg_icT (tgt := 236) rfl (by decide) rl5 (rgn 12 rfl) q24 ?_
    cases e
    exact ke h rfl _ _  A
  · refine hg_icF (tgt := 236) rfl (by decide) rl5 (rgn 12 rfl) q24 ?_
    refine hg_run 1 (pc' := 171) (ls' := [some (vr 395), z1, z2, z3, some (vi l4), some (vi l5)]) (st' := [vR 395]) rfl ?_
    refine gs_395_79 rfl A ?_
    refine hg_run 6 (pc' := 183) (ls' := [some (vr 395), z1, z2, z3, some (vi l4), some (vi l5)]) (st' := [vR 395, vI (wadd (wmul 12 l4) l5), vR 435]) rfl ?_
    refine gs_395_49 rfl A ?_
    refine hg_run 1 (pc' := 188) (ls' := [some (vr 395), z1, z2, z3, some (vi l4), some (vi l5)]) (st' := [vI l5, vR 414, vI (wadd (wmul 12 l4) l5), vR 435]) rfl ?_
    obtain ⟨v25, e25, e⟩ := ob e
    refine hg_aIs 0 rfl (fun _ _ _ _ => rfl) A (Abs_ks A (i := 42) rfl) rfl (by decide) e25 (fun r25 => ?_)
    obtain ⟨h26, e26, e⟩ := ob e
    refine hg_wIs rfl A (Abs_ks A (i := 63) rfl) (by decide) r25 e26 (fun w26 A26 => ?_)
    refine hg_run 1 (pc' := 191) (ls' := [some (vr 395), z1, z2, z3, some (vi l4), some (vi l5)]) (st' := [vR 395]) rfl ?_
    refine gs_395_80 rfl A26 ?_
    refine hg_run 6 (pc' := 203) (ls' := [some (vr 395), z1, z2, z3, some (vi l4), some (vi l5)]) (st' := [vR 395, vI (wadd (wmul 12 l4) l5), vR 436]) rfl ?_
    refine gs_395_50 rfl A26 ?_
    refine hg_run 1 (pc' := 208) (ls' := [some (vr 395), z1, z2, z3, some (vi l4), some (vi l5)]) (st' := [vI l5, vR 415, vI (wadd (wmul 12 l4) l5), vR 436]) rfl ?_
    obtain ⟨v27, e27, e⟩ := ob e
    refine hg_aIs 0 rfl (fun _ _ _ _ => rfl) A26 (Abs_ks A26 (i := 43) rfl) rfl (by decide) e27 (fun r27 => ?_)
    obtain ⟨h28, e28, e⟩ := ob e
    refine hg_wIs rfl A26 (Abs_ks A26 (i := 64) rfl) (by decide) r27 e28 (fun w28 A28 => ?_)
    refine hg_run 1 (pc' := 211) (ls' := [some (vr 395), z1, z2, z3, some (vi l4), some (vi l5)]) (st' := [vR 395]) rfl ?_
    refine gs_395_81 rfl A28 ?_
    refine hg_run 6 (pc' := 223) (ls' := [some (vr 395), z1, z2, z3, some (vi l4), some (vi l5)]) (st' := [vR 395, vI (wadd (wmul 12 l4) l5), vR 437]) rfl ?_
    refine gs_395_51 rfl A28 ?_
    refine hg_run 1 (pc' := 228) (ls' := [some (vr 395), z1, z2, z3, some (vi l4), some (vi l5)]) (st' := [vI l5, vR 416, vI (wadd (wmul 12 l4) l5), vR 437]) rfl ?_
    obtain ⟨v29, e29, e⟩ := ob e
    refine hg_aIs 0 rfl (fun _ _ _ _ => rfl) A28 (Abs_ks A28 (i := 44) rfl) rfl (by decide) e29 (fun r29 => ?_)
    obtain ⟨h30, e30, e⟩ := ob e
    refine hg_wIs rfl A28 (Abs_ks A28 (i := 65) rfl) (by decide) r29 e30 (fun w30 A30 => ?_)
    refine hg_run 2 (pc' := 163) (ls' := [some (vr 395), z1, z2, z3, some (vi l4), some (vi (wadd l5 1))]) (st' := []) rfl ?_
    cases e
    exact kb (wadd l5 1) h30 rfl _ (rg_add _ _) A30
set_option maxRecDepth 100000 in
theorem t293_l163 {d : Nat} (hd : 4 ≤ d) {l4 : Int} {z1 : Option hO} {z2 : Option hO} {z3 : Option hO} {Q : mmO → Prop} (rl4 : rg l4) (n : Nat) {l5 : Int}  {h : hS} {w : mmW} {r : hS} (rl5 : rg l5) (A : Abs h w) (e : lp (fun s => c293_b163 l4 s.1 s.2) n (l5, h) = some r) (ke : ∀ (x_0 : hS), r = (x_0) → ∀ w', ∀ (y5 : Option hO), Abs x_0 w' → hG d 293 236 [some (vr 395), z1, z2, z3, some (vi l4), y5] [] w' Q) : hG d 293 163 [some (vr 395), z1, z2, z3, some (vi l4), some (vi l5)] [] w Q := by
  induction n generalizing l5 h w with
  | zero => cases e
  | succ n ih =>
    rcases lp_succ e with ⟨s1, e1, e2⟩ | e1
    · exact t293_b163 hd rl4 rl5 A e1 (fun s_0 s_1 q w1 rl5 A1 => by cases q; exact ih rl5 A1 e2) (fun x_0 q => by cases q)
    · exact t293_b163 hd rl4 rl5 A e1 (fun s_0 s_1 q => by cases q) (fun x_0 q => by cases q; exact ke _ rfl)
def c293 (l1 : Int) (l2 : Int) (l3 : Int) (h : hS) : Option (Int × hS) :=
  (lp (fun s => c293_b3 h s) hF0 (0)).bind (fun r4 =>
  if r4 = 10 then
  some ((-1), h)
  else
  (c241 l1 h).bind (fun v6 =>
  if v6 = 0 then
  some ((-1), h)
  else
  (c252 0 l1 l2 l3 h).bind (fun v8 =>
  if v8.1 = 0 then
  some ((-1), v8.2)
  else
  (wIs v8.2 423 10 r4 (wbol 1)).bind (fun h10 =>
  (wIs h10 424 10 r4 (wbol 1)).bind (fun h11 =>
  (wIs h11 425 10 r4 (wbol 0)).bind (fun h12 =>
  (wIs h12 426 10 r4 l1).bind (fun h13 =>
  (wIs h13 427 10 r4 l3).bind (fun h14 =>
  (wIs h14 428 10 r4 0).bind (fun h15 =>
  (aIs h15 414 252 0).bind (fun v16 =>
  (wIs h15 429 10 r4 v16).bind (fun h17 =>
  (wIs h17 430 10 r4 0).bind (fun h18 =>
  (wIs h18 431 10 r4 0).bind (fun h19 =>
  (wIs h19 432 10 r4 0).bind (fun h20 =>
  (aIs h20 411 21 0).bind (fun v21 =>
  (wIs h20 433 10 r4 v21).bind (fun h22 =>
  (wIs h22 434 10 r4 l2).bind (fun h23 =>
  (lp (fun s => c293_b163 r4 s.1 s.2) hF0 (0, h23)).bind (fun r31 =>
  some (r4, r31)))))))))))))))))))
set_option maxRecDepth 100000 in
theorem t293 {d : Nat} (hd : 5 ≤ d) {l1 : Int} {l2 : Int} {l3 : Int} {h : hS} {w : mmW} {o : Int × hS} (A : Abs h w) (rl1 : rg l1) (rl2 : rg l2) (rl3 : rg l3) (e : c293 l1 l2 l3 h = some o) : hEv d 293 [vR 395, vI l1, vI l2, vI l3] w (qI o) := by
  obtain ⟨d, rfl⟩ : ∃ d1, d = d1 + 1 := ⟨d - 1, by omega⟩
  have hd : 4 ≤ d := by omega
  refine hEv_start (args := [vr 395, vi l1, vi l2, vi l3]) (nl := 6) rfl (Nat.le_of_ble_eq_true rfl) ?_
  show hG d 293 0 [some (vr 395), some (vi l1), some (vi l2), some (vi l3), none, none] [] w _
  have kr : ∀ (v1 : Int) (h1 : hS), o = (v1, h1) → ∀ w', rg v1 → Abs h1 w' → qI o (some (.int (Int32.ofInt v1)), w') := fun v1 h1 q w' r A' => by cases q; exact ⟨rfl, r, A'⟩
  unfold c293 at e
  refine hg_run 2 (pc' := 3) (ls' := [some (vr 395), some (vi l1), some (vi l2), some (vi l3), some (vi 0), none]) (st' := []) rfl ?_
  obtain ⟨r4, e4, e⟩ := ob e
  refine t293_l3 hd  _ (rgn 0 rfl) A e4 ?_
  intro x4_0 qq4 q4_4
  subst qq4
  refine hg_run 2 (pc' := 30) (ls' := [some (vr 395), some (vi l1), some (vi l2), some (vi l3), some (vi r4), none]) (st' := [vI 10, vI r4]) rfl ?_
  rcases oi e with ⟨q5, e⟩ | ⟨q5, e⟩
  · refine hg_icT (tgt := 52) rfl (by decide) q4_4 (rgn 10 rfl) q5 ?_
    refine hg_run 1 (pc' := 53) (ls' := [some (vr 395), some (vi l1), some (vi l2), some (vi l3), some (vi r4), none]) (st' := [vI (-1)]) rfl ?_
    cases e
    exact hg_retI rfl (by decide) (fit_I _) (kr _ _ rfl _ (rgn (-1) rfl) A)
  · refine hg_icF (tgt := 52) rfl (by decide) q4_4 (rgn 10 rfl) q5 ?_
    refine hg_run 2 (pc' := 35) (ls' := [some (vr 395), some (vi l1), some (vi l2), some (vi l3), some (vi r4), none]) (st' := [vI l1, vR 395]) rfl ?_
    obtain ⟨v6, e6, e⟩ := ob e
    refine hg_cIp (as := [vR 395, vI l1]) (st' := []) rfl (fun _ _ _ _ => rfl) rfl rfl (Nat.le_of_ble_eq_true rfl) (Nat.le_of_ble_eq_true rfl) (recvV A (a := 13) (Abs_ks A (i := 23) rfl).1) (t241 (by omega) A rl1 e6) (fun r6 => ?_)
    rcases oi e with ⟨q7, e⟩ | ⟨q7, e⟩
    · refine hg_ifT (tgt := 52) rfl (by decide) r6 q7 ?_
      refine hg_run 1 (pc' := 53) (ls' := [some (vr 395), some (vi l1), some (vi l2), some (vi l3), some (vi r4), none]) (st' := [vI (-1)]) rfl ?_
      cases e
      exact hg_retI rfl (by decide) (fit_I _) (kr _ _ rfl _ (rgn (-1) rfl) A)
    · refine hg_ifF (tgt := 52) rfl (by decide) r6 q7 ?_
      refine hg_run 5 (pc' := 46) (ls' := [some (vr 395), some (vi l1), some (vi l2), some (vi l3), some (vi r4), none]) (st' := [vI l3, vI l2, vI l1, vI 0, vR 395]) rfl ?_
      obtain ⟨v8, e8, e⟩ := ob e
      refine hg_cI (as := [vR 395, vI 0, vI l1, vI l2, vI l3]) (st' := []) rfl (fun _ _ _ _ => rfl) rfl rfl (Nat.le_of_ble_eq_true rfl) (Nat.le_of_ble_eq_true rfl) (recvV A (a := 13) (Abs_ks A (i := 23) rfl).1) (t252 (by omega) A (rgn 0 rfl) rl1 rl2 rl3 e8) (fun w8 r8 A8 => ?_)
      rcases oi e with ⟨q9, e⟩ | ⟨q9, e⟩
      · refine hg_ifF (tgt := 54) rfl (by decide) r8 (show ¬ ¬ (v8.1 = 0) from fun f => f q9) ?_
        refine hg_run 1 (pc' := 53) (ls' := [some (vr 395), some (vi l1), some (vi l2), some (vi l3), some (vi r4), none]) (st' := [vI (-1)]) rfl ?_
        cases e
        exact hg_retI rfl (by decide) (fit_I _) (kr _ _ rfl _ (rgn (-1) rfl) A8)
      · refine hg_ifT (tgt := 54) rfl (by decide) r8 (show ¬ (v8.1 = 0) from q9) ?_
        refine hg_run 1 (pc' := 55) (ls' := [some (vr 395), some (vi l1), some (vi l2), some (vi l3), some (vi r4), none]) (st' := [vR 395]) rfl ?_
        refine gs_395_67 rfl A8 ?_
        refine hg_run 2 (pc' := 61) (ls' := [some (vr 395), some (vi l1), some (vi l2), some (vi l3), some (vi r4), none]) (st' := [vI 1, vI r4, vR 423]) rfl ?_
        obtain ⟨h10, e10, e⟩ := ob e
        refine hg_wBs rfl A8 (Abs_ks A8 (i := 51) rfl) (by decide) e10 (fun w10 A10 => ?_)
        refine hg_run 1 (pc' := 63) (ls' := [some (vr 395), some (vi l1), some (vi l2), some (vi l3), some (vi r4), none]) (st' := [vR 395]) rfl ?_
        refine gs_395_68 rfl A10 ?_
        refine hg_run 2 (pc' := 69) (ls' := [some (vr 395), some (vi l1), some (vi l2), some (vi l3), some (vi r4), none]) (st' := [vI 1, vI r4, vR 424]) rfl ?_
        obtain ⟨h11, e11, e⟩ := ob e
        refine hg_wBs rfl A10 (Abs_ks A10 (i := 52) rfl) (by decide) e11 (fun w11 A11 => ?_)
        refine hg_run 1 (pc' := 71) (ls' := [some (vr 395), some (vi l1), some (vi l2), some (vi l3), some (vi r4), none]) (st' := [vR 395]) rfl ?_
        refine gs_395_69 rfl A11 ?_
        refine hg_run 2 (pc' := 77) (ls' := [some (vr 395), some (vi l1), some (vi l2), some (vi l3), some (vi r4), none]) (st' := [vI 0, vI r4, vR 425]) rfl ?_
        obtain ⟨h12, e12, e⟩ := ob e
        refine hg_wBs rfl A11 (Abs_ks A11 (i := 53) rfl) (by decide) e12 (fun w12 A12 => ?_)
        refine hg_run 1 (pc' := 79) (ls' := [some (vr 395), some (vi l1), some (vi l2), some (vi l3), some (vi r4), none]) (st' := [vR 395]) rfl ?_
        refine gs_395_70 rfl A12 ?_
        refine hg_run 2 (pc' := 85) (ls' := [some (vr 395), some (vi l1), some (vi l2), some (vi l3), some (vi r4), none]) (st' := [vI l1, vI r4, vR 426]) rfl ?_
        obtain ⟨h13, e13, e⟩ := ob e
        refine hg_wIs rfl A12 (Abs_ks A12 (i := 54) rfl) (by decide) rl1 e13 (fun w13 A13 => ?_)
        refine hg_run 1 (pc' := 87) (ls' := [some (vr 395), some (vi l1), some (vi l2), some (vi l3), some (vi r4), none]) (st' := [vR 395]) rfl ?_
        refine gs_395_71 rfl A13 ?_
        refine hg_run 2 (pc' := 93) (ls' := [some (vr 395), some (vi l1), some (vi l2), some (vi l3), some (vi r4), none]) (st' := [vI l3, vI r4, vR 427]) rfl ?_
        obtain ⟨h14, e14, e⟩ := ob e
        refine hg_wIs rfl A13 (Abs_ks A13 (i := 55) rfl) (by decide) rl3 e14 (fun w14 A14 => ?_)
        refine hg_run 1 (pc' := 95) (ls' := [some (vr 395), some (vi l1), some (vi l2), some (vi l3), some (vi r4), none]) (st' := [vR 395]) rfl ?_
        refine gs_395_72 rfl A14 ?_
        refine hg_run 2 (pc' := 101) (ls' := [some (vr 395), some (vi l1), some (vi l2), some (vi l3), some (vi r4), none]) (st' := [vI 0, vI r4, vR 428]) rfl ?_
        obtain ⟨h15, e15, e⟩ := ob e
        refine hg_wIs rfl A14 (Abs_ks A14 (i := 56) rfl) (by decide) (rgn 0 rfl) e15 (fun w15 A15 => ?_)
        refine hg_run 1 (pc' := 103) (ls' := [some (vr 395), some (vi l1), some (vi l2), some (vi l3), some (vi r4), none]) (st' := [vR 395]) rfl ?_
        refine gs_395_73 rfl A15 ?_
        refine hg_run 2 (pc' := 109) (ls' := [some (vr 395), some (vi l1), some (vi l2), some (vi l3), some (vi r4), none]) (st' := [vR 395, vI r4, vR 429]) rfl ?_
        refine gs_395_49 rfl A15 ?_
        refine hg_run 1 (pc' := 113) (ls' := [some (vr 395), some (vi l1), some (vi l2), some (vi l3), some (vi r4), none]) (st' := [vI 0, vR 414, vI r4, vR 429]) rfl ?_
        obtain ⟨v16, e16, e⟩ := ob e
        refine hg_aIs 0 rfl (fun _ _ _ _ => rfl) A15 (Abs_ks A15 (i := 42) rfl) rfl (by decide) e16 (fun r16 => ?_)
        obtain ⟨h17, e17, e⟩ := ob e
        refine hg_wIs rfl A15 (Abs_ks A15 (i := 57) rfl) (by decide) r16 e17 (fun w17 A17 => ?_)
        refine hg_run 1 (pc' := 116) (ls' := [some (vr 395), some (vi l1), some (vi l2), some (vi l3), some (vi r4), none]) (st' := [vR 395]) rfl ?_
        refine gs_395_74 rfl A17 ?_
        refine hg_run 2 (pc' := 122) (ls' := [some (vr 395), some (vi l1), some (vi l2), some (vi l3), some (vi r4), none]) (st' := [vI 0, vI r4, vR 430]) rfl ?_
        obtain ⟨h18, e18, e⟩ := ob e
        refine hg_wIs rfl A17 (Abs_ks A17 (i := 58) rfl) (by decide) (rgn 0 rfl) e18 (fun w18 A18 => ?_)
        refine hg_run 1 (pc' := 124) (ls' := [some (vr 395), some (vi l1), some (vi l2), some (vi l3), some (vi r4), none]) (st' := [vR 395]) rfl ?_
        refine gs_395_75 rfl A18 ?_
        refine hg_run 2 (pc' := 130) (ls' := [some (vr 395), some (vi l1), some (vi l2), some (vi l3), some (vi r4), none]) (st' := [vI 0, vI r4, vR 431]) rfl ?_
        obtain ⟨h19, e19, e⟩ := ob e
        refine hg_wIs rfl A18 (Abs_ks A18 (i := 59) rfl) (by decide) (rgn 0 rfl) e19 (fun w19 A19 => ?_)
        refine hg_run 1 (pc' := 132) (ls' := [some (vr 395), some (vi l1), some (vi l2), some (vi l3), some (vi r4), none]) (st' := [vR 395]) rfl ?_
        refine gs_395_76 rfl A19 ?_
        refine hg_run 2 (pc' := 138) (ls' := [some (vr 395), some (vi l1), some (vi l2), some (vi l3), some (vi r4), none]) (st' := [vI 0, vI r4, vR 432]) rfl ?_
        obtain ⟨h20, e20, e⟩ := ob e
        refine hg_wIs rfl A19 (Abs_ks A19 (i := 60) rfl) (by decide) (rgn 0 rfl) e20 (fun w20 A20 => ?_)
        refine hg_run 1 (pc' := 140) (ls' := [some (vr 395), some (vi l1), some (vi l2), some (vi l3), some (vi r4), none]) (st' := [vR 395]) rfl ?_
        refine gs_395_77 rfl A20 ?_
        refine hg_run 2 (pc' := 146) (ls' := [some (vr 395), some (vi l1), some (vi l2), some (vi l3), some (vi r4), none]) (st' := [vR 395, vI r4, vR 433]) rfl ?_
        refine gs_395_46 rfl A20 ?_
        refine hg_run 1 (pc' := 150) (ls' := [some (vr 395), some (vi l1), some (vi l2), some (vi l3), some (vi r4), none]) (st' := [vI 0, vR 411, vI r4, vR 433]) rfl ?_
        obtain ⟨v21, e21, e⟩ := ob e
        refine hg_aIs 0 rfl (fun _ _ _ _ => rfl) A20 (Abs_ks A20 (i := 39) rfl) rfl (by decide) e21 (fun r21 => ?_)
        obtain ⟨h22, e22, e⟩ := ob e
        refine hg_wIs rfl A20 (Abs_ks A20 (i := 61) rfl) (by decide) r21 e22 (fun w22 A22 => ?_)
        refine hg_run 1 (pc' := 153) (ls' := [some (vr 395), some (vi l1), some (vi l2), some (vi l3), some (vi r4), none]) (st' := [vR 395]) rfl ?_
        refine gs_395_78 rfl A22 ?_
        refine hg_run 2 (pc' := 159) (ls' := [some (vr 395), some (vi l1), some (vi l2), some (vi l3), some (vi r4), none]) (st' := [vI l2, vI r4, vR 434]) rfl ?_
        obtain ⟨h23, e23, e⟩ := ob e
        refine hg_wIs rfl A22 (Abs_ks A22 (i := 62) rfl) (by decide) rl2 e23 (fun w23 A23 => ?_)
        refine hg_run 2 (pc' := 163) (ls' := [some (vr 395), some (vi l1), some (vi l2), some (vi l3), some (vi r4), some (vi 0)]) (st' := []) rfl ?_
        obtain ⟨r31, e31, e⟩ := ob e
        refine t293_l163 hd q4_4 _ (rgn 0 rfl) A23 e31 ?_
        intro x31_0 qq31 w31 z31_5 A31
        subst qq31
        refine hg_run 1 (pc' := 238) (ls' := [some (vr 395), some (vi l1), some (vi l2), some (vi l3), some (vi r4), z31_5]) (st' := [vI r4]) rfl ?_
        cases e
        exact hg_retI rfl (by decide) (fit_I _) (kr _ _ rfl _ q4_4 A31)
def c294 (l1 : Int) (l2 : Int) (h : hS) : Option (Int) :=
  (c191 l1 0 9 h).bind (fun v1 =>
  if v1 = 0 then
  some (-1)
  else
  (aIs h 424 10 l1).bind (fun v3 =>
  if v3 = 0 then
  some (-1)
  else
  if l2 < 0 ∨ 5 < l2 then
  some (-1)
  else
  if l2 = 0 then
  (aIs h 423 10 l1).bind (fun v7 =>
  if v7 = 0 then
  some 0
  else
  some 1)
  else
  if l2 = 1 then
  (aIs h 430 10 l1).bind (fun v10 =>
  some v10)
  else
  if l2 = 2 then
  (aIs h 423 10 l1).bind (fun v12 =>
  if v12 = 0 then
  (aIs h 431 10 l1).bind (fun v14 =>
  some v14)
  else
  some 0)
  else
  if l2 = 3 then
  (aIs h 437 120 (wmul 12 l1)).bind (fun v16 =>
  some v16)
  else
  if l2 = 4 then
  (aIs h 425 10 l1).bind (fun v18 =>
  if v18 = 0 then
  some 0
  else
  some 1)
  else
  if l2 = 5 then
  (aIs h 432 10 l1).bind (fun v21 =>
  some v21)
  else
  none))
theorem t294 {d : Nat} (hd : 2 ≤ d) {l1 : Int} {l2 : Int} {h : hS} {w : mmW} {o : Int} (A : Abs h w) (rl1 : rg l1) (rl2 : rg l2) (e : c294 l1 l2 h = some o) : hEv d 294 [vR 395, vI l1, vI l2] w (qIp o w) := by
  obtain ⟨d, rfl⟩ : ∃ d1, d = d1 + 1 := ⟨d - 1, by omega⟩
  have hd : 1 ≤ d := by omega
  refine hEv_start (args := [vr 395, vi l1, vi l2]) (nl := 3) rfl (Nat.le_of_ble_eq_true rfl) ?_
  show hG d 294 0 [some (vr 395), some (vi l1), some (vi l2)] [] w _
  have kr : ∀ v1 : Int, o = v1 → rg v1 → qIp o w (some (.int (Int32.ofInt v1)), w) := fun v1 q r => by cases q; exact ⟨rfl, r⟩
  unfold c294 at e
  refine hg_run 3 (pc' := 4) (ls' := [some (vr 395), some (vi l1), some (vi l2)]) (st' := [vI 9, vI 0, vI l1]) rfl ?_
  obtain ⟨v1, e1, e⟩ := ob e
  refine hg_cIp (as := [vI l1, vI 0, vI 9]) (st' := []) rfl (fun _ _ _ _ => rfl) rfl rfl (Nat.le_of_ble_eq_true rfl) (Nat.le_of_ble_eq_true rfl) recv0 (t191 (by omega) A rl1 (rgn 0 rfl) (rgn 9 rfl) e1) (fun r1 => ?_)
  rcases oi e with ⟨q2, e⟩ | ⟨q2, e⟩
  · refine hg_ifT (tgt := 19) rfl (by decide) r1 q2 ?_
    refine hg_run 1 (pc' := 20) (ls' := [some (vr 395), some (vi l1), some (vi l2)]) (st' := [vI (-1)]) rfl ?_
    cases e
    exact hg_retI rfl (by decide) (fit_I _) (kr _ rfl (rgn (-1) rfl))
  · refine hg_ifF (tgt := 19) rfl (by decide) r1 q2 ?_
    refine hg_run 1 (pc' := 11) (ls' := [some (vr 395), some (vi l1), some (vi l2)]) (st' := [vR 395]) rfl ?_
    refine gs_395_68 rfl A ?_
    refine hg_run 1 (pc' := 15) (ls' := [some (vr 395), some (vi l1), some (vi l2)]) (st' := [vI l1, vR 424]) rfl ?_
    obtain ⟨v3, e3, e⟩ := ob e
    refine hg_aIs 1 rfl (fun _ _ _ _ => rfl) A (Abs_ks A (i := 52) rfl) rfl (by decide) e3 (fun r3 => ?_)
    rcases oi e with ⟨q4, e⟩ | ⟨q4, e⟩
    · refine hg_ifF (tgt := 21) rfl (by decide) r3 (show ¬ ¬ (v3 = 0) from fun f => f q4) ?_
      refine hg_run 1 (pc' := 20) (ls' := [some (vr 395), some (vi l1), some (vi l2)]) (st' := [vI (-1)]) rfl ?_
      cases e
      exact hg_retI rfl (by decide) (fit_I _) (kr _ rfl (rgn (-1) rfl))
    · refine hg_ifT (tgt := 21) rfl (by decide) r3 (show ¬ (v3 = 0) from q4) ?_
      refine hg_run 1 (pc' := 22) (ls' := [some (vr 395), some (vi l1), some (vi l2)]) (st' := [vI l2]) rfl ?_
      rcases oi e with ⟨q5, e⟩ | ⟨q5, e⟩
      · refine hg_tsD (tgt := 134) rfl rl2 q5 (by decide) ?_
        refine hg_run 1 (pc' := 135) (ls' := [some (vr 395), some (vi l1), some (vi l2)]) (st' := [vI (-1)]) rfl ?_
        cases e
        exact hg_retI rfl (by decide) (fit_I _) (kr _ rfl (rgn (-1) rfl))
      · rcases oi e with ⟨q6, e⟩ | ⟨q6, e⟩
        · refine hg_tsC (tgt := 60) rfl rl2 q6 (by decide) rfl (by decide) ?_
          refine hg_run 1 (pc' := 61) (ls' := [some (vr 395), some (vi l1), some (vi l2)]) (st' := [vR 395]) rfl ?_
          refine gs_395_67 rfl A ?_
          refine hg_run 1 (pc' := 65) (ls' := [some (vr 395), some (vi l1), some (vi l2)]) (st' := [vI l1, vR 423]) rfl ?_
          obtain ⟨v7, e7, e⟩ := ob e
          refine hg_aIs 1 rfl (fun _ _ _ _ => rfl) A (Abs_ks A (i := 51) rfl) rfl (by decide) e7 (fun r7 => ?_)
          rcases oi e with ⟨q8, e⟩ | ⟨q8, e⟩
          · refine hg_ifT (tgt := 73) rfl (by decide) r7 q8 ?_
            refine hg_run 1 (pc' := 74) (ls' := [some (vr 395), some (vi l1), some (vi l2)]) (st' := [vI 0]) rfl ?_
            cases e
            exact hg_retI rfl (by decide) (fit_I _) (kr _ rfl (rgn 0 rfl))
          · refine hg_ifF (tgt := 73) rfl (by decide) r7 q8 ?_
            refine hg_run 2 (pc' := 74) (ls' := [some (vr 395), some (vi l1), some (vi l2)]) (st' := [vI 1]) rfl ?_
            cases e
            exact hg_retI rfl (by decide) (fit_I _) (kr _ rfl (rgn 1 rfl))
        · rcases oi e with ⟨q9, e⟩ | ⟨q9, e⟩
          · refine hg_tsC (tgt := 75) rfl rl2 q9 (by decide) rfl (by decide) ?_
            refine hg_run 1 (pc' := 76) (ls' := [some (vr 395), some (vi l1), some (vi l2)]) (st' := [vR 395]) rfl ?_
            refine gs_395_74 rfl A ?_
            refine hg_run 1 (pc' := 80) (ls' := [some (vr 395), some (vi l1), some (vi l2)]) (st' := [vI l1, vR 430]) rfl ?_
            obtain ⟨v10, e10, e⟩ := ob e
            refine hg_aIs 0 rfl (fun _ _ _ _ => rfl) A (Abs_ks A (i := 58) rfl) rfl (by decide) e10 (fun r10 => ?_)
            cases e
            exact hg_retI rfl (by decide) (fit_I _) (kr _ rfl r10)
          · rcases oi e with ⟨q11, e⟩ | ⟨q11, e⟩
            · refine hg_tsC (tgt := 82) rfl rl2 q11 (by decide) rfl (by decide) ?_
              refine hg_run 1 (pc' := 83) (ls' := [some (vr 395), some (vi l1), some (vi l2)]) (st' := [vR 395]) rfl ?_
              refine gs_395_67 rfl A ?_
              refine hg_run 1 (pc' := 87) (ls' := [some (vr 395), some (vi l1), some (vi l2)]) (st' := [vI l1, vR 423]) rfl ?_
              obtain ⟨v12, e12, e⟩ := ob e
              refine hg_aIs 1 rfl (fun _ _ _ _ => rfl) A (Abs_ks A (i := 51) rfl) rfl (by decide) e12 (fun r12 => ?_)
              rcases oi e with ⟨q13, e⟩ | ⟨q13, e⟩
              · refine hg_ifT (tgt := 95) rfl (by decide) r12 q13 ?_
                refine hg_run 1 (pc' := 96) (ls' := [some (vr 395), some (vi l1), some (vi l2)]) (st' := [vR 395]) rfl ?_
                refine gs_395_75 rfl A ?_
                refine hg_run 1 (pc' := 100) (ls' := [some (vr 395), some (vi l1), some (vi l2)]) (st' := [vI l1, vR 431]) rfl ?_
                obtain ⟨v14, e14, e⟩ := ob e
                refine hg_aIs 0 rfl (fun _ _ _ _ => rfl) A (Abs_ks A (i := 59) rfl) rfl (by decide) e14 (fun r14 => ?_)
                cases e
                exact hg_retI rfl (by decide) (fit_I _) (kr _ rfl r14)
              · refine hg_ifF (tgt := 95) rfl (by decide) r12 q13 ?_
                refine hg_run 2 (pc' := 101) (ls' := [some (vr 395), some (vi l1), some (vi l2)]) (st' := [vI 0]) rfl ?_
                cases e
                exact hg_retI rfl (by decide) (fit_I _) (kr _ rfl (rgn 0 rfl))
            · rcases oi e with ⟨q15, e⟩ | ⟨q15, e⟩
              · refine hg_tsC (tgt := 102) rfl rl2 q15 (by decide) rfl (by decide) ?_
                refine hg_run 1 (pc' := 103) (ls' := [some (vr 395), some (vi l1), some (vi l2)]) (st' := [vR 395]) rfl ?_
                refine gs_395_81 rfl A ?_
                refine hg_run 3 (pc' := 110) (ls' := [some (vr 395), some (vi l1), some (vi l2)]) (st' := [vI (wmul 12 l1), vR 437]) rfl ?_
                obtain ⟨v16, e16, e⟩ := ob e
                refine hg_aIs 0 rfl (fun _ _ _ _ => rfl) A (Abs_ks A (i := 65) rfl) rfl (by decide) e16 (fun r16 => ?_)
                cases e
                exact hg_retI rfl (by decide) (fit_I _) (kr _ rfl r16)
              · rcases oi e with ⟨q17, e⟩ | ⟨q17, e⟩
                · refine hg_tsC (tgt := 112) rfl rl2 q17 (by decide) rfl (by decide) ?_
                  refine hg_run 1 (pc' := 113) (ls' := [some (vr 395), some (vi l1), some (vi l2)]) (st' := [vR 395]) rfl ?_
                  refine gs_395_69 rfl A ?_
                  refine hg_run 1 (pc' := 117) (ls' := [some (vr 395), some (vi l1), some (vi l2)]) (st' := [vI l1, vR 425]) rfl ?_
                  obtain ⟨v18, e18, e⟩ := ob e
                  refine hg_aIs 1 rfl (fun _ _ _ _ => rfl) A (Abs_ks A (i := 53) rfl) rfl (by decide) e18 (fun r18 => ?_)
                  rcases oi e with ⟨q19, e⟩ | ⟨q19, e⟩
                  · refine hg_ifT (tgt := 125) rfl (by decide) r18 q19 ?_
                    refine hg_run 1 (pc' := 126) (ls' := [some (vr 395), some (vi l1), some (vi l2)]) (st' := [vI 0]) rfl ?_
                    cases e
                    exact hg_retI rfl (by decide) (fit_I _) (kr _ rfl (rgn 0 rfl))
                  · refine hg_ifF (tgt := 125) rfl (by decide) r18 q19 ?_
                    refine hg_run 2 (pc' := 126) (ls' := [some (vr 395), some (vi l1), some (vi l2)]) (st' := [vI 1]) rfl ?_
                    cases e
                    exact hg_retI rfl (by decide) (fit_I _) (kr _ rfl (rgn 1 rfl))
                · rcases oi e with ⟨q20, e⟩ | ⟨q20, e⟩
                  · refine hg_tsC (tgt := 127) rfl rl2 q20 (by decide) rfl (by decide) ?_
                    refine hg_run 1 (pc' := 128) (ls' := [some (vr 395), some (vi l1), some (vi l2)]) (st' := [vR 395]) rfl ?_
                    refine gs_395_76 rfl A ?_
                    refine hg_run 1 (pc' := 132) (ls' := [some (vr 395), some (vi l1), some (vi l2)]) (st' := [vI l1, vR 432]) rfl ?_
                    obtain ⟨v21, e21, e⟩ := ob e
                    refine hg_aIs 0 rfl (fun _ _ _ _ => rfl) A (Abs_ks A (i := 60) rfl) rfl (by decide) e21 (fun r21 => ?_)
                    cases e
                    exact hg_retI rfl (by decide) (fit_I _) (kr _ rfl r21)
                  · cases e
