/-! read as functions: laid by wip/whole/shallow.py -/
def c295 (l1 : Int) (l2 : Int) (h : hS) : Option (Int × hS) :=
  (c191 l1 0 9 h).bind (fun v1 =>
  if v1 = 0 then
  some (0, h)
  else
  (aIs h 423 10 l1).bind (fun v3 =>
  if v3 = 0 then
  some (0, h)
  else
  (wIs h 425 10 l1 (wbol l2)).bind (fun h5 =>
  some (1, h5))))
theorem t295 {d : Nat} (hd : 2 ≤ d) {l1 : Int} {l2 : Int} {h : hS} {w : mmW} {o : Int × hS} (A : Abs h w) (rl1 : rg l1) (rl2 : rg l2) (e : c295 l1 l2 h = some o) : hEv d 295 [vR 395, vI l1, vI l2] w (qI o) := by
  obtain ⟨d, rfl⟩ : ∃ d1, d = d1 + 1 := ⟨d - 1, by omega⟩
  have hd : 1 ≤ d := by omega
  refine hEv_start (args := [vr 395, vi l1, vi l2]) (nl := 3) rfl (Nat.le_of_ble_eq_true rfl) ?_
  show hG d 295 0 [some (vr 395), some (vi l1), some (vi l2)] [] w _
  have kr : ∀ (v1 : Int) (h1 : hS), o = (v1, h1) → ∀ w', rg v1 → Abs h1 w' → qI o (some (.int (Int32.ofInt v1)), w') := fun v1 h1 q w' r A' => by cases q; exact ⟨rfl, r, A'⟩
  unfold c295 at e
  refine hg_run 3 (pc' := 4) (ls' := [some (vr 395), some (vi l1), some (vi l2)]) (st' := [vI 9, vI 0, vI l1]) rfl ?_
  obtain ⟨v1, e1, e⟩ := ob e
  refine hg_cIp (as := [vI l1, vI 0, vI 9]) (st' := []) rfl (fun _ _ _ _ => rfl) rfl rfl (Nat.le_of_ble_eq_true rfl) (Nat.le_of_ble_eq_true rfl) recv0 (t191 (by omega) A rl1 (rgn 0 rfl) (rgn 9 rfl) e1) (fun r1 => ?_)
  rcases oi e with ⟨q2, e⟩ | ⟨q2, e⟩
  · refine hg_ifT (tgt := 19) rfl (by decide) r1 q2 ?_
    refine hg_run 1 (pc' := 20) (ls' := [some (vr 395), some (vi l1), some (vi l2)]) (st' := [vI 0]) rfl ?_
    cases e
    exact hg_retI rfl (by decide) (fit_B (.inl rfl)) (kr _ _ rfl _ (rgn 0 rfl) A)
  · refine hg_ifF (tgt := 19) rfl (by decide) r1 q2 ?_
    refine hg_run 1 (pc' := 11) (ls' := [some (vr 395), some (vi l1), some (vi l2)]) (st' := [vR 395]) rfl ?_
    refine gs_395_67 rfl A ?_
    refine hg_run 1 (pc' := 15) (ls' := [some (vr 395), some (vi l1), some (vi l2)]) (st' := [vI l1, vR 423]) rfl ?_
    obtain ⟨v3, e3, e⟩ := ob e
    refine hg_aIs 1 rfl (fun _ _ _ _ => rfl) A (Abs_ks A (i := 51) rfl) rfl (by decide) e3 (fun r3 => ?_)
    rcases oi e with ⟨q4, e⟩ | ⟨q4, e⟩
    · refine hg_ifF (tgt := 21) rfl (by decide) r3 (show ¬ ¬ (v3 = 0) from fun f => f q4) ?_
      refine hg_run 1 (pc' := 20) (ls' := [some (vr 395), some (vi l1), some (vi l2)]) (st' := [vI 0]) rfl ?_
      cases e
      exact hg_retI rfl (by decide) (fit_B (.inl rfl)) (kr _ _ rfl _ (rgn 0 rfl) A)
    · refine hg_ifT (tgt := 21) rfl (by decide) r3 (show ¬ (v3 = 0) from q4) ?_
      refine hg_run 1 (pc' := 22) (ls' := [some (vr 395), some (vi l1), some (vi l2)]) (st' := [vR 395]) rfl ?_
      refine gs_395_69 rfl A ?_
      refine hg_run 2 (pc' := 27) (ls' := [some (vr 395), some (vi l1), some (vi l2)]) (st' := [vI l2, vI l1, vR 425]) rfl ?_
      obtain ⟨h5, e5, e⟩ := ob e
      refine hg_wBs rfl A (Abs_ks A (i := 53) rfl) (by decide) e5 (fun w5 A5 => ?_)
      refine hg_run 1 (pc' := 29) (ls' := [some (vr 395), some (vi l1), some (vi l2)]) (st' := [vI 1]) rfl ?_
      cases e
      exact hg_retI rfl (by decide) (fit_B (.inr rfl)) (kr _ _ rfl _ (rgn 1 rfl) A5)
def c296 (l1 : Int) (h : hS) : Option (Int × hS) :=
  (c191 l1 0 (wsub (hI h 395 25) 1) h).bind (fun v1 =>
  if v1 = 0 then
  some (0, h)
  else
  if (hI h 395 28) = (-1) then
  (some (sI h 395 28 l1)).bind (fun h4 =>
  (some (sI h4 395 26 0)).bind (fun h5 =>
  (wIs h5 402 6 l1 1).bind (fun h6 =>
  some (1, h6))))
  else
  some (0, h))
theorem t296 {d : Nat} (hd : 2 ≤ d) {l1 : Int} {h : hS} {w : mmW} {o : Int × hS} (A : Abs h w) (rl1 : rg l1) (e : c296 l1 h = some o) : hEv d 296 [vR 395, vI l1] w (qI o) := by
  obtain ⟨d, rfl⟩ : ∃ d1, d = d1 + 1 := ⟨d - 1, by omega⟩
  have hd : 1 ≤ d := by omega
  refine hEv_start (args := [vr 395, vi l1]) (nl := 2) rfl (Nat.le_of_ble_eq_true rfl) ?_
  show hG d 296 0 [some (vr 395), some (vi l1)] [] w _
  have kr : ∀ (v1 : Int) (h1 : hS), o = (v1, h1) → ∀ w', rg v1 → Abs h1 w' → qI o (some (.int (Int32.ofInt v1)), w') := fun v1 h1 q w' r A' => by cases q; exact ⟨rfl, r, A'⟩
  unfold c296 at e
  refine hg_run 3 (pc' := 3) (ls' := [some (vr 395), some (vi l1)]) (st' := [vR 395, vI 0, vI l1]) rfl ?_
  refine gs_395_25 rfl A ?_
  refine hg_run 2 (pc' := 8) (ls' := [some (vr 395), some (vi l1)]) (st' := [vI (wsub (hI h 395 25) 1), vI 0, vI l1]) rfl ?_
  obtain ⟨v1, e1, e⟩ := ob e
  refine hg_cIp (as := [vI l1, vI 0, vI (wsub (hI h 395 25) 1)]) (st' := []) rfl (fun _ _ _ _ => rfl) rfl rfl (Nat.le_of_ble_eq_true rfl) (Nat.le_of_ble_eq_true rfl) recv0 (t191 (by omega) A rl1 (rgn 0 rfl) (rg_sub _ _) e1) (fun r1 => ?_)
  rcases oi e with ⟨q2, e⟩ | ⟨q2, e⟩
  · refine hg_ifT (tgt := 22) rfl (by decide) r1 q2 ?_
    refine hg_run 1 (pc' := 23) (ls' := [some (vr 395), some (vi l1)]) (st' := [vI 0]) rfl ?_
    cases e
    exact hg_retI rfl (by decide) (fit_B (.inl rfl)) (kr _ _ rfl _ (rgn 0 rfl) A)
  · refine hg_ifF (tgt := 22) rfl (by decide) r1 q2 ?_
    refine hg_run 1 (pc' := 15) (ls' := [some (vr 395), some (vi l1)]) (st' := [vR 395]) rfl ?_
    refine gs_395_28 rfl A ?_
    refine hg_run 1 (pc' := 19) (ls' := [some (vr 395), some (vi l1)]) (st' := [vI (-1), vI (hI h 395 28)]) rfl ?_
    rcases oi e with ⟨q3, e⟩ | ⟨q3, e⟩
    · refine hg_icT (tgt := 24) rfl (by decide) (Abs_rg A 395 28) (rgn (-1) rfl) q3 ?_
      refine hg_run 2 (pc' := 26) (ls' := [some (vr 395), some (vi l1)]) (st' := [vI l1, vR 395]) rfl ?_
      obtain ⟨h4, e4, e⟩ := ob e
      refine ps_395_28 rfl A rl1 e4 (fun w4 A4 => ?_)
      refine hg_run 2 (pc' := 31) (ls' := [some (vr 395), some (vi l1)]) (st' := [vI 0, vR 395]) rfl ?_
      obtain ⟨h5, e5, e⟩ := ob e
      refine ps_395_26 rfl A4 (rgn 0 rfl) e5 (fun w5 A5 => ?_)
      refine hg_run 1 (pc' := 35) (ls' := [some (vr 395), some (vi l1)]) (st' := [vR 395]) rfl ?_
      refine gs_395_32 rfl A5 ?_
      refine hg_run 2 (pc' := 40) (ls' := [some (vr 395), some (vi l1)]) (st' := [vI 1, vI l1, vR 402]) rfl ?_
      obtain ⟨h6, e6, e⟩ := ob e
      refine hg_wIs rfl A5 (Abs_ks A5 (i := 30) rfl) (by decide) (rgn 1 rfl) e6 (fun w6 A6 => ?_)
      refine hg_run 1 (pc' := 42) (ls' := [some (vr 395), some (vi l1)]) (st' := [vI 1]) rfl ?_
      cases e
      exact hg_retI rfl (by decide) (fit_B (.inr rfl)) (kr _ _ rfl _ (rgn 1 rfl) A6)
    · refine hg_icF (tgt := 24) rfl (by decide) (Abs_rg A 395 28) (rgn (-1) rfl) q3 ?_
      refine hg_run 1 (pc' := 23) (ls' := [some (vr 395), some (vi l1)]) (st' := [vI 0]) rfl ?_
      cases e
      exact hg_retI rfl (by decide) (fit_B (.inl rfl)) (kr _ _ rfl _ (rgn 0 rfl) A)
def c297 (l1 : Int) (h : hS) : Option (Int) :=
  (c191 l1 0 (wsub (hI h 395 25) 1) h).bind (fun v1 =>
  if v1 = 0 then
  some (-1)
  else
  (aIs h 402 6 l1).bind (fun v3 =>
  some v3))
theorem t297 {d : Nat} (hd : 2 ≤ d) {l1 : Int} {h : hS} {w : mmW} {o : Int} (A : Abs h w) (rl1 : rg l1) (e : c297 l1 h = some o) : hEv d 297 [vR 395, vI l1] w (qIp o w) := by
  obtain ⟨d, rfl⟩ : ∃ d1, d = d1 + 1 := ⟨d - 1, by omega⟩
  have hd : 1 ≤ d := by omega
  refine hEv_start (args := [vr 395, vi l1]) (nl := 2) rfl (Nat.le_of_ble_eq_true rfl) ?_
  show hG d 297 0 [some (vr 395), some (vi l1)] [] w _
  have kr : ∀ v1 : Int, o = v1 → rg v1 → qIp o w (some (.int (Int32.ofInt v1)), w) := fun v1 q r => by cases q; exact ⟨rfl, r⟩
  unfold c297 at e
  refine hg_run 3 (pc' := 3) (ls' := [some (vr 395), some (vi l1)]) (st' := [vR 395, vI 0, vI l1]) rfl ?_
  refine gs_395_25 rfl A ?_
  refine hg_run 2 (pc' := 8) (ls' := [some (vr 395), some (vi l1)]) (st' := [vI (wsub (hI h 395 25) 1), vI 0, vI l1]) rfl ?_
  obtain ⟨v1, e1, e⟩ := ob e
  refine hg_cIp (as := [vI l1, vI 0, vI (wsub (hI h 395 25) 1)]) (st' := []) rfl (fun _ _ _ _ => rfl) rfl rfl (Nat.le_of_ble_eq_true rfl) (Nat.le_of_ble_eq_true rfl) recv0 (t191 (by omega) A rl1 (rgn 0 rfl) (rg_sub _ _) e1) (fun r1 => ?_)
  rcases oi e with ⟨q2, e⟩ | ⟨q2, e⟩
  · refine hg_ifT (tgt := 23) rfl (by decide) r1 q2 ?_
    refine hg_run 1 (pc' := 24) (ls' := [some (vr 395), some (vi l1)]) (st' := [vI (-1)]) rfl ?_
    cases e
    exact hg_retI rfl (by decide) (fit_I _) (kr _ rfl (rgn (-1) rfl))
  · refine hg_ifF (tgt := 23) rfl (by decide) r1 q2 ?_
    refine hg_run 1 (pc' := 15) (ls' := [some (vr 395), some (vi l1)]) (st' := [vR 395]) rfl ?_
    refine gs_395_32 rfl A ?_
    refine hg_run 1 (pc' := 19) (ls' := [some (vr 395), some (vi l1)]) (st' := [vI l1, vR 402]) rfl ?_
    obtain ⟨v3, e3, e⟩ := ob e
    refine hg_aIs 0 rfl (fun _ _ _ _ => rfl) A (Abs_ks A (i := 30) rfl) rfl (by decide) e3 (fun r3 => ?_)
    refine hg_run 1 (pc' := 24) (ls' := [some (vr 395), some (vi l1)]) (st' := [vI v3]) rfl ?_
    cases e
    exact hg_retI rfl (by decide) (fit_I _) (kr _ rfl r3)
def c298 (l1 : Int) (h : hS) : Option (Int) :=
  if l1 = 0 then
  some (hI h 395 82)
  else
  if l1 = 1 then
  some (hI h 395 83)
  else
  if l1 = 2 then
  some (hI h 395 84)
  else
  some (-1)
theorem t298 {d : Nat} (hd : 1 ≤ d) {l1 : Int} {h : hS} {w : mmW} {o : Int} (A : Abs h w) (rl1 : rg l1) (e : c298 l1 h = some o) : hEv d 298 [vR 395, vI l1] w (qIp o w) := by
  obtain ⟨d, rfl⟩ : ∃ d1, d = d1 + 1 := ⟨d - 1, by omega⟩
  have hd : 0 ≤ d := by omega
  refine hEv_start (args := [vr 395, vi l1]) (nl := 2) rfl (Nat.le_of_ble_eq_true rfl) ?_
  show hG d 298 0 [some (vr 395), some (vi l1)] [] w _
  have kr : ∀ v1 : Int, o = v1 → rg v1 → qIp o w (some (.int (Int32.ofInt v1)), w) := fun v1 q r => by cases q; exact ⟨rfl, r⟩
  unfold c298 at e
  refine hg_run 1 (pc' := 1) (ls' := [some (vr 395), some (vi l1)]) (st' := [vI l1]) rfl ?_
  rcases oi e with ⟨q1, e⟩ | ⟨q1, e⟩
  · refine hg_ifF (tgt := 11) rfl (by decide) rl1 (show ¬ ¬ (l1 = 0) from fun f => f q1) ?_
    refine hg_run 1 (pc' := 5) (ls' := [some (vr 395), some (vi l1)]) (st' := [vR 395]) rfl ?_
    refine gs_395_82 rfl A ?_
    refine hg_run 1 (pc' := 36) (ls' := [some (vr 395), some (vi l1)]) (st' := [vI (hI h 395 82)]) rfl ?_
    cases e
    exact hg_retI rfl (by decide) (fit_I _) (kr _ rfl (Abs_rg A 395 82))
  · refine hg_ifT (tgt := 11) rfl (by decide) rl1 (show ¬ (l1 = 0) from q1) ?_
    refine hg_run 2 (pc' := 13) (ls' := [some (vr 395), some (vi l1)]) (st' := [vI 1, vI l1]) rfl ?_
    rcases oi e with ⟨q2, e⟩ | ⟨q2, e⟩
    · refine hg_icF (tgt := 23) rfl (by decide) rl1 (rgn 1 rfl) (show ¬ ¬ (l1 = 1) from fun f => f q2) ?_
      refine hg_run 1 (pc' := 17) (ls' := [some (vr 395), some (vi l1)]) (st' := [vR 395]) rfl ?_
      refine gs_395_83 rfl A ?_
      refine hg_run 1 (pc' := 36) (ls' := [some (vr 395), some (vi l1)]) (st' := [vI (hI h 395 83)]) rfl ?_
      cases e
      exact hg_retI rfl (by decide) (fit_I _) (kr _ rfl (Abs_rg A 395 83))
    · refine hg_icT (tgt := 23) rfl (by decide) rl1 (rgn 1 rfl) (show ¬ (l1 = 1) from q2) ?_
      refine hg_run 2 (pc' := 25) (ls' := [some (vr 395), some (vi l1)]) (st' := [vI 2, vI l1]) rfl ?_
      rcases oi e with ⟨q3, e⟩ | ⟨q3, e⟩
      · refine hg_icF (tgt := 35) rfl (by decide) rl1 (rgn 2 rfl) (show ¬ ¬ (l1 = 2) from fun f => f q3) ?_
        refine hg_run 1 (pc' := 29) (ls' := [some (vr 395), some (vi l1)]) (st' := [vR 395]) rfl ?_
        refine gs_395_84 rfl A ?_
        refine hg_run 1 (pc' := 36) (ls' := [some (vr 395), some (vi l1)]) (st' := [vI (hI h 395 84)]) rfl ?_
        cases e
        exact hg_retI rfl (by decide) (fit_I _) (kr _ rfl (Abs_rg A 395 84))
      · refine hg_icT (tgt := 35) rfl (by decide) rl1 (rgn 2 rfl) (show ¬ (l1 = 2) from q3) ?_
        refine hg_run 1 (pc' := 36) (ls' := [some (vr 395), some (vi l1)]) (st' := [vI (-1)]) rfl ?_
        cases e
        exact hg_retI rfl (by decide) (fit_I _) (kr _ rfl (rgn (-1) rfl))
def c300_j91 (l5 : Int) (l6 : Int) : Option ((Int × Int) ⊕ (Int)) :=
  some (.inl (l5, (wadd l6 1)))
set_option maxRecDepth 100000 in
theorem t300_j91 {d : Nat} (hd : 4 ≤ d) {l5 : Int} {l6 : Int} {l1 : Int} {l2 : Int} {l3 : Int} {l4 : Int} {h : hS} {w : mmW} {o : (Int × Int) ⊕ (Int)} {Q : mmO → Prop} (rl5 : rg l5) (rl6 : rg l6) (A : Abs h w) (e : c300_j91 l5 l6 = some o) (kb : ∀ (s_0 : Int) (s_1 : Int), o = .inl (s_0, s_1) → rg s_0 → rg s_1 → hG d 300 53 [some (vr 395), some (vi l1), some (vi l2), some (vi l3), some (vi l4), some (vi s_0), some (vi s_1)] [] w Q) (ke : ∀ (x_0 : Int), o = .inr (x_0) → ∀ (y6 : Option hO), rg x_0 → hG d 300 97 [some (vr 395), some (vi l1), some (vi l2), some (vi l3), some (vi l4), some (vi x_0), y6] [] w Q) : hG d 300 91 [some (vr 395), some (vi l1), some (vi l2), some (vi l3), some (vi l4), some (vi l5), some (vi l6)] [] w Q := by
  unfold c300_j91 at e
  refine hg_run 2 (pc' := 53) (ls' := [some (vr 395), some (vi l1), some (vi l2), some (vi l3), some (vi l4), some (vi l5), some (vi (wadd l6 1))]) (st' := []) rfl ?_
  cases e
  exact kb l5 (wadd l6 1) rfl rl5 (rg_add _ _)
def c300_b53 (l2 : Int) (l3 : Int) (l4 : Int) (h : hS) (l5 : Int) (l6 : Int) : Option ((Int × Int) ⊕ (Int)) :=
  if 40 ≤ l6 then
  some (.inr (l5))
  else
  (c237 0 l2 l6 h).bind (fun v8 =>
  if v8 = (-1) then
  c300_j91 l5 l6
  else
  (c287 2 l3 0 l2 l6 h).bind (fun v10 =>
  if v10 = l4 then
  c300_j91 l6 l6
  else
  c300_j91 l5 l6))
set_option maxRecDepth 100000 in
theorem t300_b53 {d : Nat} (hd : 4 ≤ d) {l2 : Int} {l3 : Int} {l4 : Int} {l5 : Int} {l6 : Int} {l1 : Int} {h : hS} {w : mmW} {o : (Int × Int) ⊕ (Int)} {Q : mmO → Prop} (rl2 : rg l2) (rl3 : rg l3) (rl4 : rg l4) (rl5 : rg l5) (rl6 : rg l6) (A : Abs h w) (e : c300_b53 l2 l3 l4 h l5 l6 = some o) (kb : ∀ (s_0 : Int) (s_1 : Int), o = .inl (s_0, s_1) → rg s_0 → rg s_1 → hG d 300 53 [some (vr 395), some (vi l1), some (vi l2), some (vi l3), some (vi l4), some (vi s_0), some (vi s_1)] [] w Q) (ke : ∀ (x_0 : Int), o = .inr (x_0) → ∀ (y6 : Option hO), rg x_0 → hG d 300 97 [some (vr 395), some (vi l1), some (vi l2), some (vi l3), some (vi l4), some (vi x_0), y6] [] w Q) : hG d 300 53 [some (vr 395), some (vi l1), some (vi l2), some (vi l3), some (vi l4), some (vi l5), some (vi l6)] [] w Q := by
  unfold c300_b53 at e
  refine hg_run 2 (pc' := 57) (ls' := [some (vr 395), some (vi l1), some (vi l2), some (vi l3), some (vi l4), some (vi l5), some (vi l6)]) (st' := [vI 40, vI l6]) rfl ?_
  rcases oi e with ⟨q7, e⟩ | ⟨q7, e⟩
  · refine hg_icT (tgt := 97) rfl (by decide) rl6 (rgn 40 rfl) q7 ?_
    cases e
    exact ke l5 rfl _ rl5
  · refine hg_icF (tgt := 97) rfl (by decide) rl6 (rgn 40 rfl) q7 ?_
    refine hg_run 4 (pc' := 65) (ls' := [some (vr 395), some (vi l1), some (vi l2), some (vi l3), some (vi l4), some (vi l5), some (vi l6)]) (st' := [vI l6, vI l2, vI 0, vR 395]) rfl ?_
    obtain ⟨v8, e8, e⟩ := ob e
    refine hg_cIp (as := [vR 395, vI 0, vI l2, vI l6]) (st' := []) rfl (fun _ _ _ _ => rfl) rfl rfl (Nat.le_of_ble_eq_true rfl) (Nat.le_of_ble_eq_true rfl) (recvV A (a := 13) (Abs_ks A (i := 23) rfl).1) (t237 (by omega) A (rgn 0 rfl) rl2 rl6 e8) (fun r8 => ?_)
    refine hg_run 1 (pc' := 69) (ls' := [some (vr 395), some (vi l1), some (vi l2), some (vi l3), some (vi l4), some (vi l5), some (vi l6)]) (st' := [vI (-1), vI v8]) rfl ?_
    rcases oi e with ⟨q9, e⟩ | ⟨q9, e⟩
    · refine hg_icT (tgt := 91) rfl (by decide) r8 (rgn (-1) rfl) q9 ?_
      exact t300_j91 hd rl5 rl6 A e kb ke
    · refine hg_icF (tgt := 91) rfl (by decide) r8 (rgn (-1) rfl) q9 ?_
      refine hg_run 6 (pc' := 79) (ls' := [some (vr 395), some (vi l1), some (vi l2), some (vi l3), some (vi l4), some (vi l5), some (vi l6)]) (st' := [vI l6, vI l2, vI 0, vI l3, vI 2, vR 395]) rfl ?_
      obtain ⟨v10, e10, e⟩ := ob e
      refine hg_cIp (as := [vR 395, vI 2, vI l3, vI 0, vI l2, vI l6]) (st' := []) rfl (fun _ _ _ _ => rfl) rfl rfl (Nat.le_of_ble_eq_true rfl) (Nat.le_of_ble_eq_true rfl) (recvV A (a := 13) (Abs_ks A (i := 23) rfl).1) (t287 (by omega) A (rgn 2 rfl) rl3 (rgn 0 rfl) rl2 rl6 e10) (fun r10 => ?_)
      refine hg_run 1 (pc' := 84) (ls' := [some (vr 395), some (vi l1), some (vi l2), some (vi l3), some (vi l4), some (vi l5), some (vi l6)]) (st' := [vI l4, vI v10]) rfl ?_
      rcases oi e with ⟨q11, e⟩ | ⟨q11, e⟩
      · refine hg_icF (tgt := 91) rfl (by decide) r10 rl4 (show ¬ ¬ (v10 = l4) from fun f => f q11) ?_
        refine hg_run 2 (pc' := 91) (ls' := [some (vr 395), some (vi l1), some (vi l2), some (vi l3), some (vi l4), some (vi l6), some (vi l6)]) (st' := []) rfl ?_
        exact t300_j91 hd rl6 rl6 A e kb ke
      · refine hg_icT (tgt := 91) rfl (by decide) r10 rl4 (show ¬ (v10 = l4) from q11) ?_
        exact t300_j91 hd rl5 rl6 A e kb ke
set_option maxRecDepth 100000 in
theorem t300_l53 {d : Nat} (hd : 4 ≤ d) {l2 : Int} {l3 : Int} {l4 : Int} {l1 : Int} {h : hS} {w : mmW} {Q : mmO → Prop} (rl2 : rg l2) (rl3 : rg l3) (rl4 : rg l4) (n : Nat) {l5 : Int} {l6 : Int}  {r : Int} (rl5 : rg l5) (rl6 : rg l6) (A : Abs h w) (e : lp (fun s => c300_b53 l2 l3 l4 h s.1 s.2) n (l5, l6) = some r) (ke : ∀ (x_0 : Int), r = (x_0) → ∀ (y6 : Option hO), rg x_0 → hG d 300 97 [some (vr 395), some (vi l1), some (vi l2), some (vi l3), some (vi l4), some (vi x_0), y6] [] w Q) : hG d 300 53 [some (vr 395), some (vi l1), some (vi l2), some (vi l3), some (vi l4), some (vi l5), some (vi l6)] [] w Q := by
  induction n generalizing l5 l6 with
  | zero => cases e
  | succ n ih =>
    rcases lp_succ e with ⟨s1, e1, e2⟩ | e1
    · exact t300_b53 hd rl2 rl3 rl4 rl5 rl6 A e1 (fun s_0 s_1 q rl5 rl6 => by cases q; exact ih rl5 rl6 e2) (fun x_0 q => by cases q)
    · exact t300_b53 hd rl2 rl3 rl4 rl5 rl6 A e1 (fun s_0 s_1 q => by cases q) (fun x_0 q => by cases q; exact ke _ rfl)
def c300_j184 (l4 : Int) (h : hS) : Option ((Int × hS) ⊕ (hS)) :=
  some (.inl ((wadd l4 1), h))
set_option maxRecDepth 100000 in
theorem t300_j184 {d : Nat} (hd : 4 ≤ d) {l4 : Int} {l1 : Int} {l2 : Int} {l3 : Int} {z5 : Option hO} {z6 : Option hO} {h : hS} {w : mmW} {o : (Int × hS) ⊕ (hS)} {Q : mmO → Prop} (rl4 : rg l4) (A : Abs h w) (e : c300_j184 l4 h = some o) (kb : ∀ (s_0 : Int) (s_1 : hS), o = .inl (s_0, s_1) → ∀ w', ∀ (y5 y6 : Option hO), rg s_0 → Abs s_1 w' → hG d 300 3 [some (vr 395), some (vi l1), some (vi l2), some (vi l3), some (vi s_0), y5, y6] [] w' Q) (ke : ∀ (x_0 : hS), o = .inr (x_0) → ∀ w', ∀ (y4 y5 y6 : Option hO), Abs x_0 w' → hG d 300 190 [some (vr 395), some (vi l1), some (vi l2), some (vi l3), y4, y5, y6] [] w' Q) : hG d 300 184 [some (vr 395), some (vi l1), some (vi l2), some (vi l3), some (vi l4), z5, z6] [] w Q := by
  unfold c300_j184 at e
  refine hg_run 2 (pc' := 3) (ls' := [some (vr 395), some (vi l1), some (vi l2), some (vi l3), some (vi (wadd l4 1)), z5, z6]) (st' := []) rfl ?_
  cases e
  exact kb (wadd l4 1) h rfl _ _ _ (rg_add _ _) A
def c300_j183 (s1 : Int) (s2 : Int) (l4 : Int) (h : hS) : Option ((Int × hS) ⊕ (hS)) :=
  (wIs h 440 1600 s1 s2).bind (fun h19 =>
  c300_j184 l4 h19)
set_option maxRecDepth 100000 in
theorem t300_j183 {d : Nat} (hd : 4 ≤ d) {s1 : Int} {s2 : Int} {l4 : Int} {l1 : Int} {l2 : Int} {l3 : Int} {z5 : Option hO} {z6 : Option hO} {h : hS} {w : mmW} {o : (Int × hS) ⊕ (hS)} {Q : mmO → Prop} (rs1 : rg s1) (rs2 : rg s2) (rl4 : rg l4) (A : Abs h w) (e : c300_j183 s1 s2 l4 h = some o) (kb : ∀ (s_0 : Int) (s_1 : hS), o = .inl (s_0, s_1) → ∀ w', ∀ (y5 y6 : Option hO), rg s_0 → Abs s_1 w' → hG d 300 3 [some (vr 395), some (vi l1), some (vi l2), some (vi l3), some (vi s_0), y5, y6] [] w' Q) (ke : ∀ (x_0 : hS), o = .inr (x_0) → ∀ w', ∀ (y4 y5 y6 : Option hO), Abs x_0 w' → hG d 300 190 [some (vr 395), some (vi l1), some (vi l2), some (vi l3), y4, y5, y6] [] w' Q) : hG d 300 183 [some (vr 395), some (vi l1), some (vi l2), some (vi l3), some (vi l4), z5, z6] [vI s2, vI s1, vR 440] w Q := by
  unfold c300_j183 at e
  obtain ⟨h19, e19, e⟩ := ob e
  refine hg_wIs rfl A (Abs_ks A (i := 68) rfl) (by decide) rs2 e19 (fun w19 A19 => ?_)
  exact t300_j184 hd rl4 A19 e kb ke
def c300_j33 (s1 : Int) (s2 : Int) (l1 : Int) (l2 : Int) (l3 : Int) (l4 : Int) (h : hS) : Option ((Int × hS) ⊕ (hS)) :=
  (wIs h 442 1600 s1 (wbol s2)).bind (fun h4 =>
  (aIs h4 442 1600 l4).bind (fun v5 =>
  if v5 = 0 then
  c300_j184 l4 h4
  else
  (lp (fun s => c300_b53 l2 l3 l4 h4 s.1 s.2) hF0 ((-1), 0)).bind (fun r12 =>
  (c237 2 l3 l4 h4).bind (fun v13 =>
  if r12 = (-1) then
  (aIs h4 407 1600 (wadd (wmul 40 l1) l4)).bind (fun v15 =>
  if v15 = 0 then
  (c207 2 v13 l4 h4).bind (fun v17 =>
  (c199 2 v13 (wadd 14 v17) h4).bind (fun v18 =>
  c300_j183 l4 v18 l4 h4))
  else
  (aIs h4 406 1600 (wadd (wmul 40 l1) l4)).bind (fun v20 =>
  c300_j183 l4 v20 l4 h4))
  else
  (aIs h4 405 1600 (wadd (wmul 40 l1) r12)).bind (fun v21 =>
  c300_j183 l4 v21 l4 h4)))))
set_option maxRecDepth 100000 in
theorem t300_j33 {d : Nat} (hd : 4 ≤ d) {s1 : Int} {s2 : Int} {l1 : Int} {l2 : Int} {l3 : Int} {l4 : Int} {z5 : Option hO} {z6 : Option hO} {h : hS} {w : mmW} {o : (Int × hS) ⊕ (hS)} {Q : mmO → Prop} (rs1 : rg s1) (rs2 : rg s2) (rl1 : rg l1) (rl2 : rg l2) (rl3 : rg l3) (rl4 : rg l4) (A : Abs h w) (e : c300_j33 s1 s2 l1 l2 l3 l4 h = some o) (kb : ∀ (s_0 : Int) (s_1 : hS), o = .inl (s_0, s_1) → ∀ w', ∀ (y5 y6 : Option hO), rg s_0 → Abs s_1 w' → hG d 300 3 [some (vr 395), some (vi l1), some (vi l2), some (vi l3), some (vi s_0), y5, y6] [] w' Q) (ke : ∀ (x_0 : hS), o = .inr (x_0) → ∀ w', ∀ (y4 y5 y6 : Option hO), Abs x_0 w' → hG d 300 190 [some (vr 395), some (vi l1), some (vi l2), some (vi l3), y4, y5, y6] [] w' Q) : hG d 300 33 [some (vr 395), some (vi l1), some (vi l2), some (vi l3), some (vi l4), z5, z6] [vI s2, vI s1, vR 442] w Q := by
  unfold c300_j33 at e
  obtain ⟨h4, e4, e⟩ := ob e
  refine hg_wBs rfl A (Abs_ks A (i := 70) rfl) (by decide) e4 (fun w4 A4 => ?_)
  refine hg_run 1 (pc' := 35) (ls' := [some (vr 395), some (vi l1), some (vi l2), some (vi l3), some (vi l4), z5, z6]) (st' := [vR 395]) rfl ?_
  refine gs_395_89 rfl A4 ?_
  refine hg_run 1 (pc' := 40) (ls' := [some (vr 395), some (vi l1), some (vi l2), some (vi l3), some (vi l4), z5, z6]) (st' := [vI l4, vR 442]) rfl ?_
  obtain ⟨v5, e5, e⟩ := ob e
  refine hg_aIs 1 rfl (fun _ _ _ _ => rfl) A4 (Abs_ks A4 (i := 70) rfl) rfl (by decide) e5 (fun r5 => ?_)
  rcases oi e with ⟨q6, e⟩ | ⟨q6, e⟩
  · refine hg_ifF (tgt := 47) rfl (by decide) r5 (show ¬ ¬ (v5 = 0) from fun f => f q6) ?_
    refine hg_run 1 (pc' := 184) (ls' := [some (vr 395), some (vi l1), some (vi l2), some (vi l3), some (vi l4), z5, z6]) (st' := []) rfl ?_
    exact t300_j184 hd rl4 A4 e kb ke
  · refine hg_ifT (tgt := 47) rfl (by decide) r5 (show ¬ (v5 = 0) from q6) ?_
    refine hg_run 4 (pc' := 53) (ls' := [some (vr 395), some (vi l1), some (vi l2), some (vi l3), some (vi l4), some (vi (-1)), some (vi 0)]) (st' := []) rfl ?_
    obtain ⟨r12, e12, e⟩ := ob e
    refine t300_l53 hd rl2 rl3 rl4 _ (rgn (-1) rfl) (rgn 0 rfl) A4 e12 ?_
    intro x12_0 qq12 z12_6 q12_5
    subst qq12
    refine hg_run 4 (pc' := 102) (ls' := [some (vr 395), some (vi l1), some (vi l2), some (vi l3), some (vi l4), some (vi r12), z12_6]) (st' := [vI l4, vI l3, vI 2, vR 395]) rfl ?_
    obtain ⟨v13, e13, e⟩ := ob e
    refine hg_cIp (as := [vR 395, vI 2, vI l3, vI l4]) (st' := []) rfl (fun _ _ _ _ => rfl) rfl rfl (Nat.le_of_ble_eq_true rfl) (Nat.le_of_ble_eq_true rfl) (recvV A4 (a := 13) (Abs_ks A4 (i := 23) rfl).1) (t237 (by omega) A4 (rgn 2 rfl) rl3 rl4 e13) (fun r13 => ?_)
    refine hg_run 2 (pc' := 108) (ls' := [some (vr 395), some (vi l1), some (vi l2), some (vi l3), some (vi l4), some (vi r12), some (vi v13)]) (st' := [vR 395]) rfl ?_
    refine gs_395_87 rfl A4 ?_
    refine hg_run 3 (pc' := 116) (ls' := [some (vr 395), some (vi l1), some (vi l2), some (vi l3), some (vi l4), some (vi r12), some (vi v13)]) (st' := [vI (-1), vI r12, vI l4, vR 440]) rfl ?_
    rcases oi e with ⟨q14, e⟩ | ⟨q14, e⟩
    · refine hg_icT (tgt := 134) rfl (by decide) q12_5 (rgn (-1) rfl) q14 ?_
      refine hg_run 1 (pc' := 135) (ls' := [some (vr 395), some (vi l1), some (vi l2), some (vi l3), some (vi l4), some (vi r12), some (vi v13)]) (st' := [vR 395, vI l4, vR 440]) rfl ?_
      refine gs_395_38 rfl A4 ?_
      refine hg_run 5 (pc' := 145) (ls' := [some (vr 395), some (vi l1), some (vi l2), some (vi l3), some (vi l4), some (vi r12), some (vi v13)]) (st' := [vI (wadd (wmul 40 l1) l4), vR 407, vI l4, vR 440]) rfl ?_
      obtain ⟨v15, e15, e⟩ := ob e
      refine hg_aIs 1 rfl (fun _ _ _ _ => rfl) A4 (Abs_ks A4 (i := 35) rfl) rfl (by decide) e15 (fun r15 => ?_)
      rcases oi e with ⟨q16, e⟩ | ⟨q16, e⟩
      · refine hg_ifT (tgt := 164) rfl (by decide) r15 q16 ?_
        refine hg_run 8 (pc' := 176) (ls' := [some (vr 395), some (vi l1), some (vi l2), some (vi l3), some (vi l4), some (vi r12), some (vi v13)]) (st' := [vI l4, vI v13, vI 2, vR 395, vI 14, vI v13, vI 2, vR 395, vI l4, vR 440]) rfl ?_
        obtain ⟨v17, e17, e⟩ := ob e
        refine hg_cIp (as := [vR 395, vI 2, vI v13, vI l4]) (st' := [vI 14, vI v13, vI 2, vR 395, vI l4, vR 440]) rfl (fun _ _ _ _ => rfl) rfl rfl (Nat.le_of_ble_eq_true rfl) (Nat.le_of_ble_eq_true rfl) (recvV A4 (a := 13) (Abs_ks A4 (i := 23) rfl).1) (t207 (by omega) A4 (rgn 2 rfl) r13 rl4 e17) (fun r17 => ?_)
        refine hg_run 1 (pc' := 180) (ls' := [some (vr 395), some (vi l1), some (vi l2), some (vi l3), some (vi l4), some (vi r12), some (vi v13)]) (st' := [vI (wadd 14 v17), vI v13, vI 2, vR 395, vI l4, vR 440]) rfl ?_
        obtain ⟨v18, e18, e⟩ := ob e
        refine hg_cIp (as := [vR 395, vI 2, vI v13, vI (wadd 14 v17)]) (st' := [vI l4, vR 440]) rfl (fun _ _ _ _ => rfl) rfl rfl (Nat.le_of_ble_eq_true rfl) (Nat.le_of_ble_eq_true rfl) (recvV A4 (a := 13) (Abs_ks A4 (i := 23) rfl).1) (t199 (by omega) A4 (rgn 2 rfl) r13 (rg_add _ _) e18) (fun r18 => ?_)
        exact t300_j183 hd rl4 r18 rl4 A4 e kb ke
      · refine hg_ifF (tgt := 164) rfl (by decide) r15 q16 ?_
        refine hg_run 1 (pc' := 150) (ls' := [some (vr 395), some (vi l1), some (vi l2), some (vi l3), some (vi l4), some (vi r12), some (vi v13)]) (st' := [vR 395, vI l4, vR 440]) rfl ?_
        refine gs_395_37 rfl A4 ?_
        refine hg_run 5 (pc' := 160) (ls' := [some (vr 395), some (vi l1), some (vi l2), some (vi l3), some (vi l4), some (vi r12), some (vi v13)]) (st' := [vI (wadd (wmul 40 l1) l4), vR 406, vI l4, vR 440]) rfl ?_
        obtain ⟨v20, e20, e⟩ := ob e
        refine hg_aIs 0 rfl (fun _ _ _ _ => rfl) A4 (Abs_ks A4 (i := 34) rfl) rfl (by decide) e20 (fun r20 => ?_)
        refine hg_run 1 (pc' := 183) (ls' := [some (vr 395), some (vi l1), some (vi l2), some (vi l3), some (vi l4), some (vi r12), some (vi v13)]) (st' := [vI v20, vI l4, vR 440]) rfl ?_
        exact t300_j183 hd rl4 r20 rl4 A4 e kb ke
    · refine hg_icF (tgt := 134) rfl (by decide) q12_5 (rgn (-1) rfl) q14 ?_
      refine hg_run 1 (pc' := 120) (ls' := [some (vr 395), some (vi l1), some (vi l2), some (vi l3), some (vi l4), some (vi r12), some (vi v13)]) (st' := [vR 395, vI l4, vR 440]) rfl ?_
      refine gs_395_36 rfl A4 ?_
      refine hg_run 5 (pc' := 130) (ls' := [some (vr 395), some (vi l1), some (vi l2), some (vi l3), some (vi l4), some (vi r12), some (vi v13)]) (st' := [vI (wadd (wmul 40 l1) r12), vR 405, vI l4, vR 440]) rfl ?_
      obtain ⟨v21, e21, e⟩ := ob e
      refine hg_aIs 0 rfl (fun _ _ _ _ => rfl) A4 (Abs_ks A4 (i := 33) rfl) rfl (by decide) e21 (fun r21 => ?_)
      refine hg_run 1 (pc' := 183) (ls' := [some (vr 395), some (vi l1), some (vi l2), some (vi l3), some (vi l4), some (vi r12), some (vi v13)]) (st' := [vI v21, vI l4, vR 440]) rfl ?_
      exact t300_j183 hd rl4 r21 rl4 A4 e kb ke
def c300_b3 (l1 : Int) (l2 : Int) (l3 : Int) (l4 : Int) (h : hS) : Option ((Int × hS) ⊕ (hS)) :=
  if 40 ≤ l4 then
  some (.inr (h))
  else
  (c237 2 l3 l4 h).bind (fun v2 =>
  if v2 = (-1) then
  c300_j33 l4 0 l1 l2 l3 l4 h
  else
  c300_j33 l4 1 l1 l2 l3 l4 h)
set_option maxRecDepth 100000 in
theorem t300_b3 {d : Nat} (hd : 4 ≤ d) {l1 : Int} {l2 : Int} {l3 : Int} {l4 : Int} {z5 : Option hO} {z6 : Option hO} {h : hS} {w : mmW} {o : (Int × hS) ⊕ (hS)} {Q : mmO → Prop} (rl1 : rg l1) (rl2 : rg l2) (rl3 : rg l3) (rl4 : rg l4) (A : Abs h w) (e : c300_b3 l1 l2 l3 l4 h = some o) (kb : ∀ (s_0 : Int) (s_1 : hS), o = .inl (s_0, s_1) → ∀ w', ∀ (y5 y6 : Option hO), rg s_0 → Abs s_1 w' → hG d 300 3 [some (vr 395), some (vi l1), some (vi l2), some (vi l3), some (vi s_0), y5, y6] [] w' Q) (ke : ∀ (x_0 : hS), o = .inr (x_0) → ∀ w', ∀ (y4 y5 y6 : Option hO), Abs x_0 w' → hG d 300 190 [some (vr 395), some (vi l1), some (vi l2), some (vi l3), y4, y5, y6] [] w' Q) : hG d 300 3 [some (vr 395), some (vi l1), some (vi l2), some (vi l3), some (vi l4), z5, z6] [] w Q := by
  unfold c300_b3 at e
  refine hg_run 2 (pc' := 7) (ls' := [some (vr 395), some (vi l1), some (vi l2), some (vi l3), some (vi l4), z5, z6]) (st' := [vI 40, vI l4]) rfl ?_
  rcases oi e with ⟨q1, e⟩ | ⟨q1, e⟩
  · refine hg_icT (tgt := 190) rfl (by decide) rl4 (rgn 40 rfl) q1 ?_
    cases e
    exact ke h rfl _ _ _ _  A
  · refine hg_icF (tgt := 190) rfl (by decide) rl4 (rgn 40 rfl) q1 ?_
    refine hg_run 1 (pc' := 11) (ls' := [some (vr 395), some (vi l1), some (vi l2), some (vi l3), some (vi l4), z5, z6]) (st' := [vR 395]) rfl ?_
    refine gs_395_89 rfl A ?_
    refine hg_run 5 (pc' := 21) (ls' := [some (vr 395), some (vi l1), some (vi l2), some (vi l3), some (vi l4), z5, z6]) (st' := [vI l4, vI l3, vI 2, vR 395, vI l4, vR 442]) rfl ?_
    obtain ⟨v2, e2, e⟩ := ob e
    refine hg_cIp (as := [vR 395, vI 2, vI l3, vI l4]) (st' := [vI l4, vR 442]) rfl (fun _ _ _ _ => rfl) rfl rfl (Nat.le_of_ble_eq_true rfl) (Nat.le_of_ble_eq_true rfl) (recvV A (a := 13) (Abs_ks A (i := 23) rfl).1) (t237 (by omega) A (rgn 2 rfl) rl3 rl4 e2) (fun r2 => ?_)
    refine hg_run 1 (pc' := 25) (ls' := [some (vr 395), some (vi l1), some (vi l2), some (vi l3), some (vi l4), z5, z6]) (st' := [vI (-1), vI v2, vI l4, vR 442]) rfl ?_
    rcases oi e with ⟨q3, e⟩ | ⟨q3, e⟩
    · refine hg_icT (tgt := 32) rfl (by decide) r2 (rgn (-1) rfl) q3 ?_
      refine hg_run 1 (pc' := 33) (ls' := [some (vr 395), some (vi l1), some (vi l2), some (vi l3), some (vi l4), z5, z6]) (st' := [vI 0, vI l4, vR 442]) rfl ?_
      exact t300_j33 hd rl4 (rgn 0 rfl) rl1 rl2 rl3 rl4 A e kb ke
    · refine hg_icF (tgt := 32) rfl (by decide) r2 (rgn (-1) rfl) q3 ?_
      refine hg_run 2 (pc' := 33) (ls' := [some (vr 395), some (vi l1), some (vi l2), some (vi l3), some (vi l4), z5, z6]) (st' := [vI 1, vI l4, vR 442]) rfl ?_
      exact t300_j33 hd rl4 (rgn 1 rfl) rl1 rl2 rl3 rl4 A e kb ke
set_option maxRecDepth 100000 in
theorem t300_l3 {d : Nat} (hd : 4 ≤ d) {l1 : Int} {l2 : Int} {l3 : Int}  {Q : mmO → Prop} (rl1 : rg l1) (rl2 : rg l2) (rl3 : rg l3) (n : Nat) {l4 : Int} {z5 z6 : Option hO} {h : hS} {w : mmW} {r : hS} (rl4 : rg l4) (A : Abs h w) (e : lp (fun s => c300_b3 l1 l2 l3 s.1 s.2) n (l4, h) = some r) (ke : ∀ (x_0 : hS), r = (x_0) → ∀ w', ∀ (y4 y5 y6 : Option hO), Abs x_0 w' → hG d 300 190 [some (vr 395), some (vi l1), some (vi l2), some (vi l3), y4, y5, y6] [] w' Q) : hG d 300 3 [some (vr 395), some (vi l1), some (vi l2), some (vi l3), some (vi l4), z5, z6] [] w Q := by
  induction n generalizing l4 z5 z6 h w with
  | zero => cases e
  | succ n ih =>
    rcases lp_succ e with ⟨s1, e1, e2⟩ | e1
    · exact t300_b3 hd rl1 rl2 rl3 rl4 A e1 (fun s_0 s_1 q w1 y5 y6 rl4 A1 => by cases q; exact ih rl4 A1 e2) (fun x_0 q => by cases q)
    · exact t300_b3 hd rl1 rl2 rl3 rl4 A e1 (fun s_0 s_1 q => by cases q) (fun x_0 q => by cases q; exact ke _ rfl)
def c300_j229 (l4 : Int) (h : hS) : Option ((Int × hS) ⊕ (hS)) :=
  some (.inl ((wadd l4 1), h))
set_option maxRecDepth 100000 in
theorem t300_j229 {d : Nat} (hd : 4 ≤ d) {l4 : Int} {l1 : Int} {z2 : Option hO} {z3 : Option hO} {z5 : Option hO} {z6 : Option hO} {h : hS} {w : mmW} {o : (Int × hS) ⊕ (hS)} {Q : mmO → Prop} (rl4 : rg l4) (A : Abs h w) (e : c300_j229 l4 h = some o) (kb : ∀ (s_0 : Int) (s_1 : hS), o = .inl (s_0, s_1) → ∀ w', rg s_0 → Abs s_1 w' → hG d 300 193 [some (vr 395), some (vi l1), z2, z3, some (vi s_0), z5, z6] [] w' Q) (ke : ∀ (x_0 : hS), o = .inr (x_0) → ∀ w', ∀ (y4 : Option hO), Abs x_0 w' → hG d 300 235 [some (vr 395), some (vi l1), z2, z3, y4, z5, z6] [] w' Q) : hG d 300 229 [some (vr 395), some (vi l1), z2, z3, some (vi l4), z5, z6] [] w Q := by
  unfold c300_j229 at e
  refine hg_run 2 (pc' := 193) (ls' := [some (vr 395), some (vi l1), z2, z3, some (vi (wadd l4 1)), z5, z6]) (st' := []) rfl ?_
  cases e
  exact kb (wadd l4 1) h rfl _ (rg_add _ _) A
def c300_b193 (l1 : Int) (l4 : Int) (h : hS) : Option ((Int × hS) ⊕ (hS)) :=
  if 40 ≤ l4 then
  some (.inr (h))
  else
  (aIs h 442 1600 l4).bind (fun v24 =>
  if v24 = 0 then
  c300_j229 l4 h
  else
  (aIs h 440 1600 l4).bind (fun v26 =>
  (wIs h 405 1600 (wadd (wmul 40 l1) l4) v26).bind (fun h27 =>
  c300_j229 l4 h27)))
set_option maxRecDepth 100000 in
theorem t300_b193 {d : Nat} (hd : 4 ≤ d) {l1 : Int} {l4 : Int} {z2 : Option hO} {z3 : Option hO} {z5 : Option hO} {z6 : Option hO} {h : hS} {w : mmW} {o : (Int × hS) ⊕ (hS)} {Q : mmO → Prop} (rl1 : rg l1) (rl4 : rg l4) (A : Abs h w) (e : c300_b193 l1 l4 h = some o) (kb : ∀ (s_0 : Int) (s_1 : hS), o = .inl (s_0, s_1) → ∀ w', rg s_0 → Abs s_1 w' → hG d 300 193 [some (vr 395), some (vi l1), z2, z3, some (vi s_0), z5, z6] [] w' Q) (ke : ∀ (x_0 : hS), o = .inr (x_0) → ∀ w', ∀ (y4 : Option hO), Abs x_0 w' → hG d 300 235 [some (vr 395), some (vi l1), z2, z3, y4, z5, z6] [] w' Q) : hG d 300 193 [some (vr 395), some (vi l1), z2, z3, some (vi l4), z5, z6] [] w Q := by
  unfold c300_b193 at e
  refine hg_run 2 (pc' := 197) (ls' := [some (vr 395), some (vi l1), z2, z3, some (vi l4), z5, z6]) (st' := [vI 40, vI l4]) rfl ?_
  rcases oi e with ⟨q23, e⟩ | ⟨q23, e⟩
  · refine hg_icT (tgt := 235) rfl (by decide) rl4 (rgn 40 rfl) q23 ?_
    cases e
    exact ke h rfl _ _  A
  · refine hg_icF (tgt := 235) rfl (by decide) rl4 (rgn 40 rfl) q23 ?_
    refine hg_run 1 (pc' := 201) (ls' := [some (vr 395), some (vi l1), z2, z3, some (vi l4), z5, z6]) (st' := [vR 395]) rfl ?_
    refine gs_395_89 rfl A ?_
    refine hg_run 1 (pc' := 206) (ls' := [some (vr 395), some (vi l1), z2, z3, some (vi l4), z5, z6]) (st' := [vI l4, vR 442]) rfl ?_
    obtain ⟨v24, e24, e⟩ := ob e
    refine hg_aIs 1 rfl (fun _ _ _ _ => rfl) A (Abs_ks A (i := 70) rfl) rfl (by decide) e24 (fun r24 => ?_)
    rcases oi e with ⟨q25, e⟩ | ⟨q25, e⟩
    · refine hg_ifT (tgt := 229) rfl (by decide) r24 q25 ?_
      exact t300_j229 hd rl4 A e kb ke
    · refine hg_ifF (tgt := 229) rfl (by decide) r24 q25 ?_
      refine hg_run 1 (pc' := 211) (ls' := [some (vr 395), some (vi l1), z2, z3, some (vi l4), z5, z6]) (st' := [vR 395]) rfl ?_
      refine gs_395_36 rfl A ?_
      refine hg_run 6 (pc' := 222) (ls' := [some (vr 395), some (vi l1), z2, z3, some (vi l4), z5, z6]) (st' := [vR 395, vI (wadd (wmul 40 l1) l4), vR 405]) rfl ?_
      refine gs_395_87 rfl A ?_
      refine hg_run 1 (pc' := 227) (ls' := [some (vr 395), some (vi l1), z2, z3, some (vi l4), z5, z6]) (st' := [vI l4, vR 440, vI (wadd (wmul 40 l1) l4), vR 405]) rfl ?_
      obtain ⟨v26, e26, e⟩ := ob e
      refine hg_aIs 0 rfl (fun _ _ _ _ => rfl) A (Abs_ks A (i := 68) rfl) rfl (by decide) e26 (fun r26 => ?_)
      obtain ⟨h27, e27, e⟩ := ob e
      refine hg_wIs rfl A (Abs_ks A (i := 33) rfl) (by decide) r26 e27 (fun w27 A27 => ?_)
      exact t300_j229 hd rl4 A27 e kb ke
set_option maxRecDepth 100000 in
theorem t300_l193 {d : Nat} (hd : 4 ≤ d) {l1 : Int} {z2 : Option hO} {z3 : Option hO} {z5 : Option hO} {z6 : Option hO} {Q : mmO → Prop} (rl1 : rg l1) (n : Nat) {l4 : Int}  {h : hS} {w : mmW} {r : hS} (rl4 : rg l4) (A : Abs h w) (e : lp (fun s => c300_b193 l1 s.1 s.2) n (l4, h) = some r) (ke : ∀ (x_0 : hS), r = (x_0) → ∀ w', ∀ (y4 : Option hO), Abs x_0 w' → hG d 300 235 [some (vr 395), some (vi l1), z2, z3, y4, z5, z6] [] w' Q) : hG d 300 193 [some (vr 395), some (vi l1), z2, z3, some (vi l4), z5, z6] [] w Q := by
  induction n generalizing l4 h w with
  | zero => cases e
  | succ n ih =>
    rcases lp_succ e with ⟨s1, e1, e2⟩ | e1
    · exact t300_b193 hd rl1 rl4 A e1 (fun s_0 s_1 q w1 rl4 A1 => by cases q; exact ih rl4 A1 e2) (fun x_0 q => by cases q)
    · exact t300_b193 hd rl1 rl4 A e1 (fun s_0 s_1 q => by cases q) (fun x_0 q => by cases q; exact ke _ rfl)
def c300 (l1 : Int) (l2 : Int) (l3 : Int) (h : hS) : Option (hS) :=
  (lp (fun s => c300_b3 l1 l2 l3 s.1 s.2) hF0 (0, h)).bind (fun r22 =>
  (lp (fun s => c300_b193 l1 s.1 s.2) hF0 (0, r22)).bind (fun r28 =>
  some r28))
set_option maxRecDepth 100000 in
theorem t300 {d : Nat} (hd : 5 ≤ d) {l1 : Int} {l2 : Int} {l3 : Int} {h : hS} {w : mmW} {o : hS} (A : Abs h w) (rl1 : rg l1) (rl2 : rg l2) (rl3 : rg l3) (e : c300 l1 l2 l3 h = some o) : hEv d 300 [vR 395, vI l1, vI l2, vI l3] w (qV o) := by
  obtain ⟨d, rfl⟩ : ∃ d1, d = d1 + 1 := ⟨d - 1, by omega⟩
  have hd : 4 ≤ d := by omega
  refine hEv_start (args := [vr 395, vi l1, vi l2, vi l3]) (nl := 7) rfl (Nat.le_of_ble_eq_true rfl) ?_
  show hG d 300 0 [some (vr 395), some (vi l1), some (vi l2), some (vi l3), none, none, none] [] w _
  have kr : ∀ h1 : hS, o = h1 → ∀ w', Abs h1 w' → qV o (none, w') := fun h1 q w' A' => by cases q; exact ⟨rfl, A'⟩
  unfold c300 at e
  refine hg_run 2 (pc' := 3) (ls' := [some (vr 395), some (vi l1), some (vi l2), some (vi l3), some (vi 0), none, none]) (st' := []) rfl ?_
  obtain ⟨r22, e22, e⟩ := ob e
  refine t300_l3 hd rl1 rl2 rl3 _ (rgn 0 rfl) A e22 ?_
  intro x22_0 qq22 w22 z22_4 z22_5 z22_6 A22
  subst qq22
  refine hg_run 2 (pc' := 193) (ls' := [some (vr 395), some (vi l1), some (vi l2), some (vi l3), some (vi 0), z22_5, z22_6]) (st' := []) rfl ?_
  obtain ⟨r28, e28, e⟩ := ob e
  refine t300_l193 hd rl1 _ (rgn 0 rfl) A22 e28 ?_
  intro x28_0 qq28 w28 z28_4 A28
  subst qq28
  cases e
  exact hg_retV rfl (kr _ rfl _ A28)
def c299_j112 (l3 : Int) (h : hS) : Option ((Int × hS) ⊕ (hS)) :=
  some (.inl ((wadd l3 1), h))
set_option maxRecDepth 100000 in
theorem t299_j112 {d : Nat} (hd : 5 ≤ d) {l3 : Int} {l1 : Int} {l2 : Int} {z4 : Option hO} {h : hS} {w : mmW} {o : (Int × hS) ⊕ (hS)} {Q : mmO → Prop} (rl3 : rg l3) (A : Abs h w) (e : c299_j112 l3 h = some o) (kb : ∀ (s_0 : Int) (s_1 : hS), o = .inl (s_0, s_1) → ∀ w', ∀ (y4 : Option hO), rg s_0 → Abs s_1 w' → hG d 299 50 [some (vr 395), some (vi l1), some (vi l2), some (vi s_0), y4] [] w' Q) (ke : ∀ (x_0 : hS), o = .inr (x_0) → ∀ w', ∀ (y3 y4 : Option hO), Abs x_0 w' → hG d 299 118 [some (vr 395), some (vi l1), some (vi l2), y3, y4] [] w' Q) : hG d 299 112 [some (vr 395), some (vi l1), some (vi l2), some (vi l3), z4] [] w Q := by
  unfold c299_j112 at e
  refine hg_run 2 (pc' := 50) (ls' := [some (vr 395), some (vi l1), some (vi l2), some (vi (wadd l3 1)), z4]) (st' := []) rfl ?_
  cases e
  exact kb (wadd l3 1) h rfl _ _ (rg_add _ _) A
def c299_b50 (l1 : Int) (l2 : Int) (l3 : Int) (h : hS) : Option ((Int × hS) ⊕ (hS)) :=
  (c199 1 l1 30 h).bind (fun v8 =>
  if v8 ≤ l3 then
  some (.inr (h))
  else
  if l2 = (-1) then
  some (.inr (h))
  else
  (c199 1 l1 (wadd 31 l3) h).bind (fun v11 =>
  (c208 0 l2 v11 h).bind (fun v12 =>
  if v12 = (-1) then
  c299_j112 l3 h
  else
  (c199 0 l2 (wadd 35 v12) h).bind (fun v14 =>
  (c201 1 l1 (wadd 35 l3) v14 h).bind (fun h15 =>
  c299_j112 l3 h15)))))
set_option maxRecDepth 100000 in
theorem t299_b50 {d : Nat} (hd : 5 ≤ d) {l1 : Int} {l2 : Int} {l3 : Int} {z4 : Option hO} {h : hS} {w : mmW} {o : (Int × hS) ⊕ (hS)} {Q : mmO → Prop} (rl1 : rg l1) (rl2 : rg l2) (rl3 : rg l3) (A : Abs h w) (e : c299_b50 l1 l2 l3 h = some o) (kb : ∀ (s_0 : Int) (s_1 : hS), o = .inl (s_0, s_1) → ∀ w', ∀ (y4 : Option hO), rg s_0 → Abs s_1 w' → hG d 299 50 [some (vr 395), some (vi l1), some (vi l2), some (vi s_0), y4] [] w' Q) (ke : ∀ (x_0 : hS), o = .inr (x_0) → ∀ w', ∀ (y3 y4 : Option hO), Abs x_0 w' → hG d 299 118 [some (vr 395), some (vi l1), some (vi l2), y3, y4] [] w' Q) : hG d 299 50 [some (vr 395), some (vi l1), some (vi l2), some (vi l3), z4] [] w Q := by
  unfold c299_b50 at e
  refine hg_run 5 (pc' := 56) (ls' := [some (vr 395), some (vi l1), some (vi l2), some (vi l3), z4]) (st' := [vI 30, vI l1, vI 1, vR 395, vI l3]) rfl ?_
  obtain ⟨v8, e8, e⟩ := ob e
  refine hg_cIp (as := [vR 395, vI 1, vI l1, vI 30]) (st' := [vI l3]) rfl (fun _ _ _ _ => rfl) rfl rfl (Nat.le_of_ble_eq_true rfl) (Nat.le_of_ble_eq_true rfl) (recvV A (a := 13) (Abs_ks A (i := 23) rfl).1) (t199 (by omega) A (rgn 1 rfl) rl1 (rgn 30 rfl) e8) (fun r8 => ?_)
  rcases oi e with ⟨q9, e⟩ | ⟨q9, e⟩
  · refine hg_icT (tgt := 118) rfl (by decide) rl3 r8 q9 ?_
    cases e
    exact ke h rfl _ _ _  A
  · refine hg_icF (tgt := 118) rfl (by decide) rl3 r8 q9 ?_
    refine hg_run 2 (pc' := 64) (ls' := [some (vr 395), some (vi l1), some (vi l2), some (vi l3), z4]) (st' := [vI (-1), vI l2]) rfl ?_
    rcases oi e with ⟨q10, e⟩ | ⟨q10, e⟩
    · refine hg_icT (tgt := 118) rfl (by decide) rl2 (rgn (-1) rfl) q10 ?_
      cases e
      exact ke h rfl _ _ _  A
    · refine hg_icF (tgt := 118) rfl (by decide) rl2 (rgn (-1) rfl) q10 ?_
      refine hg_run 9 (pc' := 77) (ls' := [some (vr 395), some (vi l1), some (vi l2), some (vi l3), z4]) (st' := [vI (wadd 31 l3), vI l1, vI 1, vR 395, vI l2, vI 0, vR 395]) rfl ?_
      obtain ⟨v11, e11, e⟩ := ob e
      refine hg_cIp (as := [vR 395, vI 1, vI l1, vI (wadd 31 l3)]) (st' := [vI l2, vI 0, vR 395]) rfl (fun _ _ _ _ => rfl) rfl rfl (Nat.le_of_ble_eq_true rfl) (Nat.le_of_ble_eq_true rfl) (recvV A (a := 13) (Abs_ks A (i := 23) rfl).1) (t199 (by omega) A (rgn 1 rfl) rl1 (rg_add _ _) e11) (fun r11 => ?_)
      obtain ⟨v12, e12, e⟩ := ob e
      refine hg_cIp (as := [vR 395, vI 0, vI l2, vI v11]) (st' := []) rfl (fun _ _ _ _ => rfl) rfl rfl (Nat.le_of_ble_eq_true rfl) (Nat.le_of_ble_eq_true rfl) (recvV A (a := 13) (Abs_ks A (i := 23) rfl).1) (t208 (by omega) A (rgn 0 rfl) rl2 r11 e12) (fun r12 => ?_)
      refine hg_run 3 (pc' := 88) (ls' := [some (vr 395), some (vi l1), some (vi l2), some (vi l3), some (vi v12)]) (st' := [vI (-1), vI v12]) rfl ?_
      rcases oi e with ⟨q13, e⟩ | ⟨q13, e⟩
      · refine hg_icT (tgt := 112) rfl (by decide) r12 (rgn (-1) rfl) q13 ?_
        exact t299_j112 hd rl3 A e kb ke
      · refine hg_icF (tgt := 112) rfl (by decide) r12 (rgn (-1) rfl) q13 ?_
        refine hg_run 12 (pc' := 106) (ls' := [some (vr 395), some (vi l1), some (vi l2), some (vi l3), some (vi v12)]) (st' := [vI (wadd 35 v12), vI l2, vI 0, vR 395, vI (wadd 35 l3), vI l1, vI 1, vR 395]) rfl ?_
        obtain ⟨v14, e14, e⟩ := ob e
        refine hg_cIp (as := [vR 395, vI 0, vI l2, vI (wadd 35 v12)]) (st' := [vI (wadd 35 l3), vI l1, vI 1, vR 395]) rfl (fun _ _ _ _ => rfl) rfl rfl (Nat.le_of_ble_eq_true rfl) (Nat.le_of_ble_eq_true rfl) (recvV A (a := 13) (Abs_ks A (i := 23) rfl).1) (t199 (by omega) A (rgn 0 rfl) rl2 (rg_add _ _) e14) (fun r14 => ?_)
        obtain ⟨h15, e15, e⟩ := ob e
        refine hg_cV (as := [vR 395, vI 1, vI l1, vI (wadd 35 l3), vI v14]) (st' := []) rfl (fun _ _ _ _ => rfl) rfl rfl (Nat.le_of_ble_eq_true rfl) (Nat.le_of_ble_eq_true rfl) (recvV A (a := 13) (Abs_ks A (i := 23) rfl).1) (t201 (by omega) A (rgn 1 rfl) rl1 (rg_add _ _) r14 e15) (fun w15 A15 => ?_)
        exact t299_j112 hd rl3 A15 e kb ke
set_option maxRecDepth 100000 in
theorem t299_l50 {d : Nat} (hd : 5 ≤ d) {l1 : Int} {l2 : Int}  {Q : mmO → Prop} (rl1 : rg l1) (rl2 : rg l2) (n : Nat) {l3 : Int} {z4 : Option hO} {h : hS} {w : mmW} {r : hS} (rl3 : rg l3) (A : Abs h w) (e : lp (fun s => c299_b50 l1 l2 s.1 s.2) n (l3, h) = some r) (ke : ∀ (x_0 : hS), r = (x_0) → ∀ w', ∀ (y3 y4 : Option hO), Abs x_0 w' → hG d 299 118 [some (vr 395), some (vi l1), some (vi l2), y3, y4] [] w' Q) : hG d 299 50 [some (vr 395), some (vi l1), some (vi l2), some (vi l3), z4] [] w Q := by
  induction n generalizing l3 z4 h w with
  | zero => cases e
  | succ n ih =>
    rcases lp_succ e with ⟨s1, e1, e2⟩ | e1
    · exact t299_b50 hd rl1 rl2 rl3 A e1 (fun s_0 s_1 q w1 y4 rl3 A1 => by cases q; exact ih rl3 A1 e2) (fun x_0 q => by cases q)
    · exact t299_b50 hd rl1 rl2 rl3 A e1 (fun s_0 s_1 q => by cases q) (fun x_0 q => by cases q; exact ke _ rfl)
def c299_b26 (l1 : Int) (h : hS) : Option ((Int × hS) ⊕ (hS)) :=
  (c198 1 h).bind (fun v4 =>
  if v4 ≤ l1 then
  some (.inr (h))
  else
  (c199 1 l1 0 h).bind (fun v6 =>
  (c197 0 v6 h).bind (fun v7 =>
  (lp (fun s => c299_b50 l1 v7 s.1 s.2) hF0 (0, h)).bind (fun r16 =>
  some (.inl ((wadd l1 1), r16))))))
set_option maxRecDepth 100000 in
theorem t299_b26 {d : Nat} (hd : 5 ≤ d) {l1 : Int} {z2 : Option hO} {z3 : Option hO} {z4 : Option hO} {h : hS} {w : mmW} {o : (Int × hS) ⊕ (hS)} {Q : mmO → Prop} (rl1 : rg l1) (A : Abs h w) (e : c299_b26 l1 h = some o) (kb : ∀ (s_0 : Int) (s_1 : hS), o = .inl (s_0, s_1) → ∀ w', ∀ (y2 y3 y4 : Option hO), rg s_0 → Abs s_1 w' → hG d 299 26 [some (vr 395), some (vi s_0), y2, y3, y4] [] w' Q) (ke : ∀ (x_0 : hS), o = .inr (x_0) → ∀ w', ∀ (y1 y2 y3 y4 : Option hO), Abs x_0 w' → hG d 299 124 [some (vr 395), y1, y2, y3, y4] [] w' Q) : hG d 299 26 [some (vr 395), some (vi l1), z2, z3, z4] [] w Q := by
  unfold c299_b26 at e
  refine hg_run 3 (pc' := 29) (ls' := [some (vr 395), some (vi l1), z2, z3, z4]) (st' := [vI 1, vR 395, vI l1]) rfl ?_
  obtain ⟨v4, e4, e⟩ := ob e
  refine hg_cIp (as := [vR 395, vI 1]) (st' := [vI l1]) rfl (fun _ _ _ _ => rfl) rfl rfl (Nat.le_of_ble_eq_true rfl) (Nat.le_of_ble_eq_true rfl) (recvV A (a := 13) (Abs_ks A (i := 23) rfl).1) (t198 (by omega) A (rgn 1 rfl) e4) (fun r4 => ?_)
  rcases oi e with ⟨q5, e⟩ | ⟨q5, e⟩
  · refine hg_icT (tgt := 124) rfl (by decide) rl1 r4 q5 ?_
    cases e
    exact ke h rfl _ _ _ _ _  A
  · refine hg_icF (tgt := 124) rfl (by decide) rl1 r4 q5 ?_
    refine hg_run 6 (pc' := 41) (ls' := [some (vr 395), some (vi l1), z2, z3, z4]) (st' := [vI 0, vI l1, vI 1, vR 395, vI 0, vR 395]) rfl ?_
    obtain ⟨v6, e6, e⟩ := ob e
    refine hg_cIp (as := [vR 395, vI 1, vI l1, vI 0]) (st' := [vI 0, vR 395]) rfl (fun _ _ _ _ => rfl) rfl rfl (Nat.le_of_ble_eq_true rfl) (Nat.le_of_ble_eq_true rfl) (recvV A (a := 13) (Abs_ks A (i := 23) rfl).1) (t199 (by omega) A (rgn 1 rfl) rl1 (rgn 0 rfl) e6) (fun r6 => ?_)
    obtain ⟨v7, e7, e⟩ := ob e
    refine hg_cIp (as := [vR 395, vI 0, vI v6]) (st' := []) rfl (fun _ _ _ _ => rfl) rfl rfl (Nat.le_of_ble_eq_true rfl) (Nat.le_of_ble_eq_true rfl) (recvV A (a := 13) (Abs_ks A (i := 23) rfl).1) (t197 (by omega) A (rgn 0 rfl) r6 e7) (fun r7 => ?_)
    refine hg_run 3 (pc' := 50) (ls' := [some (vr 395), some (vi l1), some (vi v7), some (vi 0), z4]) (st' := []) rfl ?_
    obtain ⟨r16, e16, e⟩ := ob e
    refine t299_l50 hd rl1 r7 _ (rgn 0 rfl) A e16 ?_
    intro x16_0 qq16 w16 z16_3 z16_4 A16
    subst qq16
    refine hg_run 2 (pc' := 26) (ls' := [some (vr 395), some (vi (wadd l1 1)), some (vi v7), z16_3, z16_4]) (st' := []) rfl ?_
    cases e
    exact kb (wadd l1 1) r16 rfl _ _ _ _ (rg_add _ _) A16
set_option maxRecDepth 100000 in
theorem t299_l26 {d : Nat} (hd : 5 ≤ d)   {Q : mmO → Prop}  (n : Nat) {l1 : Int} {z2 z3 z4 : Option hO} {h : hS} {w : mmW} {r : hS} (rl1 : rg l1) (A : Abs h w) (e : lp (fun s => c299_b26  s.1 s.2) n (l1, h) = some r) (ke : ∀ (x_0 : hS), r = (x_0) → ∀ w', ∀ (y1 y2 y3 y4 : Option hO), Abs x_0 w' → hG d 299 124 [some (vr 395), y1, y2, y3, y4] [] w' Q) : hG d 299 26 [some (vr 395), some (vi l1), z2, z3, z4] [] w Q := by
  induction n generalizing l1 z2 z3 z4 h w with
  | zero => cases e
  | succ n ih =>
    rcases lp_succ e with ⟨s1, e1, e2⟩ | e1
    · exact t299_b26 hd rl1 A e1 (fun s_0 s_1 q w1 y2 y3 y4 rl1 A1 => by cases q; exact ih rl1 A1 e2) (fun x_0 q => by cases q)
    · exact t299_b26 hd rl1 A e1 (fun s_0 s_1 q => by cases q) (fun x_0 q => by cases q; exact ke _ rfl)
def c299_j199 (l1 : Int) (h : hS) : Option ((Int × hS) ⊕ (hS)) :=
  some (.inl ((wadd l1 1), h))
set_option maxRecDepth 100000 in
theorem t299_j199 {d : Nat} (hd : 5 ≤ d) {l1 : Int} {z2 : Option hO} {z3 : Option hO} {z4 : Option hO} {h : hS} {w : mmW} {o : (Int × hS) ⊕ (hS)} {Q : mmO → Prop} (rl1 : rg l1) (A : Abs h w) (e : c299_j199 l1 h = some o) (kb : ∀ (s_0 : Int) (s_1 : hS), o = .inl (s_0, s_1) → ∀ w', ∀ (y2 y3 : Option hO), rg s_0 → Abs s_1 w' → hG d 299 126 [some (vr 395), some (vi s_0), y2, y3, z4] [] w' Q) (ke : ∀ (x_0 : hS), o = .inr (x_0) → ∀ w', ∀ (y1 y2 y3 : Option hO), Abs x_0 w' → hG d 299 205 [some (vr 395), y1, y2, y3, z4] [] w' Q) : hG d 299 199 [some (vr 395), some (vi l1), z2, z3, z4] [] w Q := by
  unfold c299_j199 at e
  refine hg_run 2 (pc' := 126) (ls' := [some (vr 395), some (vi (wadd l1 1)), z2, z3, z4]) (st' := []) rfl ?_
  cases e
  exact kb (wadd l1 1) h rfl _ _ _ (rg_add _ _) A
def c299_j192 (l1 : Int) (l3 : Int) (h : hS) : Option ((Int × hS) ⊕ (hS)) :=
  (wIs h 404 40 l1 l3).bind (fun h26 =>
  c299_j199 l1 h26)
set_option maxRecDepth 100000 in
theorem t299_j192 {d : Nat} (hd : 5 ≤ d) {l1 : Int} {l3 : Int} {z2 : Option hO} {z4 : Option hO} {h : hS} {w : mmW} {o : (Int × hS) ⊕ (hS)} {Q : mmO → Prop} (rl1 : rg l1) (rl3 : rg l3) (A : Abs h w) (e : c299_j192 l1 l3 h = some o) (kb : ∀ (s_0 : Int) (s_1 : hS), o = .inl (s_0, s_1) → ∀ w', ∀ (y2 y3 : Option hO), rg s_0 → Abs s_1 w' → hG d 299 126 [some (vr 395), some (vi s_0), y2, y3, z4] [] w' Q) (ke : ∀ (x_0 : hS), o = .inr (x_0) → ∀ w', ∀ (y1 y2 y3 : Option hO), Abs x_0 w' → hG d 299 205 [some (vr 395), y1, y2, y3, z4] [] w' Q) : hG d 299 192 [some (vr 395), some (vi l1), z2, some (vi l3), z4] [] w Q := by
  unfold c299_j192 at e
  refine hg_run 1 (pc' := 193) (ls' := [some (vr 395), some (vi l1), z2, some (vi l3), z4]) (st' := [vR 395]) rfl ?_
  refine gs_395_35 rfl A ?_
  refine hg_run 2 (pc' := 198) (ls' := [some (vr 395), some (vi l1), z2, some (vi l3), z4]) (st' := [vI l3, vI l1, vR 404]) rfl ?_
  obtain ⟨h26, e26, e⟩ := ob e
  refine hg_wIs rfl A (Abs_ks A (i := 32) rfl) (by decide) rl3 e26 (fun w26 A26 => ?_)
  exact t299_j199 hd rl1 A26 e kb ke
def c299_b126 (l1 : Int) (h : hS) : Option ((Int × hS) ⊕ (hS)) :=
  if (hI h 395 33) ≤ l1 then
  some (.inr (h))
  else
  (aIs h 403 40 l1).bind (fun v19 =>
  if v19 = 0 then
  c299_j199 l1 h
  else
  (aIs h 404 40 l1).bind (fun v21 =>
  (c199 0 v21 4 h).bind (fun v22 =>
  if v22 = (-1) then
  (c290 l1 h).bind (fun h28 =>
  c299_j199 l1 h28)
  else
  (c199 0 v21 3 h).bind (fun v24 =>
  if v24 = 1 then
  (c300 l1 v21 v22 h).bind (fun h27 =>
  c299_j192 l1 v22 h27)
  else
  c299_j192 l1 v22 h))))
set_option maxRecDepth 100000 in
theorem t299_b126 {d : Nat} (hd : 5 ≤ d) {l1 : Int} {z2 : Option hO} {z3 : Option hO} {z4 : Option hO} {h : hS} {w : mmW} {o : (Int × hS) ⊕ (hS)} {Q : mmO → Prop} (rl1 : rg l1) (A : Abs h w) (e : c299_b126 l1 h = some o) (kb : ∀ (s_0 : Int) (s_1 : hS), o = .inl (s_0, s_1) → ∀ w', ∀ (y2 y3 : Option hO), rg s_0 → Abs s_1 w' → hG d 299 126 [some (vr 395), some (vi s_0), y2, y3, z4] [] w' Q) (ke : ∀ (x_0 : hS), o = .inr (x_0) → ∀ w', ∀ (y1 y2 y3 : Option hO), Abs x_0 w' → hG d 299 205 [some (vr 395), y1, y2, y3, z4] [] w' Q) : hG d 299 126 [some (vr 395), some (vi l1), z2, z3, z4] [] w Q := by
  unfold c299_b126 at e
  refine hg_run 2 (pc' := 128) (ls' := [some (vr 395), some (vi l1), z2, z3, z4]) (st' := [vR 395, vI l1]) rfl ?_
  refine gs_395_33 rfl A ?_
  rcases oi e with ⟨q18, e⟩ | ⟨q18, e⟩
  · refine hg_icT (tgt := 205) rfl (by decide) rl1 (Abs_rg A 395 33) q18 ?_
    cases e
    exact ke h rfl _ _ _ _  A
  · refine hg_icF (tgt := 205) rfl (by decide) rl1 (Abs_rg A 395 33) q18 ?_
    refine hg_run 1 (pc' := 135) (ls' := [some (vr 395), some (vi l1), z2, z3, z4]) (st' := [vR 395]) rfl ?_
    refine gs_395_34 rfl A ?_
    refine hg_run 1 (pc' := 139) (ls' := [some (vr 395), some (vi l1), z2, z3, z4]) (st' := [vI l1, vR 403]) rfl ?_
    obtain ⟨v19, e19, e⟩ := ob e
    refine hg_aIs 1 rfl (fun _ _ _ _ => rfl) A (Abs_ks A (i := 31) rfl) rfl (by decide) e19 (fun r19 => ?_)
    rcases oi e with ⟨q20, e⟩ | ⟨q20, e⟩
    · refine hg_ifF (tgt := 146) rfl (by decide) r19 (show ¬ ¬ (v19 = 0) from fun f => f q20) ?_
      refine hg_run 1 (pc' := 199) (ls' := [some (vr 395), some (vi l1), z2, z3, z4]) (st' := []) rfl ?_
      exact t299_j199 hd rl1 A e kb ke
    · refine hg_ifT (tgt := 146) rfl (by decide) r19 (show ¬ (v19 = 0) from q20) ?_
      refine hg_run 1 (pc' := 147) (ls' := [some (vr 395), some (vi l1), z2, z3, z4]) (st' := [vR 395]) rfl ?_
      refine gs_395_35 rfl A ?_
      refine hg_run 1 (pc' := 151) (ls' := [some (vr 395), some (vi l1), z2, z3, z4]) (st' := [vI l1, vR 404]) rfl ?_
      obtain ⟨v21, e21, e⟩ := ob e
      refine hg_aIs 0 rfl (fun _ _ _ _ => rfl) A (Abs_ks A (i := 32) rfl) rfl (by decide) e21 (fun r21 => ?_)
      refine hg_run 5 (pc' := 157) (ls' := [some (vr 395), some (vi l1), some (vi v21), z3, z4]) (st' := [vI 4, vI v21, vI 0, vR 395]) rfl ?_
      obtain ⟨v22, e22, e⟩ := ob e
      refine hg_cIp (as := [vR 395, vI 0, vI v21, vI 4]) (st' := []) rfl (fun _ _ _ _ => rfl) rfl rfl (Nat.le_of_ble_eq_true rfl) (Nat.le_of_ble_eq_true rfl) (recvV A (a := 13) (Abs_ks A (i := 23) rfl).1) (t199 (by omega) A (rgn 0 rfl) r21 (rgn 4 rfl) e22) (fun r22 => ?_)
      refine hg_run 3 (pc' := 163) (ls' := [some (vr 395), some (vi l1), some (vi v21), some (vi v22), z4]) (st' := [vI (-1), vI v22]) rfl ?_
      rcases oi e with ⟨q23, e⟩ | ⟨q23, e⟩
      · refine hg_icF (tgt := 174) rfl (by decide) r22 (rgn (-1) rfl) (show ¬ ¬ (v22 = (-1)) from fun f => f q23) ?_
        refine hg_run 2 (pc' := 168) (ls' := [some (vr 395), some (vi l1), some (vi v21), some (vi v22), z4]) (st' := [vI l1, vR 395]) rfl ?_
        obtain ⟨h28, e28, e⟩ := ob e
        refine hg_cV (as := [vR 395, vI l1]) (st' := []) rfl (fun _ _ _ _ => rfl) rfl rfl (Nat.le_of_ble_eq_true rfl) (Nat.le_of_ble_eq_true rfl) (recvV A (a := 13) (Abs_ks A (i := 23) rfl).1) (t290 (by omega) A rl1 e28) (fun w28 A28 => ?_)
        refine hg_run 1 (pc' := 199) (ls' := [some (vr 395), some (vi l1), some (vi v21), some (vi v22), z4]) (st' := []) rfl ?_
        exact t299_j199 hd rl1 A28 e kb ke
      · refine hg_icT (tgt := 174) rfl (by decide) r22 (rgn (-1) rfl) (show ¬ (v22 = (-1)) from q23) ?_
        refine hg_run 4 (pc' := 178) (ls' := [some (vr 395), some (vi l1), some (vi v21), some (vi v22), z4]) (st' := [vI 3, vI v21, vI 0, vR 395]) rfl ?_
        obtain ⟨v24, e24, e⟩ := ob e
        refine hg_cIp (as := [vR 395, vI 0, vI v21, vI 3]) (st' := []) rfl (fun _ _ _ _ => rfl) rfl rfl (Nat.le_of_ble_eq_true rfl) (Nat.le_of_ble_eq_true rfl) (recvV A (a := 13) (Abs_ks A (i := 23) rfl).1) (t199 (by omega) A (rgn 0 rfl) r21 (rgn 3 rfl) e24) (fun r24 => ?_)
        refine hg_run 1 (pc' := 182) (ls' := [some (vr 395), some (vi l1), some (vi v21), some (vi v22), z4]) (st' := [vI 1, vI v24]) rfl ?_
        rcases oi e with ⟨q25, e⟩ | ⟨q25, e⟩
        · refine hg_icF (tgt := 192) rfl (by decide) r24 (rgn 1 rfl) (show ¬ ¬ (v24 = 1) from fun f => f q25) ?_
          refine hg_run 4 (pc' := 189) (ls' := [some (vr 395), some (vi l1), some (vi v21), some (vi v22), z4]) (st' := [vI v22, vI v21, vI l1, vR 395]) rfl ?_
          obtain ⟨h27, e27, e⟩ := ob e
          refine hg_cV (as := [vR 395, vI l1, vI v21, vI v22]) (st' := []) rfl (fun _ _ _ _ => rfl) rfl rfl (Nat.le_of_ble_eq_true rfl) (Nat.le_of_ble_eq_true rfl) (recvV A (a := 13) (Abs_ks A (i := 23) rfl).1) (t300 (by omega) A rl1 r21 r22 e27) (fun w27 A27 => ?_)
          exact t299_j192 hd rl1 r22 A27 e kb ke
        · refine hg_icT (tgt := 192) rfl (by decide) r24 (rgn 1 rfl) (show ¬ (v24 = 1) from q25) ?_
          exact t299_j192 hd rl1 r22 A e kb ke
set_option maxRecDepth 100000 in
theorem t299_l126 {d : Nat} (hd : 5 ≤ d)  {z4 : Option hO} {Q : mmO → Prop}  (n : Nat) {l1 : Int} {z2 z3 : Option hO} {h : hS} {w : mmW} {r : hS} (rl1 : rg l1) (A : Abs h w) (e : lp (fun s => c299_b126  s.1 s.2) n (l1, h) = some r) (ke : ∀ (x_0 : hS), r = (x_0) → ∀ w', ∀ (y1 y2 y3 : Option hO), Abs x_0 w' → hG d 299 205 [some (vr 395), y1, y2, y3, z4] [] w' Q) : hG d 299 126 [some (vr 395), some (vi l1), z2, z3, z4] [] w Q := by
  induction n generalizing l1 z2 z3 h w with
  | zero => cases e
  | succ n ih =>
    rcases lp_succ e with ⟨s1, e1, e2⟩ | e1
    · exact t299_b126 hd rl1 A e1 (fun s_0 s_1 q w1 y2 y3 rl1 A1 => by cases q; exact ih rl1 A1 e2) (fun x_0 q => by cases q)
    · exact t299_b126 hd rl1 A e1 (fun s_0 s_1 q => by cases q) (fun x_0 q => by cases q; exact ke _ rfl)
def c299 (h : hS) : Option (Int × hS) :=
  if (hI h 395 29) = (-1) then
  some (0, h)
  else
  if (hI h 395 28) = (-1) then
  (c226 2 1 h).bind (fun h3 =>
  (lp (fun s => c299_b26  s.1 s.2) hF0 (0, h3)).bind (fun r17 =>
  (lp (fun s => c299_b126  s.1 s.2) hF0 (0, r17)).bind (fun r29 =>
  (c226 1 0 r29).bind (fun h30 =>
  (wIs h30 402 6 (hI h30 395 29) 5).bind (fun h31 =>
  (some (sI h31 395 29 (-1))).bind (fun h32 =>
  some (1, h32)))))))
  else
  some (0, h)
set_option maxRecDepth 100000 in
theorem t299 {d : Nat} (hd : 6 ≤ d)  {h : hS} {w : mmW} {o : Int × hS} (A : Abs h w)  (e : c299 h = some o) : hEv d 299 [vR 395] w (qI o) := by
  obtain ⟨d, rfl⟩ : ∃ d1, d = d1 + 1 := ⟨d - 1, by omega⟩
  have hd : 5 ≤ d := by omega
  refine hEv_start (args := [vr 395]) (nl := 5) rfl (Nat.le_of_ble_eq_true rfl) ?_
  show hG d 299 0 [some (vr 395), none, none, none, none] [] w _
  have kr : ∀ (v1 : Int) (h1 : hS), o = (v1, h1) → ∀ w', rg v1 → Abs h1 w' → qI o (some (.int (Int32.ofInt v1)), w') := fun v1 h1 q w' r A' => by cases q; exact ⟨rfl, r, A'⟩
  unfold c299 at e
  refine hg_run 1 (pc' := 1) (ls' := [some (vr 395), none, none, none, none]) (st' := [vR 395]) rfl ?_
  refine gs_395_29 rfl A ?_
  refine hg_run 1 (pc' := 5) (ls' := [some (vr 395), none, none, none, none]) (st' := [vI (-1), vI (hI h 395 29)]) rfl ?_
  rcases oi e with ⟨q1, e⟩ | ⟨q1, e⟩
  · refine hg_icT (tgt := 16) rfl (by decide) (Abs_rg A 395 29) (rgn (-1) rfl) q1 ?_
    refine hg_run 1 (pc' := 17) (ls' := [some (vr 395), none, none, none, none]) (st' := [vI 0]) rfl ?_
    cases e
    exact hg_retI rfl (by decide) (fit_B (.inl rfl)) (kr _ _ rfl _ (rgn 0 rfl) A)
  · refine hg_icF (tgt := 16) rfl (by decide) (Abs_rg A 395 29) (rgn (-1) rfl) q1 ?_
    refine hg_run 1 (pc' := 9) (ls' := [some (vr 395), none, none, none, none]) (st' := [vR 395]) rfl ?_
    refine gs_395_28 rfl A ?_
    refine hg_run 1 (pc' := 13) (ls' := [some (vr 395), none, none, none, none]) (st' := [vI (-1), vI (hI h 395 28)]) rfl ?_
    rcases oi e with ⟨q2, e⟩ | ⟨q2, e⟩
    · refine hg_icT (tgt := 18) rfl (by decide) (Abs_rg A 395 28) (rgn (-1) rfl) q2 ?_
      refine hg_run 3 (pc' := 21) (ls' := [some (vr 395), none, none, none, none]) (st' := [vI 1, vI 2, vR 395]) rfl ?_
      obtain ⟨h3, e3, e⟩ := ob e
      refine hg_cV (as := [vR 395, vI 2, vI 1]) (st' := []) rfl (fun _ _ _ _ => rfl) rfl rfl (Nat.le_of_ble_eq_true rfl) (Nat.le_of_ble_eq_true rfl) (recvV A (a := 13) (Abs_ks A (i := 23) rfl).1) (t226 (by omega) A (rgn 2 rfl) (rgn 1 rfl) e3) (fun w3 A3 => ?_)
      refine hg_run 2 (pc' := 26) (ls' := [some (vr 395), some (vi 0), none, none, none]) (st' := []) rfl ?_
      obtain ⟨r17, e17, e⟩ := ob e
      refine t299_l26 hd  _ (rgn 0 rfl) A3 e17 ?_
      intro x17_0 qq17 w17 z17_1 z17_2 z17_3 z17_4 A17
      subst qq17
      refine hg_run 2 (pc' := 126) (ls' := [some (vr 395), some (vi 0), z17_2, z17_3, z17_4]) (st' := []) rfl ?_
      obtain ⟨r29, e29, e⟩ := ob e
      refine t299_l126 hd  _ (rgn 0 rfl) A17 e29 ?_
      intro x29_0 qq29 w29 z29_1 z29_2 z29_3 A29
      subst qq29
      refine hg_run 3 (pc' := 208) (ls' := [some (vr 395), z29_1, z29_2, z29_3, z17_4]) (st' := [vI 0, vI 1, vR 395]) rfl ?_
      obtain ⟨h30, e30, e⟩ := ob e
      refine hg_cV (as := [vR 395, vI 1, vI 0]) (st' := []) rfl (fun _ _ _ _ => rfl) rfl rfl (Nat.le_of_ble_eq_true rfl) (Nat.le_of_ble_eq_true rfl) (recvV A29 (a := 13) (Abs_ks A29 (i := 23) rfl).1) (t226 (by omega) A29 (rgn 1 rfl) (rgn 0 rfl) e30) (fun w30 A30 => ?_)
      refine hg_run 1 (pc' := 212) (ls' := [some (vr 395), z29_1, z29_2, z29_3, z17_4]) (st' := [vR 395]) rfl ?_
      refine gs_395_32 rfl A30 ?_
      refine hg_run 1 (pc' := 216) (ls' := [some (vr 395), z29_1, z29_2, z29_3, z17_4]) (st' := [vR 395, vR 402]) rfl ?_
      refine gs_395_29 rfl A30 ?_
      refine hg_run 1 (pc' := 220) (ls' := [some (vr 395), z29_1, z29_2, z29_3, z17_4]) (st' := [vI 5, vI (hI h30 395 29), vR 402]) rfl ?_
      obtain ⟨h31, e31, e⟩ := ob e
      refine hg_wIs rfl A30 (Abs_ks A30 (i := 30) rfl) (by decide) (rgn 5 rfl) e31 (fun w31 A31 => ?_)
      refine hg_run 2 (pc' := 223) (ls' := [some (vr 395), z29_1, z29_2, z29_3, z17_4]) (st' := [vI (-1), vR 395]) rfl ?_
      obtain ⟨h32, e32, e⟩ := ob e
      refine ps_395_29 rfl A31 (rgn (-1) rfl) e32 (fun w32 A32 => ?_)
      refine hg_run 1 (pc' := 227) (ls' := [some (vr 395), z29_1, z29_2, z29_3, z17_4]) (st' := [vI 1]) rfl ?_
      cases e
      exact hg_retI rfl (by decide) (fit_B (.inr rfl)) (kr _ _ rfl _ (rgn 1 rfl) A32)
    · refine hg_icF (tgt := 18) rfl (by decide) (Abs_rg A 395 28) (rgn (-1) rfl) q2 ?_
      refine hg_run 1 (pc' := 17) (ls' := [some (vr 395), none, none, none, none]) (st' := [vI 0]) rfl ?_
      cases e
      exact hg_retI rfl (by decide) (fit_B (.inl rfl)) (kr _ _ rfl _ (rgn 0 rfl) A)
