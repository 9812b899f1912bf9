/-! read as functions: laid by wip/whole/shallow.py -/
def c21_b3 (l1 : Int) (l2 : Int) (h : hS) : Option ((Int × hS) ⊕ (hS)) :=
  if l2 < 0 then
  some (.inr (h))
  else
  if 1000 ≤ (hI h 9 1) then
  some (.inr (h))
  else
  (wIs h 10 1000 (hI h 9 1) (wand (wushr l1 l2) 255)).bind (fun h3 =>
  (some (sI h3 9 1 (wadd (hI h3 9 1) 1))).bind (fun h4 =>
  some (.inl ((wadd l2 (-8)), h4))))
theorem t21_b3 {d : Nat} (hd : 0 ≤ d) {l1 : Int} {l2 : Int}  {h : hS} {w : mmW} {o : (Int × hS) ⊕ (hS)} {Q : mmO → Prop} (rl1 : rg l1) (rl2 : rg l2) (A : Abs h w) (e : c21_b3 l1 l2 h = some o) (kb : ∀ (s_0 : Int) (s_1 : hS), o = .inl (s_0, s_1) → ∀ w', rg s_0 → Abs s_1 w' → hG d 21 3 [some (vr 9), some (vi l1), some (vi s_0)] [] w' Q) (ke : ∀ (x_0 : hS), o = .inr (x_0) → ∀ w', ∀ (y2 : Option hO), Abs x_0 w' → hG d 21 49 [some (vr 9), some (vi l1), y2] [] w' Q) : hG d 21 3 [some (vr 9), some (vi l1), some (vi l2)] [] w Q := by
  unfold c21_b3 at e
  refine hg_run 1 (pc' := 4) (ls' := [some (vr 9), some (vi l1), some (vi l2)]) (st' := [vI l2]) rfl ?_
  rcases oi e with ⟨q1, e⟩ | ⟨q1, e⟩
  · refine hg_ifT (tgt := 49) rfl (by decide) rl2 q1 ?_
    cases e
    exact ke h rfl _ _  A
  · refine hg_ifF (tgt := 49) rfl (by decide) rl2 q1 ?_
    refine hg_run 1 (pc' := 8) (ls' := [some (vr 9), some (vi l1), some (vi l2)]) (st' := [vR 9]) rfl ?_
    refine gs_9_1 rfl A ?_
    refine hg_run 1 (pc' := 14) (ls' := [some (vr 9), some (vi l1), some (vi l2)]) (st' := [vI 1000, vI (hI h 9 1)]) rfl ?_
    rcases oi e with ⟨q2, e⟩ | ⟨q2, e⟩
    · refine hg_icT (tgt := 49) rfl (by decide) (Abs_rg A 9 1) (rgn 1000 rfl) q2 ?_
      cases e
      exact ke h rfl _ _  A
    · refine hg_icF (tgt := 49) rfl (by decide) (Abs_rg A 9 1) (rgn 1000 rfl) q2 ?_
      refine hg_run 1 (pc' := 18) (ls' := [some (vr 9), some (vi l1), some (vi l2)]) (st' := [vR 9]) rfl ?_
      refine gs_9_0 rfl A ?_
      refine hg_run 1 (pc' := 22) (ls' := [some (vr 9), some (vi l1), some (vi l2)]) (st' := [vR 9, vR 10]) rfl ?_
      refine gs_9_1 rfl A ?_
      refine hg_run 5 (pc' := 32) (ls' := [some (vr 9), some (vi l1), some (vi l2)]) (st' := [vI (wand (wushr l1 l2) 255), vI (hI h 9 1), vR 10]) rfl ?_
      obtain ⟨h3, e3, e⟩ := ob e
      refine hg_wIs rfl A (Abs_ks A (i := 2) rfl) (by decide) (rg_and _ _) e3 (fun w3 A3 => ?_)
      refine hg_run 2 (pc' := 35) (ls' := [some (vr 9), some (vi l1), some (vi l2)]) (st' := [vR 9, vR 9]) rfl ?_
      refine gs_9_1 rfl A3 ?_
      refine hg_run 2 (pc' := 40) (ls' := [some (vr 9), some (vi l1), some (vi l2)]) (st' := [vI (wadd (hI h3 9 1) 1), vR 9]) rfl ?_
      obtain ⟨h4, e4, e⟩ := ob e
      refine ps_9_1 rfl A3 (rg_add _ _) e4 (fun w4 A4 => ?_)
      refine hg_run 2 (pc' := 3) (ls' := [some (vr 9), some (vi l1), some (vi (wadd l2 (-8)))]) (st' := []) rfl ?_
      cases e
      exact kb (wadd l2 (-8)) h4 rfl _ (rg_add _ _) A4
theorem t21_l3 {d : Nat} (hd : 0 ≤ d) {l1 : Int}  {Q : mmO → Prop} (rl1 : rg l1) (n : Nat) {l2 : Int}  {h : hS} {w : mmW} {r : hS} (rl2 : rg l2) (A : Abs h w) (e : lp (fun s => c21_b3 l1 s.1 s.2) n (l2, h) = some r) (ke : ∀ (x_0 : hS), r = (x_0) → ∀ w', ∀ (y2 : Option hO), Abs x_0 w' → hG d 21 49 [some (vr 9), some (vi l1), y2] [] w' Q) : hG d 21 3 [some (vr 9), some (vi l1), some (vi l2)] [] w Q := by
  induction n generalizing l2 h w with
  | zero => cases e
  | succ n ih =>
    rcases lp_succ e with ⟨s1, e1, e2⟩ | e1
    · exact t21_b3 hd rl1 rl2 A e1 (fun s_0 s_1 q w1 rl2 A1 => by cases q; exact ih rl2 A1 e2) (fun x_0 q => by cases q)
    · exact t21_b3 hd rl1 rl2 A e1 (fun s_0 s_1 q => by cases q) (fun x_0 q => by cases q; exact ke _ rfl)
def c21 (l1 : Int) (h : hS) : Option (hS) :=
  (lp (fun s => c21_b3 l1 s.1 s.2) hF0 (24, h)).bind (fun r5 =>
  some r5)
theorem t21 {d : Nat} (hd : 1 ≤ d) {l1 : Int} {h : hS} {w : mmW} {o : hS} (A : Abs h w) (rl1 : rg l1) (e : c21 l1 h = some o) : hEv d 21 [vR 9, vI l1] w (qV o) := by
  obtain ⟨d, rfl⟩ : ∃ d1, d = d1 + 1 := ⟨d - 1, by omega⟩
  have hd : 0 ≤ d := by omega
  refine hEv_start (args := [vr 9, vi l1]) (nl := 3) rfl (Nat.le_of_ble_eq_true rfl) ?_
  show hG d 21 0 [some (vr 9), some (vi l1), none] [] w _
  have kr : ∀ h1 : hS, o = h1 → ∀ w', Abs h1 w' → qV o (none, w') := fun h1 q w' A' => by cases q; exact ⟨rfl, A'⟩
  unfold c21 at e
  refine hg_run 2 (pc' := 3) (ls' := [some (vr 9), some (vi l1), some (vi 24)]) (st' := []) rfl ?_
  obtain ⟨r5, e5, e⟩ := ob e
  refine t21_l3 hd rl1 _ (rgn 24 rfl) A e5 ?_
  intro x5_0 qq5 w5 z5_2 A5
  subst qq5
  cases e
  exact hg_retV rfl (kr _ rfl _ A5)
def c20 (l1 : Int) (l2 : Int) (l3 : Int) (l4 : Int) (l5 : Int) (h : hS) : Option (Int × hS) :=
  if (wadd (hI h 9 1) 20) ≤ 1000 then
  (c21 l1 h).bind (fun h2 =>
  (c21 l2 h2).bind (fun h3 =>
  (c21 l3 h3).bind (fun h4 =>
  (c21 l4 h4).bind (fun h5 =>
  (c21 l5 h5).bind (fun h6 =>
  some ((hI h6 9 1), h6))))))
  else
  some ((-1), h)
theorem t20 {d : Nat} (hd : 2 ≤ d) {l1 : Int} {l2 : Int} {l3 : Int} {l4 : Int} {l5 : Int} {h : hS} {w : mmW} {o : Int × hS} (A : Abs h w) (rl1 : rg l1) (rl2 : rg l2) (rl3 : rg l3) (rl4 : rg l4) (rl5 : rg l5) (e : c20 l1 l2 l3 l4 l5 h = some o) : hEv d 20 [vR 8, vI l1, vI l2, vI l3, vI l4, vI l5] w (qI o) := by
  obtain ⟨d, rfl⟩ : ∃ d1, d = d1 + 1 := ⟨d - 1, by omega⟩
  have hd : 1 ≤ d := by omega
  refine hEv_start (args := [vr 8, vi l1, vi l2, vi l3, vi l4, vi l5]) (nl := 6) rfl (Nat.le_of_ble_eq_true rfl) ?_
  show hG d 20 0 [some (vr 8), some (vi l1), some (vi l2), some (vi l3), some (vi l4), some (vi l5)] [] w _
  have kr : ∀ (v1 : Int) (h1 : hS), o = (v1, h1) → ∀ w', rg v1 → Abs h1 w' → qI o (some (.int (Int32.ofInt v1)), w') := fun v1 h1 q w' r A' => by cases q; exact ⟨rfl, r, A'⟩
  unfold c20 at e
  refine hg_run 1 (pc' := 1) (ls' := [some (vr 8), some (vi l1), some (vi l2), some (vi l3), some (vi l4), some (vi l5)]) (st' := [vR 8]) rfl ?_
  refine gs_8_0 rfl A ?_
  refine gs_9_1 rfl A ?_
  refine hg_run 3 (pc' := 13) (ls' := [some (vr 8), some (vi l1), some (vi l2), some (vi l3), some (vi l4), some (vi l5)]) (st' := [vI 1000, vI (wadd (hI h 9 1) 20)]) rfl ?_
  rcases oi e with ⟨q1, e⟩ | ⟨q1, e⟩
  · refine hg_icT (tgt := 18) rfl (by decide) (rg_add _ _) (rgn 1000 rfl) q1 ?_
    refine hg_run 1 (pc' := 19) (ls' := [some (vr 8), some (vi l1), some (vi l2), some (vi l3), some (vi l4), some (vi l5)]) (st' := [vR 8]) rfl ?_
    refine gs_8_0 rfl A ?_
    refine hg_run 1 (pc' := 23) (ls' := [some (vr 8), some (vi l1), some (vi l2), some (vi l3), some (vi l4), some (vi l5)]) (st' := [vI l1, vR 9]) rfl ?_
    obtain ⟨h2, e2, e⟩ := ob e
    refine hg_cV (as := [vR 9, vI l1]) (st' := []) rfl (fun _ _ _ _ => rfl) rfl rfl (Nat.le_of_ble_eq_true rfl) (Nat.le_of_ble_eq_true rfl) (recvV A (a := 1) (Abs_ks A (i := 1) rfl).1) (t21 (by omega) A rl1 e2) (fun w2 A2 => ?_)
    refine hg_run 1 (pc' := 27) (ls' := [some (vr 8), some (vi l1), some (vi l2), some (vi l3), some (vi l4), some (vi l5)]) (st' := [vR 8]) rfl ?_
    refine gs_8_0 rfl A2 ?_
    refine hg_run 1 (pc' := 31) (ls' := [some (vr 8), some (vi l1), some (vi l2), some (vi l3), some (vi l4), some (vi l5)]) (st' := [vI l2, vR 9]) rfl ?_
    obtain ⟨h3, e3, e⟩ := ob e
    refine hg_cV (as := [vR 9, vI l2]) (st' := []) rfl (fun _ _ _ _ => rfl) rfl rfl (Nat.le_of_ble_eq_true rfl) (Nat.le_of_ble_eq_true rfl) (recvV A2 (a := 1) (Abs_ks A2 (i := 1) rfl).1) (t21 (by omega) A2 rl2 e3) (fun w3 A3 => ?_)
    refine hg_run 1 (pc' := 35) (ls' := [some (vr 8), some (vi l1), some (vi l2), some (vi l3), some (vi l4), some (vi l5)]) (st' := [vR 8]) rfl ?_
    refine gs_8_0 rfl A3 ?_
    refine hg_run 1 (pc' := 39) (ls' := [some (vr 8), some (vi l1), some (vi l2), some (vi l3), some (vi l4), some (vi l5)]) (st' := [vI l3, vR 9]) rfl ?_
    obtain ⟨h4, e4, e⟩ := ob e
    refine hg_cV (as := [vR 9, vI l3]) (st' := []) rfl (fun _ _ _ _ => rfl) rfl rfl (Nat.le_of_ble_eq_true rfl) (Nat.le_of_ble_eq_true rfl) (recvV A3 (a := 1) (Abs_ks A3 (i := 1) rfl).1) (t21 (by omega) A3 rl3 e4) (fun w4 A4 => ?_)
    refine hg_run 1 (pc' := 43) (ls' := [some (vr 8), some (vi l1), some (vi l2), some (vi l3), some (vi l4), some (vi l5)]) (st' := [vR 8]) rfl ?_
    refine gs_8_0 rfl A4 ?_
    refine hg_run 1 (pc' := 48) (ls' := [some (vr 8), some (vi l1), some (vi l2), some (vi l3), some (vi l4), some (vi l5)]) (st' := [vI l4, vR 9]) rfl ?_
    obtain ⟨h5, e5, e⟩ := ob e
    refine hg_cV (as := [vR 9, vI l4]) (st' := []) rfl (fun _ _ _ _ => rfl) rfl rfl (Nat.le_of_ble_eq_true rfl) (Nat.le_of_ble_eq_true rfl) (recvV A4 (a := 1) (Abs_ks A4 (i := 1) rfl).1) (t21 (by omega) A4 rl4 e5) (fun w5 A5 => ?_)
    refine hg_run 1 (pc' := 52) (ls' := [some (vr 8), some (vi l1), some (vi l2), some (vi l3), some (vi l4), some (vi l5)]) (st' := [vR 8]) rfl ?_
    refine gs_8_0 rfl A5 ?_
    refine hg_run 1 (pc' := 57) (ls' := [some (vr 8), some (vi l1), some (vi l2), some (vi l3), some (vi l4), some (vi l5)]) (st' := [vI l5, vR 9]) rfl ?_
    obtain ⟨h6, e6, e⟩ := ob e
    refine hg_cV (as := [vR 9, vI l5]) (st' := []) rfl (fun _ _ _ _ => rfl) rfl rfl (Nat.le_of_ble_eq_true rfl) (Nat.le_of_ble_eq_true rfl) (recvV A5 (a := 1) (Abs_ks A5 (i := 1) rfl).1) (t21 (by omega) A5 rl5 e6) (fun w6 A6 => ?_)
    refine hg_run 1 (pc' := 61) (ls' := [some (vr 8), some (vi l1), some (vi l2), some (vi l3), some (vi l4), some (vi l5)]) (st' := [vR 8]) rfl ?_
    refine gs_8_0 rfl A6 ?_
    refine gs_9_1 rfl A6 ?_
    cases e
    exact hg_retI rfl (by decide) (fit_I _) (kr _ _ rfl _ (Abs_rg A6 9 1) A6)
  · refine hg_icF (tgt := 18) rfl (by decide) (rg_add _ _) (rgn 1000 rfl) q1 ?_
    refine hg_run 1 (pc' := 17) (ls' := [some (vr 8), some (vi l1), some (vi l2), some (vi l3), some (vi l4), some (vi l5)]) (st' := [vI (-1)]) rfl ?_
    cases e
    exact hg_retI rfl (by decide) (fit_I _) (kr _ _ rfl _ (rgn (-1) rfl) A)
def c22 (l1 : Int) (h : hS) : Option (Int × hS) :=
  if l1 < 0 then
  some (0, h)
  else
  if l1 ≤ (hI h 9 1) then
  (some (sI h 9 1 l1)).bind (fun h3 =>
  some (1, h3))
  else
  some (0, h)
theorem t22 {d : Nat} (hd : 1 ≤ d) {l1 : Int} {h : hS} {w : mmW} {o : Int × hS} (A : Abs h w) (rl1 : rg l1) (e : c22 l1 h = some o) : hEv d 22 [vR 8, vI l1] w (qI o) := by
  obtain ⟨d, rfl⟩ : ∃ d1, d = d1 + 1 := ⟨d - 1, by omega⟩
  have hd : 0 ≤ d := by omega
  refine hEv_start (args := [vr 8, vi l1]) (nl := 2) rfl (Nat.le_of_ble_eq_true rfl) ?_
  show hG d 22 0 [some (vr 8), some (vi l1)] [] w _
  have kr : ∀ (v1 : Int) (h1 : hS), o = (v1, h1) → ∀ w', rg v1 → Abs h1 w' → qI o (some (.int (Int32.ofInt v1)), w') := fun v1 h1 q w' r A' => by cases q; exact ⟨rfl, r, A'⟩
  unfold c22 at e
  refine hg_run 1 (pc' := 1) (ls' := [some (vr 8), some (vi l1)]) (st' := [vI l1]) rfl ?_
  rcases oi e with ⟨q1, e⟩ | ⟨q1, e⟩
  · refine hg_ifT (tgt := 15) rfl (by decide) rl1 q1 ?_
    refine hg_run 1 (pc' := 16) (ls' := [some (vr 8), some (vi l1)]) (st' := [vI 0]) rfl ?_
    cases e
    exact hg_retI rfl (by decide) (fit_B (.inl rfl)) (kr _ _ rfl _ (rgn 0 rfl) A)
  · refine hg_ifF (tgt := 15) rfl (by decide) rl1 q1 ?_
    refine hg_run 2 (pc' := 6) (ls' := [some (vr 8), some (vi l1)]) (st' := [vR 8, vI l1]) rfl ?_
    refine gs_8_0 rfl A ?_
    refine gs_9_1 rfl A ?_
    rcases oi e with ⟨q2, e⟩ | ⟨q2, e⟩
    · refine hg_icT (tgt := 17) rfl (by decide) rl1 (Abs_rg A 9 1) q2 ?_
      refine hg_run 1 (pc' := 18) (ls' := [some (vr 8), some (vi l1)]) (st' := [vR 8]) rfl ?_
      refine gs_8_0 rfl A ?_
      refine hg_run 1 (pc' := 22) (ls' := [some (vr 8), some (vi l1)]) (st' := [vI l1, vR 9]) rfl ?_
      obtain ⟨h3, e3, e⟩ := ob e
      refine ps_9_1 rfl A rl1 e3 (fun w3 A3 => ?_)
      refine hg_run 1 (pc' := 26) (ls' := [some (vr 8), some (vi l1)]) (st' := [vI 1]) rfl ?_
      cases e
      exact hg_retI rfl (by decide) (fit_B (.inr rfl)) (kr _ _ rfl _ (rgn 1 rfl) A3)
    · refine hg_icF (tgt := 17) rfl (by decide) rl1 (Abs_rg A 9 1) q2 ?_
      refine hg_run 1 (pc' := 16) (ls' := [some (vr 8), some (vi l1)]) (st' := [vI 0]) rfl ?_
      cases e
      exact hg_retI rfl (by decide) (fit_B (.inl rfl)) (kr _ _ rfl _ (rgn 0 rfl) A)
def c27 (l0 : Int) (h : hS) : Option (Int) :=
  if l0 < 97 then
  some 0
  else
  if 122 < l0 then
  some 0
  else
  some 1
theorem t27 {d : Nat} (hd : 1 ≤ d) {l0 : Int} {h : hS} {w : mmW} {o : Int} (A : Abs h w) (rl0 : rg l0) (e : c27 l0 h = some o) : hEv d 27 [vI l0] w (qIp o w) := by
  obtain ⟨d, rfl⟩ : ∃ d1, d = d1 + 1 := ⟨d - 1, by omega⟩
  have hd : 0 ≤ d := by omega
  refine hEv_start (args := [vi l0]) (nl := 1) rfl (Nat.le_of_ble_eq_true rfl) ?_
  show hG d 27 0 [some (vi l0)] [] w _
  have kr : ∀ v1 : Int, o = v1 → rg v1 → qIp o w (some (.int (Int32.ofInt v1)), w) := fun v1 q r => by cases q; exact ⟨rfl, r⟩
  unfold c27 at e
  refine hg_run 2 (pc' := 3) (ls' := [some (vi l0)]) (st' := [vI 97, vI l0]) rfl ?_
  rcases oi e with ⟨q1, e⟩ | ⟨q1, e⟩
  · refine hg_icT (tgt := 16) rfl (by decide) rl0 (rgn 97 rfl) q1 ?_
    refine hg_run 1 (pc' := 17) (ls' := [some (vi l0)]) (st' := [vI 0]) rfl ?_
    cases e
    exact hg_retI rfl (by decide) (fit_B (.inl rfl)) (kr _ rfl (rgn 0 rfl))
  · refine hg_icF (tgt := 16) rfl (by decide) rl0 (rgn 97 rfl) q1 ?_
    refine hg_run 2 (pc' := 9) (ls' := [some (vi l0)]) (st' := [vI 122, vI l0]) rfl ?_
    rcases oi e with ⟨q2, e⟩ | ⟨q2, e⟩
    · refine hg_icT (tgt := 16) rfl (by decide) rl0 (rgn 122 rfl) q2 ?_
      refine hg_run 1 (pc' := 17) (ls' := [some (vi l0)]) (st' := [vI 0]) rfl ?_
      cases e
      exact hg_retI rfl (by decide) (fit_B (.inl rfl)) (kr _ rfl (rgn 0 rfl))
    · refine hg_icF (tgt := 16) rfl (by decide) rl0 (rgn 122 rfl) q2 ?_
      refine hg_run 2 (pc' := 17) (ls' := [some (vi l0)]) (st' := [vI 1]) rfl ?_
      cases e
      exact hg_retI rfl (by decide) (fit_B (.inr rfl)) (kr _ rfl (rgn 1 rfl))
def c9 (l0 : Int) (l1 : Int) (h : hS) : Option (Int) :=
  some (wadd (wsub (wadd (wmul l0 27) l1) 97) 1)
theorem t9 {d : Nat} (hd : 1 ≤ d) {l0 : Int} {l1 : Int} {h : hS} {w : mmW} {o : Int} (A : Abs h w) (rl0 : rg l0) (rl1 : rg l1) (e : c9 l0 l1 h = some o) : hEv d 9 [vI l0, vI l1] w (qIp o w) := by
  obtain ⟨d, rfl⟩ : ∃ d1, d = d1 + 1 := ⟨d - 1, by omega⟩
  have hd : 0 ≤ d := by omega
  refine hEv_start (args := [vi l0, vi l1]) (nl := 2) rfl (Nat.le_of_ble_eq_true rfl) ?_
  show hG d 9 0 [some (vi l0), some (vi l1)] [] w _
  have kr : ∀ v1 : Int, o = v1 → rg v1 → qIp o w (some (.int (Int32.ofInt v1)), w) := fun v1 q r => by cases q; exact ⟨rfl, r⟩
  unfold c9 at e
  refine hg_run 9 (pc' := 11) (ls' := [some (vi l0), some (vi l1)]) (st' := [vI (wadd (wsub (wadd (wmul l0 27) l1) 97) 1)]) rfl ?_
  cases e
  exact hg_retI rfl (by decide) (fit_I _) (kr _ rfl (rg_add _ _))
def c29_b2 (l0 : Nat) (l1 : Int) (l2 : Int) (h : hS) (l3 : Int) : Option ((Int) ⊕ ((Unit) ⊕ (Int))) :=
  if l1 ≤ l3 then
  some (.inr (.inl ()))
  else
  (lA h l0 1).bind (fun v2 =>
  if v2 ≤ l3 then
  some (.inr (.inl ()))
  else
  (aI h l0 1 l3).bind (fun v4 =>
  if v4 = l2 then
  some (.inr (.inr l3))
  else
  some (.inl ((wadd l3 1)))))
theorem t29_b2 {d : Nat} (hd : 0 ≤ d) {l0 : Nat} {l1 : Int} {l2 : Int} {l3 : Int}  {h : hS} {w : mmW} {o : (Int) ⊕ ((Unit) ⊕ (Int))} {Q : mmO → Prop} (rl1 : rg l1) (rl2 : rg l2) (rl3 : rg l3) (A : Abs h w) (e : c29_b2 l0 l1 l2 h l3 = some o) (kb : ∀ (s_0 : Int), o = .inl (s_0) → rg s_0 → hG d 29 2 [some (vr l0), some (vi l1), some (vi l2), some (vi s_0)] [] w Q) (ke : o = .inr (.inl ()) → ∀ (y3 : Option hO), hG d 29 28 [some (vr l0), some (vi l1), some (vi l2), y3] [] w Q) (kr : ∀ v1 : Int, o = .inr (.inr v1) → rg v1 → Q (some (.int (Int32.ofInt v1)), w)) : hG d 29 2 [some (vr l0), some (vi l1), some (vi l2), some (vi l3)] [] w Q := by
  unfold c29_b2 at e
  refine hg_run 2 (pc' := 4) (ls' := [some (vr l0), some (vi l1), some (vi l2), some (vi l3)]) (st' := [vI l1, vI l3]) rfl ?_
  rcases oi e with ⟨q1, e⟩ | ⟨q1, e⟩
  · refine hg_icT (tgt := 28) rfl (by decide) rl3 rl1 q1 ?_
    cases e
    exact ke  rfl _ 
  · refine hg_icF (tgt := 28) rfl (by decide) rl3 rl1 q1 ?_
    refine hg_run 2 (pc' := 9) (ls' := [some (vr l0), some (vi l1), some (vi l2), some (vi l3)]) (st' := [vR l0, vI l3]) rfl ?_
    obtain ⟨v2, e2, e⟩ := ob e
    refine hg_len (t := 0) rfl A (lA_e e2).1 (lA_e e2).2 (fun r2 => ?_)
    rcases oi e with ⟨q3, e⟩ | ⟨q3, e⟩
    · refine hg_icT (tgt := 28) rfl (by decide) rl3 r2 q3 ?_
      cases e
      exact ke  rfl _ 
    · refine hg_icF (tgt := 28) rfl (by decide) rl3 r2 q3 ?_
      refine hg_run 2 (pc' := 15) (ls' := [some (vr l0), some (vi l1), some (vi l2), some (vi l3)]) (st' := [vI l3, vR l0]) rfl ?_
      obtain ⟨v4, e4, e⟩ := ob e
      refine hg_aId 0 rfl (fun _ _ _ _ => rfl) A rfl (by decide) e4 (fun r4 => ?_)
      refine hg_run 1 (pc' := 17) (ls' := [some (vr l0), some (vi l1), some (vi l2), some (vi l3)]) (st' := [vI l2, vI v4]) rfl ?_
      rcases oi e with ⟨q5, e⟩ | ⟨q5, e⟩
      · refine hg_icF (tgt := 22) rfl (by decide) r4 rl2 (show ¬ ¬ (v4 = l2) from fun f => f q5) ?_
        refine hg_run 1 (pc' := 21) (ls' := [some (vr l0), some (vi l1), some (vi l2), some (vi l3)]) (st' := [vI l3]) rfl ?_
        cases e
        exact hg_retI rfl (by decide) (fit_I _) (kr _ rfl rl3)
      · refine hg_icT (tgt := 22) rfl (by decide) r4 rl2 (show ¬ (v4 = l2) from q5) ?_
        refine hg_run 2 (pc' := 2) (ls' := [some (vr l0), some (vi l1), some (vi l2), some (vi (wadd l3 1))]) (st' := []) rfl ?_
        cases e
        exact kb (wadd l3 1) rfl (rg_add _ _)
theorem t29_l2 {d : Nat} (hd : 0 ≤ d) {l0 : Nat} {l1 : Int} {l2 : Int}  {h : hS} {w : mmW} {Q : mmO → Prop} (rl1 : rg l1) (rl2 : rg l2) (n : Nat) {l3 : Int}  {r : (Unit) ⊕ (Int)} (rl3 : rg l3) (A : Abs h w) (e : lp (fun s => c29_b2 l0 l1 l2 h s) n (l3) = some r) (ke : r = .inl () → ∀ (y3 : Option hO), hG d 29 28 [some (vr l0), some (vi l1), some (vi l2), y3] [] w Q) (kr : ∀ v1 : Int, r = .inr v1 → rg v1 → Q (some (.int (Int32.ofInt v1)), w)) : hG d 29 2 [some (vr l0), some (vi l1), some (vi l2), some (vi l3)] [] w Q := by
  induction n generalizing l3 with
  | zero => cases e
  | succ n ih =>
    rcases lp_succ e with ⟨s1, e1, e2⟩ | e1
    · exact t29_b2 hd rl1 rl2 rl3 A e1 (fun s_0 q rl3 => by cases q; exact ih rl3 e2) (fun  q => by cases q) (fun v0 q => by cases q)
    · exact t29_b2 hd rl1 rl2 rl3 A e1 (fun s_0 q => by cases q) (fun  q => by cases q; exact ke  rfl) (fun v0 q => by cases q; exact kr _ rfl)
def c29 (l0 : Nat) (l1 : Int) (l2 : Int) (h : hS) : Option (Int) :=
  (lp (fun s => c29_b2 l0 l1 l2 h s) hF0 (0)).bind (fun r6 => xs r6 (fun x6 =>
  some (-1)) (fun o6 => some o6))
theorem t29 {d : Nat} (hd : 1 ≤ d) {l0 : Nat} {l1 : Int} {l2 : Int} {h : hS} {w : mmW} {o : Int} (A : Abs h w) (rl1 : rg l1) (rl2 : rg l2) (e : c29 l0 l1 l2 h = some o) : hEv d 29 [vR l0, vI l1, vI l2] w (qIp o w) := by
  obtain ⟨d, rfl⟩ : ∃ d1, d = d1 + 1 := ⟨d - 1, by omega⟩
  have hd : 0 ≤ d := by omega
  refine hEv_start (args := [vr l0, vi l1, vi l2]) (nl := 4) rfl (Nat.le_of_ble_eq_true rfl) ?_
  show hG d 29 0 [some (vr l0), some (vi l1), some (vi l2), none] [] w _
  have kr : ∀ v1 : Int, o = v1 → rg v1 → qIp o w (some (.int (Int32.ofInt v1)), w) := fun v1 q r => by cases q; exact ⟨rfl, r⟩
  unfold c29 at e
  refine hg_run 2 (pc' := 2) (ls' := [some (vr l0), some (vi l1), some (vi l2), some (vi 0)]) (st' := []) rfl ?_
  obtain ⟨r6, e6, e⟩ := ob e
  refine t29_l2 hd rl1 rl2 _ (rgn 0 rfl) A e6 ?_ ?_
  · intro  qq6 z6_3
    subst qq6
    have e := xs_l e
    refine hg_run 1 (pc' := 29) (ls' := [some (vr l0), some (vi l1), some (vi l2), z6_3]) (st' := [vI (-1)]) rfl ?_
    cases e
    exact hg_retI rfl (by decide) (fit_I _) (kr _ rfl (rgn (-1) rfl))
  · intro v6 qq6 r6
    subst qq6
    have e := xs_r e
    cases e
    exact kr _ rfl r6
def c30 (l1 : Int) (l2 : Int) (l3 : Int) (h : hS) : Option (hS) :=
  if 1001 ≤ (hI h 9 5) then
  some h
  else
  (wIs h 11 1001 (hI h 9 5) l1).bind (fun h3 =>
  (wIs h3 12 1001 (hI h3 9 5) l2).bind (fun h4 =>
  (wIs h4 13 1001 (hI h4 9 5) l3).bind (fun h5 =>
  (some (sI h5 9 5 (wadd (hI h5 9 5) 1))).bind (fun h6 =>
  some h6))))
theorem t30 {d : Nat} (hd : 1 ≤ d) {l1 : Int} {l2 : Int} {l3 : Int} {h : hS} {w : mmW} {o : hS} (A : Abs h w) (rl1 : rg l1) (rl2 : rg l2) (rl3 : rg l3) (e : c30 l1 l2 l3 h = some o) : hEv d 30 [vR 9, vI l1, vI l2, vI l3] w (qV o) := by
  obtain ⟨d, rfl⟩ : ∃ d1, d = d1 + 1 := ⟨d - 1, by omega⟩
  have hd : 0 ≤ d := by omega
  refine hEv_start (args := [vr 9, vi l1, vi l2, vi l3]) (nl := 4) rfl (Nat.le_of_ble_eq_true rfl) ?_
  show hG d 30 0 [some (vr 9), some (vi l1), some (vi l2), some (vi l3)] [] w _
  have kr : ∀ h1 : hS, o = h1 → ∀ w', Abs h1 w' → qV o (none, w') := fun h1 q w' A' => by cases q; exact ⟨rfl, A'⟩
  unfold c30 at e
  refine hg_run 1 (pc' := 1) (ls' := [some (vr 9), some (vi l1), some (vi l2), some (vi l3)]) (st' := [vR 9]) rfl ?_
  refine gs_9_5 rfl A ?_
  refine hg_run 1 (pc' := 5) (ls' := [some (vr 9), some (vi l1), some (vi l2), some (vi l3)]) (st' := [vR 9, vI (hI h 9 5)]) rfl ?_
  refine gs_9_2 rfl A ?_
  refine hg_len (t := 0) (v := 1001) rfl A (Abs_ks A (i := 3) rfl).1 (by rw [(Abs_ks A (i := 3) rfl).2]; rfl) (fun _ => ?_)
  rcases oi e with ⟨q2, e⟩ | ⟨q2, e⟩
  · refine hg_icT (tgt := 52) rfl (by decide) (Abs_rg A 9 5) (rgn 1001 rfl) q2 ?_
    cases e
    exact hg_retV rfl (kr _ rfl _ A)
  · refine hg_icF (tgt := 52) rfl (by decide) (Abs_rg A 9 5) (rgn 1001 rfl) q2 ?_
    refine hg_run 1 (pc' := 13) (ls' := [some (vr 9), some (vi l1), some (vi l2), some (vi l3)]) (st' := [vR 9]) rfl ?_
    refine gs_9_2 rfl A ?_
    refine hg_run 1 (pc' := 17) (ls' := [some (vr 9), some (vi l1), some (vi l2), some (vi l3)]) (st' := [vR 9, vR 11]) rfl ?_
    refine gs_9_5 rfl A ?_
    refine hg_run 1 (pc' := 21) (ls' := [some (vr 9), some (vi l1), some (vi l2), some (vi l3)]) (st' := [vI l1, vI (hI h 9 5), vR 11]) rfl ?_
    obtain ⟨h3, e3, e⟩ := ob e
    refine hg_wIs rfl A (Abs_ks A (i := 3) rfl) (by decide) rl1 e3 (fun w3 A3 => ?_)
    refine hg_run 1 (pc' := 23) (ls' := [some (vr 9), some (vi l1), some (vi l2), some (vi l3)]) (st' := [vR 9]) rfl ?_
    refine gs_9_3 rfl A3 ?_
    refine hg_run 1 (pc' := 27) (ls' := [some (vr 9), some (vi l1), some (vi l2), some (vi l3)]) (st' := [vR 9, vR 12]) rfl ?_
    refine gs_9_5 rfl A3 ?_
    refine hg_run 1 (pc' := 31) (ls' := [some (vr 9), some (vi l1), some (vi l2), some (vi l3)]) (st' := [vI l2, vI (hI h3 9 5), vR 12]) rfl ?_
    obtain ⟨h4, e4, e⟩ := ob e
    refine hg_wIs rfl A3 (Abs_ks A3 (i := 4) rfl) (by decide) rl2 e4 (fun w4 A4 => ?_)
    refine hg_run 1 (pc' := 33) (ls' := [some (vr 9), some (vi l1), some (vi l2), some (vi l3)]) (st' := [vR 9]) rfl ?_
    refine gs_9_4 rfl A4 ?_
    refine hg_run 1 (pc' := 37) (ls' := [some (vr 9), some (vi l1), some (vi l2), some (vi l3)]) (st' := [vR 9, vR 13]) rfl ?_
    refine gs_9_5 rfl A4 ?_
    refine hg_run 1 (pc' := 41) (ls' := [some (vr 9), some (vi l1), some (vi l2), some (vi l3)]) (st' := [vI l3, vI (hI h4 9 5), vR 13]) rfl ?_
    obtain ⟨h5, e5, e⟩ := ob e
    refine hg_wIs rfl A4 (Abs_ks A4 (i := 5) rfl) (by decide) rl3 e5 (fun w5 A5 => ?_)
    refine hg_run 2 (pc' := 44) (ls' := [some (vr 9), some (vi l1), some (vi l2), some (vi l3)]) (st' := [vR 9, vR 9]) rfl ?_
    refine gs_9_5 rfl A5 ?_
    refine hg_run 2 (pc' := 49) (ls' := [some (vr 9), some (vi l1), some (vi l2), some (vi l3)]) (st' := [vI (wadd (hI h5 9 5) 1), vR 9]) rfl ?_
    obtain ⟨h6, e6, e⟩ := ob e
    refine ps_9_5 rfl A5 (rg_add _ _) e6 (fun w6 A6 => ?_)
    cases e
    exact hg_retV rfl (kr _ rfl _ A6)
def c28_j43 (l2 : Int) (l3 : Int) : Option ((Int × Int) ⊕ (Int × Int)) :=
  some (.inl ((wadd l2 1), l3))
theorem t28_j43 {d : Nat} (hd : 1 ≤ d) {l2 : Int} {l3 : Int} {l1 : Int} {z4 : Option hO} {h : hS} {w : mmW} {o : (Int × Int) ⊕ (Int × Int)} {Q : mmO → Prop} (rl2 : rg l2) (rl3 : rg l3) (A : Abs h w) (e : c28_j43 l2 l3 = some o) (kb : ∀ (s_0 : Int) (s_1 : Int), o = .inl (s_0, s_1) → rg s_0 → rg s_1 → hG d 28 4 [some (vr 9), some (vi l1), some (vi s_0), some (vi s_1), z4] [] w Q) (ke : ∀ (x_0 : Int) (x_1 : Int), o = .inr (x_0, x_1) → rg x_0 → rg x_1 → hG d 28 49 [some (vr 9), some (vi l1), some (vi x_0), some (vi x_1), z4] [] w Q) : hG d 28 43 [some (vr 9), some (vi l1), some (vi l2), some (vi l3), z4] [] w Q := by
  unfold c28_j43 at e
  refine hg_run 2 (pc' := 4) (ls' := [some (vr 9), some (vi l1), some (vi (wadd l2 1)), some (vi l3), z4]) (st' := []) rfl ?_
  cases e
  exact kb (wadd l2 1) l3 rfl (rg_add _ _) rl3
def c28_b4 (l1 : Int) (h : hS) (l2 : Int) (l3 : Int) : Option ((Int × Int) ⊕ (Int × Int)) :=
  if (hI h 9 1) ≤ l2 then
  some (.inr (l2, l3))
  else
  (aIs h 10 1000 l2).bind (fun v2 =>
  (c27 v2 h).bind (fun v3 =>
  if v3 = 0 then
  some (.inr (l2, l3))
  else
  if 6 ≤ (wsub l2 l1) then
  c28_j43 l2 l3
  else
  (aIs h 10 1000 l2).bind (fun v6 =>
  (c9 l3 v6 h).bind (fun v7 =>
  c28_j43 l2 v7))))
theorem t28_b4 {d : Nat} (hd : 1 ≤ d) {l1 : Int} {l2 : Int} {l3 : Int} {z4 : Option hO} {h : hS} {w : mmW} {o : (Int × Int) ⊕ (Int × Int)} {Q : mmO → Prop} (rl1 : rg l1) (rl2 : rg l2) (rl3 : rg l3) (A : Abs h w) (e : c28_b4 l1 h l2 l3 = some o) (kb : ∀ (s_0 : Int) (s_1 : Int), o = .inl (s_0, s_1) → rg s_0 → rg s_1 → hG d 28 4 [some (vr 9), some (vi l1), some (vi s_0), some (vi s_1), z4] [] w Q) (ke : ∀ (x_0 : Int) (x_1 : Int), o = .inr (x_0, x_1) → rg x_0 → rg x_1 → hG d 28 49 [some (vr 9), some (vi l1), some (vi x_0), some (vi x_1), z4] [] w Q) : hG d 28 4 [some (vr 9), some (vi l1), some (vi l2), some (vi l3), z4] [] w Q := by
  unfold c28_b4 at e
  refine hg_run 2 (pc' := 6) (ls' := [some (vr 9), some (vi l1), some (vi l2), some (vi l3), z4]) (st' := [vR 9, vI l2]) rfl ?_
  refine gs_9_1 rfl A ?_
  rcases oi e with ⟨q1, e⟩ | ⟨q1, e⟩
  · refine hg_icT (tgt := 49) rfl (by decide) rl2 (Abs_rg A 9 1) q1 ?_
    cases e
    exact ke l2 l3 rfl rl2 rl3
  · refine hg_icF (tgt := 49) rfl (by decide) rl2 (Abs_rg A 9 1) q1 ?_
    refine hg_run 1 (pc' := 13) (ls' := [some (vr 9), some (vi l1), some (vi l2), some (vi l3), z4]) (st' := [vR 9]) rfl ?_
    refine gs_9_0 rfl A ?_
    refine hg_run 1 (pc' := 17) (ls' := [some (vr 9), some (vi l1), some (vi l2), some (vi l3), z4]) (st' := [vI l2, vR 10]) rfl ?_
    obtain ⟨v2, e2, e⟩ := ob e
    refine hg_aIs 0 rfl (fun _ _ _ _ => rfl) A (Abs_ks A (i := 2) rfl) rfl (by decide) e2 (fun r2 => ?_)
    obtain ⟨v3, e3, e⟩ := ob e
    refine hg_cIp (as := [vI v2]) (st' := []) rfl (fun _ _ _ _ => rfl) rfl rfl (Nat.le_of_ble_eq_true rfl) (Nat.le_of_ble_eq_true rfl) recv0 (t27 (by omega) A r2 e3) (fun r3 => ?_)
    rcases oi e with ⟨q4, e⟩ | ⟨q4, e⟩
    · refine hg_ifT (tgt := 49) rfl (by decide) r3 q4 ?_
      cases e
      exact ke l2 l3 rfl rl2 rl3
    · refine hg_ifF (tgt := 49) rfl (by decide) r3 q4 ?_
      refine hg_run 4 (pc' := 29) (ls' := [some (vr 9), some (vi l1), some (vi l2), some (vi l3), z4]) (st' := [vI 6, vI (wsub l2 l1)]) rfl ?_
      rcases oi e with ⟨q5, e⟩ | ⟨q5, e⟩
      · refine hg_icT (tgt := 43) rfl (by decide) (rg_sub _ _) (rgn 6 rfl) q5 ?_
        exact t28_j43 hd rl2 rl3 A e kb ke
      · refine hg_icF (tgt := 43) rfl (by decide) (rg_sub _ _) (rgn 6 rfl) q5 ?_
        refine hg_run 2 (pc' := 34) (ls' := [some (vr 9), some (vi l1), some (vi l2), some (vi l3), z4]) (st' := [vR 9, vI l3]) rfl ?_
        refine gs_9_0 rfl A ?_
        refine hg_run 1 (pc' := 38) (ls' := [some (vr 9), some (vi l1), some (vi l2), some (vi l3), z4]) (st' := [vI l2, vR 10, vI l3]) rfl ?_
        obtain ⟨v6, e6, e⟩ := ob e
        refine hg_aIs 0 rfl (fun _ _ _ _ => rfl) A (Abs_ks A (i := 2) rfl) rfl (by decide) e6 (fun r6 => ?_)
        obtain ⟨v7, e7, e⟩ := ob e
        refine hg_cIp (as := [vI l3, vI v6]) (st' := []) rfl (fun _ _ _ _ => rfl) rfl rfl (Nat.le_of_ble_eq_true rfl) (Nat.le_of_ble_eq_true rfl) recv0 (t9 (by omega) A rl3 r6 e7) (fun r7 => ?_)
        refine hg_run 1 (pc' := 43) (ls' := [some (vr 9), some (vi l1), some (vi l2), some (vi v7), z4]) (st' := []) rfl ?_
        exact t28_j43 hd rl2 r7 A e kb ke
theorem t28_l4 {d : Nat} (hd : 1 ≤ d) {l1 : Int} {z4 : Option hO} {h : hS} {w : mmW} {Q : mmO → Prop} (rl1 : rg l1) (n : Nat) {l2 : Int} {l3 : Int}  {r : Int × Int} (rl2 : rg l2) (rl3 : rg l3) (A : Abs h w) (e : lp (fun s => c28_b4 l1 h s.1 s.2) n (l2, l3) = some r) (ke : ∀ (x_0 : Int) (x_1 : Int), r = (x_0, x_1) → rg x_0 → rg x_1 → hG d 28 49 [some (vr 9), some (vi l1), some (vi x_0), some (vi x_1), z4] [] w Q) : hG d 28 4 [some (vr 9), some (vi l1), some (vi l2), some (vi l3), z4] [] w Q := by
  induction n generalizing l2 l3 with
  | zero => cases e
  | succ n ih =>
    rcases lp_succ e with ⟨s1, e1, e2⟩ | e1
    · exact t28_b4 hd rl1 rl2 rl3 A e1 (fun s_0 s_1 q rl2 rl3 => by cases q; exact ih rl2 rl3 e2) (fun x_0 x_1 q => by cases q)
    · exact t28_b4 hd rl1 rl2 rl3 A e1 (fun s_0 s_1 q => by cases q) (fun x_0 x_1 q => by cases q; exact ke _ _ rfl)
def c28_j107 (l1 : Int) (l2 : Int) (h : hS) : Option (Int × hS) :=
  some ((wsub l2 l1), h)
theorem t28_j107 {d : Nat} (hd : 1 ≤ d) {l1 : Int} {l2 : Int} {z3 : Option hO} {z4 : Option hO} {h : hS} {w : mmW} {o : Int × hS} {Q : mmO → Prop} (rl1 : rg l1) (rl2 : rg l2) (A : Abs h w) (e : c28_j107 l1 l2 h = some o) (kr : ∀ (v1 : Int) (h1 : hS), o = (v1, h1) → ∀ w', rg v1 → Abs h1 w' → Q (some (.int (Int32.ofInt v1)), w')) : hG d 28 107 [some (vr 9), some (vi l1), some (vi l2), z3, z4] [] w Q := by
  unfold c28_j107 at e
  refine hg_run 3 (pc' := 110) (ls' := [some (vr 9), some (vi l1), some (vi l2), z3, z4]) (st' := [vI (wsub l2 l1)]) rfl ?_
  cases e
  exact hg_retI rfl (by decide) (fit_I _) (kr _ _ rfl _ (rg_sub _ _) A)
def c28 (l1 : Int) (h : hS) : Option (Int × hS) :=
  (lp (fun s => c28_b4 l1 h s.1 s.2) hF0 (l1, 0)).bind (fun r8 =>
  (c29 14 22 r8.2 h).bind (fun v9 =>
  if (wsub r8.1 l1) ≤ 6 then
  if v9 = (-1) then
  (c30 1 l1 r8.2 h).bind (fun h12 =>
  c28_j107 l1 r8.1 h12)
  else
  (c30 (wadd 200 v9) l1 r8.2 h).bind (fun h13 =>
  c28_j107 l1 r8.1 h13)
  else
  (c30 3 l1 0 h).bind (fun h14 =>
  c28_j107 l1 r8.1 h14)))
theorem t28 {d : Nat} (hd : 2 ≤ d) {l1 : Int} {h : hS} {w : mmW} {o : Int × hS} (A : Abs h w) (rl1 : rg l1) (e : c28 l1 h = some o) : hEv d 28 [vR 9, vI l1] w (qI o) := by
  obtain ⟨d, rfl⟩ : ∃ d1, d = d1 + 1 := ⟨d - 1, by omega⟩
  have hd : 1 ≤ d := by omega
  refine hEv_start (args := [vr 9, vi l1]) (nl := 5) rfl (Nat.le_of_ble_eq_true rfl) ?_
  show hG d 28 0 [some (vr 9), some (vi l1), none, none, none] [] w _
  have kr : ∀ (v1 : Int) (h1 : hS), o = (v1, h1) → ∀ w', rg v1 → Abs h1 w' → qI o (some (.int (Int32.ofInt v1)), w') := fun v1 h1 q w' r A' => by cases q; exact ⟨rfl, r, A'⟩
  unfold c28 at e
  refine hg_run 4 (pc' := 4) (ls' := [some (vr 9), some (vi l1), some (vi l1), some (vi 0), none]) (st' := []) rfl ?_
  obtain ⟨r8, e8, e⟩ := ob e
  refine t28_l4 hd rl1 _ rl1 (rgn 0 rfl) A e8 ?_
  intro x8_0 x8_1 qq8 q8_2 q8_3
  subst qq8
  try dsimp only at e
  refine hg_run 1 (pc' := 50) (ls' := [some (vr 9), some (vi l1), some (vi x8_0), some (vi x8_1), none]) (st' := [vR 9]) rfl ?_
  refine gs_9_6 rfl A ?_
  refine hg_run 2 (pc' := 56) (ls' := [some (vr 9), some (vi l1), some (vi x8_0), some (vi x8_1), none]) (st' := [vI x8_1, vI 22, vR 14]) rfl ?_
  obtain ⟨v9, e9, e⟩ := ob e
  refine hg_cIp (as := [vR 14, vI 22, vI x8_1]) (st' := []) rfl (fun _ _ _ _ => rfl) rfl rfl (Nat.le_of_ble_eq_true rfl) (Nat.le_of_ble_eq_true rfl) recv0 (t29 (by omega) A (rgn 22 rfl) q8_3 e9) (fun r9 => ?_)
  refine hg_run 5 (pc' := 66) (ls' := [some (vr 9), some (vi l1), some (vi x8_0), some (vi x8_1), some (vi v9)]) (st' := [vI 6, vI (wsub x8_0 l1)]) rfl ?_
  rcases oi e with ⟨q10, e⟩ | ⟨q10, e⟩
  · refine hg_icT (tgt := 79) rfl (by decide) (rg_sub _ _) (rgn 6 rfl) q10 ?_
    refine hg_run 2 (pc' := 82) (ls' := [some (vr 9), some (vi l1), some (vi x8_0), some (vi x8_1), some (vi v9)]) (st' := [vI (-1), vI v9]) rfl ?_
    rcases oi e with ⟨q11, e⟩ | ⟨q11, e⟩
    · refine hg_icT (tgt := 100) rfl (by decide) r9 (rgn (-1) rfl) q11 ?_
      refine hg_run 4 (pc' := 104) (ls' := [some (vr 9), some (vi l1), some (vi x8_0), some (vi x8_1), some (vi v9)]) (st' := [vI x8_1, vI l1, vI 1, vR 9]) rfl ?_
      obtain ⟨h12, e12, e⟩ := ob e
      refine hg_cV (as := [vR 9, vI 1, vI l1, vI x8_1]) (st' := []) rfl (fun _ _ _ _ => rfl) rfl rfl (Nat.le_of_ble_eq_true rfl) (Nat.le_of_ble_eq_true rfl) (recvV A (a := 1) (Abs_ks A (i := 1) rfl).1) (t30 (by omega) A (rgn 1 rfl) rl1 q8_3 e12) (fun w12 A12 => ?_)
      exact t28_j107 hd rl1 q8_2 A12 e kr
    · refine hg_icF (tgt := 100) rfl (by decide) r9 (rgn (-1) rfl) q11 ?_
      refine hg_run 6 (pc' := 94) (ls' := [some (vr 9), some (vi l1), some (vi x8_0), some (vi x8_1), some (vi v9)]) (st' := [vI x8_1, vI l1, vI (wadd 200 v9), vR 9]) rfl ?_
      obtain ⟨h13, e13, e⟩ := ob e
      refine hg_cV (as := [vR 9, vI (wadd 200 v9), vI l1, vI x8_1]) (st' := []) rfl (fun _ _ _ _ => rfl) rfl rfl (Nat.le_of_ble_eq_true rfl) (Nat.le_of_ble_eq_true rfl) (recvV A (a := 1) (Abs_ks A (i := 1) rfl).1) (t30 (by omega) A (rg_add _ _) rl1 q8_3 e13) (fun w13 A13 => ?_)
      refine hg_run 1 (pc' := 107) (ls' := [some (vr 9), some (vi l1), some (vi x8_0), some (vi x8_1), some (vi v9)]) (st' := []) rfl ?_
      exact t28_j107 hd rl1 q8_2 A13 e kr
  · refine hg_icF (tgt := 79) rfl (by decide) (rg_sub _ _) (rgn 6 rfl) q10 ?_
    refine hg_run 4 (pc' := 73) (ls' := [some (vr 9), some (vi l1), some (vi x8_0), some (vi x8_1), some (vi v9)]) (st' := [vI 0, vI l1, vI 3, vR 9]) rfl ?_
    obtain ⟨h14, e14, e⟩ := ob e
    refine hg_cV (as := [vR 9, vI 3, vI l1, vI 0]) (st' := []) rfl (fun _ _ _ _ => rfl) rfl rfl (Nat.le_of_ble_eq_true rfl) (Nat.le_of_ble_eq_true rfl) (recvV A (a := 1) (Abs_ks A (i := 1) rfl).1) (t30 (by omega) A (rgn 3 rfl) rl1 (rgn 0 rfl) e14) (fun w14 A14 => ?_)
    refine hg_run 1 (pc' := 107) (ls' := [some (vr 9), some (vi l1), some (vi x8_0), some (vi x8_1), some (vi v9)]) (st' := []) rfl ?_
    exact t28_j107 hd rl1 q8_2 A14 e kr
def c31 (l0 : Int) (h : hS) : Option (Int) :=
  if l0 < 48 then
  some 0
  else
  if 57 < l0 then
  some 0
  else
  some 1
theorem t31 {d : Nat} (hd : 1 ≤ d) {l0 : Int} {h : hS} {w : mmW} {o : Int} (A : Abs h w) (rl0 : rg l0) (e : c31 l0 h = some o) : hEv d 31 [vI l0] w (qIp o w) := by
  obtain ⟨d, rfl⟩ : ∃ d1, d = d1 + 1 := ⟨d - 1, by omega⟩
  have hd : 0 ≤ d := by omega
  refine hEv_start (args := [vi l0]) (nl := 1) rfl (Nat.le_of_ble_eq_true rfl) ?_
  show hG d 31 0 [some (vi l0)] [] w _
  have kr : ∀ v1 : Int, o = v1 → rg v1 → qIp o w (some (.int (Int32.ofInt v1)), w) := fun v1 q r => by cases q; exact ⟨rfl, r⟩
  unfold c31 at e
  refine hg_run 2 (pc' := 3) (ls' := [some (vi l0)]) (st' := [vI 48, vI l0]) rfl ?_
  rcases oi e with ⟨q1, e⟩ | ⟨q1, e⟩
  · refine hg_icT (tgt := 16) rfl (by decide) rl0 (rgn 48 rfl) q1 ?_
    refine hg_run 1 (pc' := 17) (ls' := [some (vi l0)]) (st' := [vI 0]) rfl ?_
    cases e
    exact hg_retI rfl (by decide) (fit_B (.inl rfl)) (kr _ rfl (rgn 0 rfl))
  · refine hg_icF (tgt := 16) rfl (by decide) rl0 (rgn 48 rfl) q1 ?_
    refine hg_run 2 (pc' := 9) (ls' := [some (vi l0)]) (st' := [vI 57, vI l0]) rfl ?_
    rcases oi e with ⟨q2, e⟩ | ⟨q2, e⟩
    · refine hg_icT (tgt := 16) rfl (by decide) rl0 (rgn 57 rfl) q2 ?_
      refine hg_run 1 (pc' := 17) (ls' := [some (vi l0)]) (st' := [vI 0]) rfl ?_
      cases e
      exact hg_retI rfl (by decide) (fit_B (.inl rfl)) (kr _ rfl (rgn 0 rfl))
    · refine hg_icF (tgt := 16) rfl (by decide) rl0 (rgn 57 rfl) q2 ?_
      refine hg_run 2 (pc' := 17) (ls' := [some (vi l0)]) (st' := [vI 1]) rfl ?_
      cases e
      exact hg_retI rfl (by decide) (fit_B (.inr rfl)) (kr _ rfl (rgn 1 rfl))
def c33_j19  : Option (Int) :=
  some 1
theorem t33_j19 {d : Nat} (hd : 1 ≤ d)  {z0 : Option hO} {h : hS} {w : mmW} {o : Int} {Q : mmO → Prop}  (A : Abs h w) (e : c33_j19  = some o) (kr : ∀ v1 : Int, o = v1 → rg v1 → Q (some (.int (Int32.ofInt v1)), w)) : hG d 33 19 [z0] [] w Q := by
  unfold c33_j19 at e
  refine hg_run 2 (pc' := 24) (ls' := [z0]) (st' := [vI 1]) rfl ?_
  cases e
  exact hg_retI rfl (by decide) (fit_B (.inr rfl)) (kr _ rfl (rgn 1 rfl))
def c33 (l0 : Int) (h : hS) : Option (Int) :=
  (c27 l0 h).bind (fun v1 =>
  if v1 = 0 then
  if l0 < 65 then
  some 0
  else
  if 90 < l0 then
  some 0
  else
  c33_j19 
  else
  c33_j19 )
theorem t33 {d : Nat} (hd : 2 ≤ d) {l0 : Int} {h : hS} {w : mmW} {o : Int} (A : Abs h w) (rl0 : rg l0) (e : c33 l0 h = some o) : hEv d 33 [vI l0] w (qIp o w) := by
  obtain ⟨d, rfl⟩ : ∃ d1, d = d1 + 1 := ⟨d - 1, by omega⟩
  have hd : 1 ≤ d := by omega
  refine hEv_start (args := [vi l0]) (nl := 1) rfl (Nat.le_of_ble_eq_true rfl) ?_
  show hG d 33 0 [some (vi l0)] [] w _
  have kr : ∀ v1 : Int, o = v1 → rg v1 → qIp o w (some (.int (Int32.ofInt v1)), w) := fun v1 q r => by cases q; exact ⟨rfl, r⟩
  unfold c33 at e
  refine hg_run 1 (pc' := 1) (ls' := [some (vi l0)]) (st' := [vI l0]) rfl ?_
  obtain ⟨v1, e1, e⟩ := ob e
  refine hg_cIp (as := [vI l0]) (st' := []) rfl (fun _ _ _ _ => rfl) rfl rfl (Nat.le_of_ble_eq_true rfl) (Nat.le_of_ble_eq_true rfl) recv0 (t27 (by omega) A rl0 e1) (fun r1 => ?_)
  rcases oi e with ⟨q2, e⟩ | ⟨q2, e⟩
  · refine hg_ifF (tgt := 19) rfl (by decide) r1 (show ¬ ¬ (v1 = 0) from fun f => f q2) ?_
    refine hg_run 2 (pc' := 10) (ls' := [some (vi l0)]) (st' := [vI 65, vI l0]) rfl ?_
    rcases oi e with ⟨q3, e⟩ | ⟨q3, e⟩
    · refine hg_icT (tgt := 23) rfl (by decide) rl0 (rgn 65 rfl) q3 ?_
      refine hg_run 1 (pc' := 24) (ls' := [some (vi l0)]) (st' := [vI 0]) rfl ?_
      cases e
      exact hg_retI rfl (by decide) (fit_B (.inl rfl)) (kr _ rfl (rgn 0 rfl))
    · refine hg_icF (tgt := 23) rfl (by decide) rl0 (rgn 65 rfl) q3 ?_
      refine hg_run 2 (pc' := 16) (ls' := [some (vi l0)]) (st' := [vI 90, vI l0]) rfl ?_
      rcases oi e with ⟨q4, e⟩ | ⟨q4, e⟩
      · refine hg_icT (tgt := 23) rfl (by decide) rl0 (rgn 90 rfl) q4 ?_
        refine hg_run 1 (pc' := 24) (ls' := [some (vi l0)]) (st' := [vI 0]) rfl ?_
        cases e
        exact hg_retI rfl (by decide) (fit_B (.inl rfl)) (kr _ rfl (rgn 0 rfl))
      · refine hg_icF (tgt := 23) rfl (by decide) rl0 (rgn 90 rfl) q4 ?_
        exact t33_j19 hd  A e kr
  · refine hg_ifT (tgt := 19) rfl (by decide) r1 (show ¬ (v1 = 0) from q2) ?_
    exact t33_j19 hd  A e kr
def c32_j47 (l2 : Int) (l3 : Int) : Option ((Int × Int) ⊕ (Int × Int)) :=
  some (.inl ((wadd l2 1), l3))
theorem t32_j47 {d : Nat} (hd : 2 ≤ d) {l2 : Int} {l3 : Int} {l1 : Int} {z4 : Option hO} {z5 : Option hO} {h : hS} {w : mmW} {o : (Int × Int) ⊕ (Int × Int)} {Q : mmO → Prop} (rl2 : rg l2) (rl3 : rg l3) (A : Abs h w) (e : c32_j47 l2 l3 = some o) (kb : ∀ (s_0 : Int) (s_1 : Int), o = .inl (s_0, s_1) → rg s_0 → rg s_1 → hG d 32 4 [some (vr 9), some (vi l1), some (vi s_0), some (vi s_1), z4, z5] [] w Q) (ke : ∀ (x_0 : Int) (x_1 : Int), o = .inr (x_0, x_1) → rg x_0 → rg x_1 → hG d 32 53 [some (vr 9), some (vi l1), some (vi x_0), some (vi x_1), z4, z5] [] w Q) : hG d 32 47 [some (vr 9), some (vi l1), some (vi l2), some (vi l3), z4, z5] [] w Q := by
  unfold c32_j47 at e
  refine hg_run 2 (pc' := 4) (ls' := [some (vr 9), some (vi l1), some (vi (wadd l2 1)), some (vi l3), z4, z5]) (st' := []) rfl ?_
  cases e
  exact kb (wadd l2 1) l3 rfl (rg_add _ _) rl3
def c32_b4 (l1 : Int) (h : hS) (l2 : Int) (l3 : Int) : Option ((Int × Int) ⊕ (Int × Int)) :=
  if (hI h 9 1) ≤ l2 then
  some (.inr (l2, l3))
  else
  (aIs h 10 1000 l2).bind (fun v2 =>
  (c31 v2 h).bind (fun v3 =>
  if v3 = 0 then
  some (.inr (l2, l3))
  else
  if 6 ≤ (wsub l2 l1) then
  c32_j47 l2 l3
  else
  (aIs h 10 1000 l2).bind (fun v6 =>
  c32_j47 l2 (wsub (wadd (wmul l3 10) v6) 48))))
theorem t32_b4 {d : Nat} (hd : 2 ≤ d) {l1 : Int} {l2 : Int} {l3 : Int} {z4 : Option hO} {z5 : Option hO} {h : hS} {w : mmW} {o : (Int × Int) ⊕ (Int × Int)} {Q : mmO → Prop} (rl1 : rg l1) (rl2 : rg l2) (rl3 : rg l3) (A : Abs h w) (e : c32_b4 l1 h l2 l3 = some o) (kb : ∀ (s_0 : Int) (s_1 : Int), o = .inl (s_0, s_1) → rg s_0 → rg s_1 → hG d 32 4 [some (vr 9), some (vi l1), some (vi s_0), some (vi s_1), z4, z5] [] w Q) (ke : ∀ (x_0 : Int) (x_1 : Int), o = .inr (x_0, x_1) → rg x_0 → rg x_1 → hG d 32 53 [some (vr 9), some (vi l1), some (vi x_0), some (vi x_1), z4, z5] [] w Q) : hG d 32 4 [some (vr 9), some (vi l1), some (vi l2), some (vi l3), z4, z5] [] w Q := by
  unfold c32_b4 at e
  refine hg_run 2 (pc' := 6) (ls' := [some (vr 9), some (vi l1), some (vi l2), some (vi l3), z4, z5]) (st' := [vR 9, vI l2]) rfl ?_
  refine gs_9_1 rfl A ?_
  rcases oi e with ⟨q1, e⟩ | ⟨q1, e⟩
  · refine hg_icT (tgt := 53) rfl (by decide) rl2 (Abs_rg A 9 1) q1 ?_
    cases e
    exact ke l2 l3 rfl rl2 rl3
  · refine hg_icF (tgt := 53) rfl (by decide) rl2 (Abs_rg A 9 1) q1 ?_
    refine hg_run 1 (pc' := 13) (ls' := [some (vr 9), some (vi l1), some (vi l2), some (vi l3), z4, z5]) (st' := [vR 9]) rfl ?_
    refine gs_9_0 rfl A ?_
    refine hg_run 1 (pc' := 17) (ls' := [some (vr 9), some (vi l1), some (vi l2), some (vi l3), z4, z5]) (st' := [vI l2, vR 10]) rfl ?_
    obtain ⟨v2, e2, e⟩ := ob e
    refine hg_aIs 0 rfl (fun _ _ _ _ => rfl) A (Abs_ks A (i := 2) rfl) rfl (by decide) e2 (fun r2 => ?_)
    obtain ⟨v3, e3, e⟩ := ob e
    refine hg_cIp (as := [vI v2]) (st' := []) rfl (fun _ _ _ _ => rfl) rfl rfl (Nat.le_of_ble_eq_true rfl) (Nat.le_of_ble_eq_true rfl) recv0 (t31 (by omega) A r2 e3) (fun r3 => ?_)
    rcases oi e with ⟨q4, e⟩ | ⟨q4, e⟩
    · refine hg_ifT (tgt := 53) rfl (by decide) r3 q4 ?_
      cases e
      exact ke l2 l3 rfl rl2 rl3
    · refine hg_ifF (tgt := 53) rfl (by decide) r3 q4 ?_
      refine hg_run 4 (pc' := 29) (ls' := [some (vr 9), some (vi l1), some (vi l2), some (vi l3), z4, z5]) (st' := [vI 6, vI (wsub l2 l1)]) rfl ?_
      rcases oi e with ⟨q5, e⟩ | ⟨q5, e⟩
      · refine hg_icT (tgt := 47) rfl (by decide) (rg_sub _ _) (rgn 6 rfl) q5 ?_
        exact t32_j47 hd rl2 rl3 A e kb ke
      · refine hg_icF (tgt := 47) rfl (by decide) (rg_sub _ _) (rgn 6 rfl) q5 ?_
        refine hg_run 4 (pc' := 37) (ls' := [some (vr 9), some (vi l1), some (vi l2), some (vi l3), z4, z5]) (st' := [vR 9, vI (wmul l3 10)]) rfl ?_
        refine gs_9_0 rfl A ?_
        refine hg_run 1 (pc' := 41) (ls' := [some (vr 9), some (vi l1), some (vi l2), some (vi l3), z4, z5]) (st' := [vI l2, vR 10, vI (wmul l3 10)]) rfl ?_
        obtain ⟨v6, e6, e⟩ := ob e
        refine hg_aIs 0 rfl (fun _ _ _ _ => rfl) A (Abs_ks A (i := 2) rfl) rfl (by decide) e6 (fun r6 => ?_)
        refine hg_run 4 (pc' := 47) (ls' := [some (vr 9), some (vi l1), some (vi l2), some (vi (wsub (wadd (wmul l3 10) v6) 48)), z4, z5]) (st' := []) rfl ?_
        exact t32_j47 hd rl2 (rg_sub _ _) A e kb ke
theorem t32_l4 {d : Nat} (hd : 2 ≤ d) {l1 : Int} {z4 : Option hO} {z5 : Option hO} {h : hS} {w : mmW} {Q : mmO → Prop} (rl1 : rg l1) (n : Nat) {l2 : Int} {l3 : Int}  {r : Int × Int} (rl2 : rg l2) (rl3 : rg l3) (A : Abs h w) (e : lp (fun s => c32_b4 l1 h s.1 s.2) n (l2, l3) = some r) (ke : ∀ (x_0 : Int) (x_1 : Int), r = (x_0, x_1) → rg x_0 → rg x_1 → hG d 32 53 [some (vr 9), some (vi l1), some (vi x_0), some (vi x_1), z4, z5] [] w Q) : hG d 32 4 [some (vr 9), some (vi l1), some (vi l2), some (vi l3), z4, z5] [] w Q := by
  induction n generalizing l2 l3 with
  | zero => cases e
  | succ n ih =>
    rcases lp_succ e with ⟨s1, e1, e2⟩ | e1
    · exact t32_b4 hd rl1 rl2 rl3 A e1 (fun s_0 s_1 q rl2 rl3 => by cases q; exact ih rl2 rl3 e2) (fun x_0 x_1 q => by cases q)
    · exact t32_b4 hd rl1 rl2 rl3 A e1 (fun s_0 s_1 q => by cases q) (fun x_0 x_1 q => by cases q; exact ke _ _ rfl)
def c32_j111 (s1 : Int) (l1 : Int) (l2 : Int) (l3 : Int) (h : hS) : Option (Int × hS) :=
  (c30 s1 l1 l3 h).bind (fun h11 =>
  some ((wsub l2 l1), h11))
theorem t32_j111 {d : Nat} (hd : 2 ≤ d) {s1 : Int} {l1 : Int} {l2 : Int} {l3 : Int} {z4 : Option hO} {z5 : Option hO} {h : hS} {w : mmW} {o : Int × hS} {Q : mmO → Prop} (rs1 : rg s1) (rl1 : rg l1) (rl2 : rg l2) (rl3 : rg l3) (A : Abs h w) (e : c32_j111 s1 l1 l2 l3 h = some o) (kr : ∀ (v1 : Int) (h1 : hS), o = (v1, h1) → ∀ w', rg v1 → Abs h1 w' → Q (some (.int (Int32.ofInt v1)), w')) : hG d 32 111 [some (vr 9), some (vi l1), some (vi l2), some (vi l3), z4, z5] [vI s1, vR 9] w Q := by
  unfold c32_j111 at e
  refine hg_run 2 (pc' := 113) (ls' := [some (vr 9), some (vi l1), some (vi l2), some (vi l3), z4, z5]) (st' := [vI l3, vI l1, vI s1, vR 9]) rfl ?_
  obtain ⟨h11, e11, e⟩ := ob e
  refine hg_cV (as := [vR 9, vI s1, vI l1, vI l3]) (st' := []) rfl (fun _ _ _ _ => rfl) rfl rfl (Nat.le_of_ble_eq_true rfl) (Nat.le_of_ble_eq_true rfl) (recvV A (a := 1) (Abs_ks A (i := 1) rfl).1) (t30 (by omega) A rs1 rl1 rl3 e11) (fun w11 A11 => ?_)
  refine hg_run 3 (pc' := 119) (ls' := [some (vr 9), some (vi l1), some (vi l2), some (vi l3), z4, z5]) (st' := [vI (wsub l2 l1)]) rfl ?_
  cases e
  exact hg_retI rfl (by decide) (fit_I _) (kr _ _ rfl _ (rg_sub _ _) A11)
def c32_j98 (s0 : Int) (l1 : Int) (l2 : Int) (l3 : Int) (h : hS) : Option (Int × hS) :=
  if s0 = 0 then
  c32_j111 3 l1 l2 l3 h
  else
  c32_j111 2 l1 l2 l3 h
theorem t32_j98 {d : Nat} (hd : 2 ≤ d) {s0 : Int} {l1 : Int} {l2 : Int} {l3 : Int} {z4 : Option hO} {z5 : Option hO} {h : hS} {w : mmW} {o : Int × hS} {Q : mmO → Prop} (rs0 : rg s0) (rl1 : rg l1) (rl2 : rg l2) (rl3 : rg l3) (A : Abs h w) (e : c32_j98 s0 l1 l2 l3 h = some o) (kr : ∀ (v1 : Int) (h1 : hS), o = (v1, h1) → ∀ w', rg v1 → Abs h1 w' → Q (some (.int (Int32.ofInt v1)), w')) : hG d 32 98 [some (vr 9), some (vi l1), some (vi l2), some (vi l3), z4, z5] [vI s0] w Q := by
  unfold c32_j98 at e
  refine hg_run 3 (pc' := 103) (ls' := [some (vr 9), some (vi l1), some (vi l2), some (vi l3), z4, some (vi s0)]) (st' := [vI s0, vR 9]) rfl ?_
  rcases oi e with ⟨q10, e⟩ | ⟨q10, e⟩
  · refine hg_ifT (tgt := 110) rfl (by decide) rs0 q10 ?_
    refine hg_run 1 (pc' := 111) (ls' := [some (vr 9), some (vi l1), some (vi l2), some (vi l3), z4, some (vi s0)]) (st' := [vI 3, vR 9]) rfl ?_
    exact t32_j111 hd (rgn 3 rfl) rl1 rl2 rl3 A e kr
  · refine hg_ifF (tgt := 110) rfl (by decide) rs0 q10 ?_
    refine hg_run 2 (pc' := 111) (ls' := [some (vr 9), some (vi l1), some (vi l2), some (vi l3), z4, some (vi s0)]) (st' := [vI 2, vR 9]) rfl ?_
    exact t32_j111 hd (rgn 2 rfl) rl1 rl2 rl3 A e kr
def c32_j97 (l1 : Int) (l2 : Int) (l3 : Int) (h : hS) : Option (Int × hS) :=
  c32_j98 0 l1 l2 l3 h
theorem t32_j97 {d : Nat} (hd : 2 ≤ d) {l1 : Int} {l2 : Int} {l3 : Int} {z4 : Option hO} {z5 : Option hO} {h : hS} {w : mmW} {o : Int × hS} {Q : mmO → Prop} (rl1 : rg l1) (rl2 : rg l2) (rl3 : rg l3) (A : Abs h w) (e : c32_j97 l1 l2 l3 h = some o) (kr : ∀ (v1 : Int) (h1 : hS), o = (v1, h1) → ∀ w', rg v1 → Abs h1 w' → Q (some (.int (Int32.ofInt v1)), w')) : hG d 32 97 [some (vr 9), some (vi l1), some (vi l2), some (vi l3), z4, z5] [] w Q := by
  unfold c32_j97 at e
  refine hg_run 1 (pc' := 98) (ls' := [some (vr 9), some (vi l1), some (vi l2), some (vi l3), z4, z5]) (st' := [vI 0]) rfl ?_
  exact t32_j98 hd (rgn 0 rfl) rl1 rl2 rl3 A e kr
def c32_j78 (s0 : Int) (l1 : Int) (l2 : Int) (l3 : Int) (h : hS) : Option (Int × hS) :=
  if 6 < (wsub l2 l1) then
  c32_j97 l1 l2 l3 h
  else
  if s0 = 0 then
  c32_j98 1 l1 l2 l3 h
  else
  c32_j97 l1 l2 l3 h
theorem t32_j78 {d : Nat} (hd : 2 ≤ d) {s0 : Int} {l1 : Int} {l2 : Int} {l3 : Int} {z4 : Option hO} {z5 : Option hO} {h : hS} {w : mmW} {o : Int × hS} {Q : mmO → Prop} (rs0 : rg s0) (rl1 : rg l1) (rl2 : rg l2) (rl3 : rg l3) (A : Abs h w) (e : c32_j78 s0 l1 l2 l3 h = some o) (kr : ∀ (v1 : Int) (h1 : hS), o = (v1, h1) → ∀ w', rg v1 → Abs h1 w' → Q (some (.int (Int32.ofInt v1)), w')) : hG d 32 78 [some (vr 9), some (vi l1), some (vi l2), some (vi l3), z4, z5] [vI s0] w Q := by
  unfold c32_j78 at e
  refine hg_run 5 (pc' := 85) (ls' := [some (vr 9), some (vi l1), some (vi l2), some (vi l3), some (vi s0), z5]) (st' := [vI 6, vI (wsub l2 l1)]) rfl ?_
  rcases oi e with ⟨q9, e⟩ | ⟨q9, e⟩
  · refine hg_icT (tgt := 97) rfl (by decide) (rg_sub _ _) (rgn 6 rfl) q9 ?_
    exact t32_j97 hd rl1 rl2 rl3 A e kr
  · refine hg_icF (tgt := 97) rfl (by decide) (rg_sub _ _) (rgn 6 rfl) q9 ?_
    refine hg_run 1 (pc' := 90) (ls' := [some (vr 9), some (vi l1), some (vi l2), some (vi l3), some (vi s0), z5]) (st' := [vI s0]) rfl ?_
    rcases oi e with ⟨q12, e⟩ | ⟨q12, e⟩
    · refine hg_ifF (tgt := 97) rfl (by decide) rs0 (show ¬ ¬ (s0 = 0) from fun f => f q12) ?_
      refine hg_run 2 (pc' := 98) (ls' := [some (vr 9), some (vi l1), some (vi l2), some (vi l3), some (vi s0), z5]) (st' := [vI 1]) rfl ?_
      exact t32_j98 hd (rgn 1 rfl) rl1 rl2 rl3 A e kr
    · refine hg_ifT (tgt := 97) rfl (by decide) rs0 (show ¬ (s0 = 0) from q12) ?_
      exact t32_j97 hd rl1 rl2 rl3 A e kr
def c32_j77 (l1 : Int) (l2 : Int) (l3 : Int) (h : hS) : Option (Int × hS) :=
  c32_j78 0 l1 l2 l3 h
theorem t32_j77 {d : Nat} (hd : 2 ≤ d) {l1 : Int} {l2 : Int} {l3 : Int} {z4 : Option hO} {z5 : Option hO} {h : hS} {w : mmW} {o : Int × hS} {Q : mmO → Prop} (rl1 : rg l1) (rl2 : rg l2) (rl3 : rg l3) (A : Abs h w) (e : c32_j77 l1 l2 l3 h = some o) (kr : ∀ (v1 : Int) (h1 : hS), o = (v1, h1) → ∀ w', rg v1 → Abs h1 w' → Q (some (.int (Int32.ofInt v1)), w')) : hG d 32 77 [some (vr 9), some (vi l1), some (vi l2), some (vi l3), z4, z5] [] w Q := by
  unfold c32_j77 at e
  refine hg_run 1 (pc' := 78) (ls' := [some (vr 9), some (vi l1), some (vi l2), some (vi l3), z4, z5]) (st' := [vI 0]) rfl ?_
  exact t32_j78 hd (rgn 0 rfl) rl1 rl2 rl3 A e kr
def c32 (l1 : Int) (h : hS) : Option (Int × hS) :=
  (lp (fun s => c32_b4 l1 h s.1 s.2) hF0 (l1, 0)).bind (fun r7 =>
  if (hI h 9 1) ≤ r7.1 then
  c32_j77 l1 r7.1 r7.2 h
  else
  (aIs h 10 1000 r7.1).bind (fun v13 =>
  (c33 v13 h).bind (fun v14 =>
  if v14 = 0 then
  c32_j77 l1 r7.1 r7.2 h
  else
  c32_j78 1 l1 r7.1 r7.2 h)))
theorem t32 {d : Nat} (hd : 3 ≤ d) {l1 : Int} {h : hS} {w : mmW} {o : Int × hS} (A : Abs h w) (rl1 : rg l1) (e : c32 l1 h = some o) : hEv d 32 [vR 9, vI l1] w (qI o) := by
  obtain ⟨d, rfl⟩ : ∃ d1, d = d1 + 1 := ⟨d - 1, by omega⟩
  have hd : 2 ≤ d := by omega
  refine hEv_start (args := [vr 9, vi l1]) (nl := 6) rfl (Nat.le_of_ble_eq_true rfl) ?_
  show hG d 32 0 [some (vr 9), some (vi l1), none, none, none, none] [] w _
  have kr : ∀ (v1 : Int) (h1 : hS), o = (v1, h1) → ∀ w', rg v1 → Abs h1 w' → qI o (some (.int (Int32.ofInt v1)), w') := fun v1 h1 q w' r A' => by cases q; exact ⟨rfl, r, A'⟩
  unfold c32 at e
  refine hg_run 4 (pc' := 4) (ls' := [some (vr 9), some (vi l1), some (vi l1), some (vi 0), none, none]) (st' := []) rfl ?_
  obtain ⟨r7, e7, e⟩ := ob e
  refine t32_l4 hd rl1 _ rl1 (rgn 0 rfl) A e7 ?_
  intro x7_0 x7_1 qq7 q7_2 q7_3
  subst qq7
  try dsimp only at e
  refine hg_run 2 (pc' := 55) (ls' := [some (vr 9), some (vi l1), some (vi x7_0), some (vi x7_1), none, none]) (st' := [vR 9, vI x7_0]) rfl ?_
  refine gs_9_1 rfl A ?_
  rcases oi e with ⟨q8, e⟩ | ⟨q8, e⟩
  · refine hg_icT (tgt := 77) rfl (by decide) q7_2 (Abs_rg A 9 1) q8 ?_
    exact t32_j77 hd rl1 q7_2 q7_3 A e kr
  · refine hg_icF (tgt := 77) rfl (by decide) q7_2 (Abs_rg A 9 1) q8 ?_
    refine hg_run 1 (pc' := 62) (ls' := [some (vr 9), some (vi l1), some (vi x7_0), some (vi x7_1), none, none]) (st' := [vR 9]) rfl ?_
    refine gs_9_0 rfl A ?_
    refine hg_run 1 (pc' := 66) (ls' := [some (vr 9), some (vi l1), some (vi x7_0), some (vi x7_1), none, none]) (st' := [vI x7_0, vR 10]) rfl ?_
    obtain ⟨v13, e13, e⟩ := ob e
    refine hg_aIs 0 rfl (fun _ _ _ _ => rfl) A (Abs_ks A (i := 2) rfl) rfl (by decide) e13 (fun r13 => ?_)
    obtain ⟨v14, e14, e⟩ := ob e
    refine hg_cIp (as := [vI v13]) (st' := []) rfl (fun _ _ _ _ => rfl) rfl rfl (Nat.le_of_ble_eq_true rfl) (Nat.le_of_ble_eq_true rfl) recv0 (t33 (by omega) A r13 e14) (fun r14 => ?_)
    rcases oi e with ⟨q15, e⟩ | ⟨q15, e⟩
    · refine hg_ifT (tgt := 77) rfl (by decide) r14 q15 ?_
      exact t32_j77 hd rl1 q7_2 q7_3 A e kr
    · refine hg_ifF (tgt := 77) rfl (by decide) r14 q15 ?_
      refine hg_run 2 (pc' := 78) (ls' := [some (vr 9), some (vi l1), some (vi x7_0), some (vi x7_1), none, none]) (st' := [vI 1]) rfl ?_
      exact t32_j78 hd (rgn 1 rfl) rl1 q7_2 q7_3 A e kr
def c5 (l0 : Nat) (h : hS) : Option (Int) :=
  if (1 : Int) = 0 then
  some 0
  else
  (gI h l0 2002 0).bind (fun v2 =>
  if v2 = 0 then
  some 1
  else
  some 0)
theorem t5 {d : Nat} (hd : 1 ≤ d) {l0 : Nat} {h : hS} {w : mmW} {o : Int} (A : Abs h w)  (e : c5 l0 h = some o) : hEv d 5 [vR l0] w (qIp o w) := by
  obtain ⟨d, rfl⟩ : ∃ d1, d = d1 + 1 := ⟨d - 1, by omega⟩
  have hd : 0 ≤ d := by omega
  refine hEv_start (args := [vr l0]) (nl := 1) rfl (Nat.le_of_ble_eq_true rfl) ?_
  show hG d 5 0 [some (vr l0)] [] w _
  have kr : ∀ v1 : Int, o = v1 → rg v1 → qIp o w (some (.int (Int32.ofInt v1)), w) := fun v1 q r => by cases q; exact ⟨rfl, r⟩
  unfold c5 at e
  refine hg_run 1 (pc' := 3) (ls' := [some (vr l0)]) (st' := [vI 1]) rfl ?_
  rcases oi e with ⟨q1, e⟩ | ⟨q1, e⟩
  · refine hg_ifT (tgt := 17) rfl (by decide) (rgn 1 rfl) q1 ?_
    refine hg_run 1 (pc' := 18) (ls' := [some (vr l0)]) (st' := [vI 0]) rfl ?_
    cases e
    exact hg_retI rfl (by decide) (fit_B (.inl rfl)) (kr _ rfl (rgn 0 rfl))
  · refine hg_ifF (tgt := 17) rfl (by decide) (rgn 1 rfl) q1 ?_
    refine hg_run 1 (pc' := 7) (ls' := [some (vr l0)]) (st' := [vR l0]) rfl ?_
    obtain ⟨v2, e2, e⟩ := ob e
    refine gd_1000_0 rfl A e2 (fun r2 => ?_)
    rcases oi e with ⟨q3, e⟩ | ⟨q3, e⟩
    · refine hg_ifF (tgt := 17) rfl (by decide) r2 (show ¬ ¬ (v2 = 0) from fun f => f q3) ?_
      refine hg_run 2 (pc' := 18) (ls' := [some (vr l0)]) (st' := [vI 1]) rfl ?_
      cases e
      exact hg_retI rfl (by decide) (fit_B (.inr rfl)) (kr _ rfl (rgn 1 rfl))
    · refine hg_ifT (tgt := 17) rfl (by decide) r2 (show ¬ (v2 = 0) from q3) ?_
      refine hg_run 1 (pc' := 18) (ls' := [some (vr l0)]) (st' := [vI 0]) rfl ?_
      cases e
      exact hg_retI rfl (by decide) (fit_B (.inl rfl)) (kr _ rfl (rgn 0 rfl))
def c3 (l0 : Nat) (h : hS) : Option (Int) :=
  if (1 : Int) = 0 then
  (kN .byte 1).bind (fun u2 =>
  some 1)
  else
  (gI h l0 2002 0).bind (fun v3 =>
  (kN .byte v3).bind (fun u4 =>
  some v3))
theorem t3 {d : Nat} (hd : 1 ≤ d) {l0 : Nat} {h : hS} {w : mmW} {o : Int} (A : Abs h w)  (e : c3 l0 h = some o) : hEv d 3 [vR l0] w (qIp o w) := by
  obtain ⟨d, rfl⟩ : ∃ d1, d = d1 + 1 := ⟨d - 1, by omega⟩
  have hd : 0 ≤ d := by omega
  refine hEv_start (args := [vr l0]) (nl := 1) rfl (Nat.le_of_ble_eq_true rfl) ?_
  show hG d 3 0 [some (vr l0)] [] w _
  have kr : ∀ v1 : Int, o = v1 → rg v1 → qIp o w (some (.int (Int32.ofInt v1)), w) := fun v1 q r => by cases q; exact ⟨rfl, r⟩
  unfold c3 at e
  refine hg_run 1 (pc' := 3) (ls' := [some (vr l0)]) (st' := [vI 1]) rfl ?_
  rcases oi e with ⟨q1, e⟩ | ⟨q1, e⟩
  · refine hg_ifT (tgt := 13) rfl (by decide) (rgn 1 rfl) q1 ?_
    refine hg_run 1 (pc' := 14) (ls' := [some (vr l0)]) (st' := [vI 1]) rfl ?_
    obtain ⟨u2, e2, e⟩ := ob e
    cases e
    exact hg_retY rfl (kN_e e2) (kr _ rfl (rgn 1 rfl))
  · refine hg_ifF (tgt := 13) rfl (by decide) (rgn 1 rfl) q1 ?_
    refine hg_run 1 (pc' := 7) (ls' := [some (vr l0)]) (st' := [vR l0]) rfl ?_
    obtain ⟨v3, e3, e⟩ := ob e
    refine gd_1000_0 rfl A e3 (fun r3 => ?_)
    refine hg_run 1 (pc' := 14) (ls' := [some (vr l0)]) (st' := [vI v3]) rfl ?_
    obtain ⟨u4, e4, e⟩ := ob e
    cases e
    exact hg_retY rfl (kN_e e4) (kr _ rfl r3)
def c2 (l0 : Nat) (h : hS) : Option (Int) :=
  (gR h l0 2002 1).bind (fun v1 =>
  (lA h v1 5).bind (fun v2 =>
  (kT h l0 2002).bind (fun u4 =>
  (c3 l0 h).bind (fun v3 =>
  some (wshr v2 v3)))))
theorem t2 {d : Nat} (hd : 2 ≤ d) {l0 : Nat} {h : hS} {w : mmW} {o : Int} (A : Abs h w)  (e : c2 l0 h = some o) : hEv d 2 [vR l0] w (qIp o w) := by
  obtain ⟨d, rfl⟩ : ∃ d1, d = d1 + 1 := ⟨d - 1, by omega⟩
  have hd : 1 ≤ d := by omega
  refine hEv_start (args := [vr l0]) (nl := 1) rfl (Nat.le_of_ble_eq_true rfl) ?_
  show hG d 2 0 [some (vr l0)] [] w _
  have kr : ∀ v1 : Int, o = v1 → rg v1 → qIp o w (some (.int (Int32.ofInt v1)), w) := fun v1 q r => by cases q; exact ⟨rfl, r⟩
  unfold c2 at e
  refine hg_run 1 (pc' := 1) (ls' := [some (vr l0)]) (st' := [vR l0]) rfl ?_
  obtain ⟨v1, e1, e⟩ := ob e
  refine gd_1000_1 rfl A e1 ?_
  obtain ⟨v2, e2, e⟩ := ob e
  refine hg_len (t := 2) rfl A (lA_e e2).1 (lA_e e2).2 (fun r2 => ?_)
  refine hg_run 1 (pc' := 6) (ls' := [some (vr l0)]) (st' := [vR l0, vI v2]) rfl ?_
  obtain ⟨u4, e4, e⟩ := ob e
  obtain ⟨v3, e3, e⟩ := ob e
  refine hg_cIp (as := [vR l0]) (st' := [vI v2]) rfl (fun _ _ _ _ => rfl) rfl rfl (Nat.le_of_ble_eq_true rfl) (Nat.le_of_ble_eq_true rfl) (recvV A (a := 1000) (kT_e e4)) (t3 (by omega) A  e3) (fun r3 => ?_)
  refine hg_run 1 (pc' := 10) (ls' := [some (vr l0)]) (st' := [vI (wshr v2 v3)]) rfl ?_
  cases e
  exact hg_retI rfl (by decide) (fit_I _) (kr _ rfl (rg_shr _ _))
def c37 (l0 : Int) (h : hS) : Option (Int) :=
  if l0 < 0 then
  some 0
  else
  if 255 < l0 then
  some 0
  else
  some 1
theorem t37 {d : Nat} (hd : 1 ≤ d) {l0 : Int} {h : hS} {w : mmW} {o : Int} (A : Abs h w) (rl0 : rg l0) (e : c37 l0 h = some o) : hEv d 37 [vI l0] w (qIp o w) := by
  obtain ⟨d, rfl⟩ : ∃ d1, d = d1 + 1 := ⟨d - 1, by omega⟩
  have hd : 0 ≤ d := by omega
  refine hEv_start (args := [vi l0]) (nl := 1) rfl (Nat.le_of_ble_eq_true rfl) ?_
  show hG d 37 0 [some (vi l0)] [] w _
  have kr : ∀ v1 : Int, o = v1 → rg v1 → qIp o w (some (.int (Int32.ofInt v1)), w) := fun v1 q r => by cases q; exact ⟨rfl, r⟩
  unfold c37 at e
  refine hg_run 1 (pc' := 1) (ls' := [some (vi l0)]) (st' := [vI l0]) rfl ?_
  rcases oi e with ⟨q1, e⟩ | ⟨q1, e⟩
  · refine hg_ifT (tgt := 15) rfl (by decide) rl0 q1 ?_
    refine hg_run 1 (pc' := 16) (ls' := [some (vi l0)]) (st' := [vI 0]) rfl ?_
    cases e
    exact hg_retI rfl (by decide) (fit_B (.inl rfl)) (kr _ rfl (rgn 0 rfl))
  · refine hg_ifF (tgt := 15) rfl (by decide) rl0 q1 ?_
    refine hg_run 2 (pc' := 8) (ls' := [some (vi l0)]) (st' := [vI 255, vI l0]) rfl ?_
    rcases oi e with ⟨q2, e⟩ | ⟨q2, e⟩
    · refine hg_icT (tgt := 15) rfl (by decide) rl0 (rgn 255 rfl) q2 ?_
      refine hg_run 1 (pc' := 16) (ls' := [some (vi l0)]) (st' := [vI 0]) rfl ?_
      cases e
      exact hg_retI rfl (by decide) (fit_B (.inl rfl)) (kr _ rfl (rgn 0 rfl))
    · refine hg_icF (tgt := 15) rfl (by decide) rl0 (rgn 255 rfl) q2 ?_
      refine hg_run 2 (pc' := 16) (ls' := [some (vi l0)]) (st' := [vI 1]) rfl ?_
      cases e
      exact hg_retI rfl (by decide) (fit_B (.inr rfl)) (kr _ rfl (rgn 1 rfl))
def c38_b7 (l0 : Nat) (l3 : Int) (l4 : Int) (h : hS) (l5 : Int) : Option ((Int) ⊕ ((Unit) ⊕ (Int))) :=
  if l3 ≤ l5 then
  some (.inr (.inl ()))
  else
  (aI h l0 5 l5).bind (fun v2 =>
  if v2 = l4 then
  some (.inr (.inr l5))
  else
  some (.inl ((wadd l5 1))))
theorem t38_b7 {d : Nat} (hd : 0 ≤ d) {l0 : Nat} {l3 : Int} {l4 : Int} {l5 : Int} {z1 : Option hO} {z2 : Option hO} {h : hS} {w : mmW} {o : (Int) ⊕ ((Unit) ⊕ (Int))} {Q : mmO → Prop} (rl3 : rg l3) (rl4 : rg l4) (rl5 : rg l5) (A : Abs h w) (e : c38_b7 l0 l3 l4 h l5 = some o) (kb : ∀ (s_0 : Int), o = .inl (s_0) → rg s_0 → hG d 38 7 [some (vr l0), z1, z2, some (vi l3), some (vi l4), some (vi s_0)] [] w Q) (ke : o = .inr (.inl ()) → ∀ (y5 : Option hO), hG d 38 31 [some (vr l0), z1, z2, some (vi l3), some (vi l4), y5] [] w Q) (kr : ∀ v1 : Int, o = .inr (.inr v1) → rg v1 → Q (some (.int (Int32.ofInt v1)), w)) : hG d 38 7 [some (vr l0), z1, z2, some (vi l3), some (vi l4), some (vi l5)] [] w Q := by
  unfold c38_b7 at e
  refine hg_run 2 (pc' := 10) (ls' := [some (vr l0), z1, z2, some (vi l3), some (vi l4), some (vi l5)]) (st' := [vI l3, vI l5]) rfl ?_
  rcases oi e with ⟨q1, e⟩ | ⟨q1, e⟩
  · refine hg_icT (tgt := 31) rfl (by decide) rl5 rl3 q1 ?_
    cases e
    exact ke  rfl _ 
  · refine hg_icF (tgt := 31) rfl (by decide) rl5 rl3 q1 ?_
    refine hg_run 2 (pc' := 16) (ls' := [some (vr l0), z1, z2, some (vi l3), some (vi l4), some (vi l5)]) (st' := [vI l5, vR l0]) rfl ?_
    obtain ⟨v2, e2, e⟩ := ob e
    refine hg_aId 2 rfl (fun _ _ _ _ => rfl) A rfl (by decide) e2 (fun r2 => ?_)
    refine hg_run 1 (pc' := 19) (ls' := [some (vr l0), z1, z2, some (vi l3), some (vi l4), some (vi l5)]) (st' := [vI l4, vI v2]) rfl ?_
    rcases oi e with ⟨q3, e⟩ | ⟨q3, e⟩
    · refine hg_icF (tgt := 25) rfl (by decide) r2 rl4 (show ¬ ¬ (v2 = l4) from fun f => f q3) ?_
      refine hg_run 1 (pc' := 24) (ls' := [some (vr l0), z1, z2, some (vi l3), some (vi l4), some (vi l5)]) (st' := [vI l5]) rfl ?_
      cases e
      exact hg_retI rfl (by decide) (fit_I _) (kr _ rfl rl5)
    · refine hg_icT (tgt := 25) rfl (by decide) r2 rl4 (show ¬ (v2 = l4) from q3) ?_
      refine hg_run 2 (pc' := 7) (ls' := [some (vr l0), z1, z2, some (vi l3), some (vi l4), some (vi (wadd l5 1))]) (st' := []) rfl ?_
      cases e
      exact kb (wadd l5 1) rfl (rg_add _ _)
theorem t38_l7 {d : Nat} (hd : 0 ≤ d) {l0 : Nat} {l3 : Int} {l4 : Int} {z1 : Option hO} {z2 : Option hO} {h : hS} {w : mmW} {Q : mmO → Prop} (rl3 : rg l3) (rl4 : rg l4) (n : Nat) {l5 : Int}  {r : (Unit) ⊕ (Int)} (rl5 : rg l5) (A : Abs h w) (e : lp (fun s => c38_b7 l0 l3 l4 h s) n (l5) = some r) (ke : r = .inl () → ∀ (y5 : Option hO), hG d 38 31 [some (vr l0), z1, z2, some (vi l3), some (vi l4), y5] [] w Q) (kr : ∀ v1 : Int, r = .inr v1 → rg v1 → Q (some (.int (Int32.ofInt v1)), w)) : hG d 38 7 [some (vr l0), z1, z2, some (vi l3), some (vi l4), some (vi l5)] [] w Q := by
  induction n generalizing l5 with
  | zero => cases e
  | succ n ih =>
    rcases lp_succ e with ⟨s1, e1, e2⟩ | e1
    · exact t38_b7 hd rl3 rl4 rl5 A e1 (fun s_0 q rl5 => by cases q; exact ih rl5 e2) (fun  q => by cases q) (fun v0 q => by cases q)
    · exact t38_b7 hd rl3 rl4 rl5 A e1 (fun s_0 q => by cases q) (fun  q => by cases q; exact ke  rfl) (fun v0 q => by cases q; exact kr _ rfl)
def c38 (l0 : Nat) (l1 : Int) (l2 : Int) (l3 : Int) (h : hS) : Option (Int) :=
  (lp (fun s => c38_b7 l0 l3 (wbyt l1) h s) hF0 (l2)).bind (fun r4 => xs r4 (fun x4 =>
  some (-1)) (fun o4 => some o4))
theorem t38 {d : Nat} (hd : 1 ≤ d) {l0 : Nat} {l1 : Int} {l2 : Int} {l3 : Int} {h : hS} {w : mmW} {o : Int} (A : Abs h w) (rl1 : rg l1) (rl2 : rg l2) (rl3 : rg l3) (e : c38 l0 l1 l2 l3 h = some o) : hEv d 38 [vR l0, vI l1, vI l2, vI l3] w (qIp o w) := by
  obtain ⟨d, rfl⟩ : ∃ d1, d = d1 + 1 := ⟨d - 1, by omega⟩
  have hd : 0 ≤ d := by omega
  refine hEv_start (args := [vr l0, vi l1, vi l2, vi l3]) (nl := 6) rfl (Nat.le_of_ble_eq_true rfl) ?_
  show hG d 38 0 [some (vr l0), some (vi l1), some (vi l2), some (vi l3), none, none] [] w _
  have kr : ∀ v1 : Int, o = v1 → rg v1 → qIp o w (some (.int (Int32.ofInt v1)), w) := fun v1 q r => by cases q; exact ⟨rfl, r⟩
  unfold c38 at e
  refine hg_run 5 (pc' := 7) (ls' := [some (vr l0), some (vi l1), some (vi l2), some (vi l3), some (vi (wbyt l1)), some (vi l2)]) (st' := []) rfl ?_
  obtain ⟨r4, e4, e⟩ := ob e
  refine t38_l7 hd rl3 (rg_byt _) _ rl2 A e4 ?_ ?_
  · intro  qq4 z4_5
    subst qq4
    have e := xs_l e
    refine hg_run 1 (pc' := 32) (ls' := [some (vr l0), some (vi l1), some (vi l2), some (vi l3), some (vi (wbyt l1)), z4_5]) (st' := [vI (-1)]) rfl ?_
    cases e
    exact hg_retI rfl (by decide) (fit_I _) (kr _ rfl (rgn (-1) rfl))
  · intro v4 qq4 r4
    subst qq4
    have e := xs_r e
    cases e
    exact kr _ rfl r4
def c36 (l0 : Nat) (l1 : Int) (l2 : Int) (l3 : Int) (h : hS) : Option (Int) :=
  (c37 l1 h).bind (fun v1 =>
  if v1 = 0 then
  some (-1)
  else
  (lA h l0 5).bind (fun v3 =>
  if (wmax l2 0) < (wmin l3 v3) then
  (c38 l0 l1 (wmax l2 0) (wmin l3 v3) h).bind (fun v5 =>
  some v5)
  else
  some (-1)))
theorem t36 {d : Nat} (hd : 2 ≤ d) {l0 : Nat} {l1 : Int} {l2 : Int} {l3 : Int} {h : hS} {w : mmW} {o : Int} (A : Abs h w) (rl1 : rg l1) (rl2 : rg l2) (rl3 : rg l3) (e : c36 l0 l1 l2 l3 h = some o) : hEv d 36 [vR l0, vI l1, vI l2, vI l3] w (qIp o w) := by
  obtain ⟨d, rfl⟩ : ∃ d1, d = d1 + 1 := ⟨d - 1, by omega⟩
  have hd : 1 ≤ d := by omega
  refine hEv_start (args := [vr l0, vi l1, vi l2, vi l3]) (nl := 4) rfl (Nat.le_of_ble_eq_true rfl) ?_
  show hG d 36 0 [some (vr l0), some (vi l1), some (vi l2), some (vi l3)] [] w _
  have kr : ∀ v1 : Int, o = v1 → rg v1 → qIp o w (some (.int (Int32.ofInt v1)), w) := fun v1 q r => by cases q; exact ⟨rfl, r⟩
  unfold c36 at e
  refine hg_run 1 (pc' := 1) (ls' := [some (vr l0), some (vi l1), some (vi l2), some (vi l3)]) (st' := [vI l1]) rfl ?_
  obtain ⟨v1, e1, e⟩ := ob e
  refine hg_cIp (as := [vI l1]) (st' := []) rfl (fun _ _ _ _ => rfl) rfl rfl (Nat.le_of_ble_eq_true rfl) (Nat.le_of_ble_eq_true rfl) recv0 (t37 (by omega) A rl1 e1) (fun r1 => ?_)
  rcases oi e with ⟨q2, e⟩ | ⟨q2, e⟩
  · refine hg_ifF (tgt := 9) rfl (by decide) r1 (show ¬ ¬ (v1 = 0) from fun f => f q2) ?_
    refine hg_run 1 (pc' := 8) (ls' := [some (vr l0), some (vi l1), some (vi l2), some (vi l3)]) (st' := [vI (-1)]) rfl ?_
    cases e
    exact hg_retI rfl (by decide) (fit_I _) (kr _ rfl (rgn (-1) rfl))
  · refine hg_ifT (tgt := 9) rfl (by decide) r1 (show ¬ (v1 = 0) from q2) ?_
    refine hg_run 6 (pc' := 17) (ls' := [some (vr l0), some (vi l1), some (vi (wmax l2 0)), some (vi l3)]) (st' := [vR l0, vI l3]) rfl ?_
    obtain ⟨v3, e3, e⟩ := ob e
    refine hg_len (t := 2) rfl A (lA_e e3).1 (lA_e e3).2 (fun r3 => ?_)
    refine hg_run 4 (pc' := 24) (ls' := [some (vr l0), some (vi l1), some (vi (wmax l2 0)), some (vi (wmin l3 v3))]) (st' := [vI (wmin l3 v3), vI (wmax l2 0)]) rfl ?_
    rcases oi e with ⟨q4, e⟩ | ⟨q4, e⟩
    · refine hg_icT (tgt := 29) rfl (by decide) (rg_max _ _) (rg_min _ _) q4 ?_
      refine hg_run 4 (pc' := 33) (ls' := [some (vr l0), some (vi l1), some (vi (wmax l2 0)), some (vi (wmin l3 v3))]) (st' := [vI (wmin l3 v3), vI (wmax l2 0), vI l1, vR l0]) rfl ?_
      obtain ⟨v5, e5, e⟩ := ob e
      refine hg_cIp (as := [vR l0, vI l1, vI (wmax l2 0), vI (wmin l3 v3)]) (st' := []) rfl (fun _ _ _ _ => rfl) rfl rfl (Nat.le_of_ble_eq_true rfl) (Nat.le_of_ble_eq_true rfl) recv0 (t38 (by omega) A rl1 (rg_max _ _) (rg_min _ _) e5) (fun r5 => ?_)
      cases e
      exact hg_retI rfl (by decide) (fit_I _) (kr _ rfl r5)
    · refine hg_icF (tgt := 29) rfl (by decide) (rg_max _ _) (rg_min _ _) q4 ?_
      refine hg_run 1 (pc' := 28) (ls' := [some (vr l0), some (vi l1), some (vi (wmax l2 0)), some (vi (wmin l3 v3))]) (st' := [vI (-1)]) rfl ?_
      cases e
      exact hg_retI rfl (by decide) (fit_I _) (kr _ rfl (rgn (-1) rfl))
def c35 (l0 : Nat) (l1 : Int) (l2 : Int) (h : hS) : Option (Int) :=
  (kT h l0 2002).bind (fun u2 =>
  (c5 l0 h).bind (fun v1 =>
  if v1 = 0 then
  (gR h l0 2002 1).bind (fun v4 =>
  (kT h l0 2002).bind (fun u6 =>
  (c2 l0 h).bind (fun v5 =>
  none)))
  else
  (gR h l0 2002 1).bind (fun v7 =>
  (kT h l0 2002).bind (fun u9 =>
  (c2 l0 h).bind (fun v8 =>
  (c36 v7 l1 l2 v8 h).bind (fun v10 =>
  some v10))))))
theorem t35 {d : Nat} (hd : 3 ≤ d) {l0 : Nat} {l1 : Int} {l2 : Int} {h : hS} {w : mmW} {o : Int} (A : Abs h w) (rl1 : rg l1) (rl2 : rg l2) (e : c35 l0 l1 l2 h = some o) : hEv d 35 [vR l0, vI l1, vI l2] w (qIp o w) := by
  obtain ⟨d, rfl⟩ : ∃ d1, d = d1 + 1 := ⟨d - 1, by omega⟩
  have hd : 2 ≤ d := by omega
  refine hEv_start (args := [vr l0, vi l1, vi l2]) (nl := 3) rfl (Nat.le_of_ble_eq_true rfl) ?_
  show hG d 35 0 [some (vr l0), some (vi l1), some (vi l2)] [] w _
  have kr : ∀ v1 : Int, o = v1 → rg v1 → qIp o w (some (.int (Int32.ofInt v1)), w) := fun v1 q r => by cases q; exact ⟨rfl, r⟩
  unfold c35 at e
  refine hg_run 1 (pc' := 1) (ls' := [some (vr l0), some (vi l1), some (vi l2)]) (st' := [vR l0]) rfl ?_
  obtain ⟨u2, e2, e⟩ := ob e
  obtain ⟨v1, e1, e⟩ := ob e
  refine hg_cIp (as := [vR l0]) (st' := []) rfl (fun _ _ _ _ => rfl) rfl rfl (Nat.le_of_ble_eq_true rfl) (Nat.le_of_ble_eq_true rfl) (recvV A (a := 1000) (kT_e e2)) (t5 (by omega) A  e1) (fun r1 => ?_)
  rcases oi e with ⟨q3, e⟩ | ⟨q3, e⟩
  · refine hg_ifT (tgt := 23) rfl (by decide) r1 q3 ?_
    refine hg_run 1 (pc' := 24) (ls' := [some (vr l0), some (vi l1), some (vi l2)]) (st' := [vR l0]) rfl ?_
    obtain ⟨v4, e4, e⟩ := ob e
    refine gd_1000_1 rfl A e4 ?_
    refine hg_run 3 (pc' := 30) (ls' := [some (vr l0), some (vi l1), some (vi l2)]) (st' := [vR l0, vI l2, vI l1, vR v4]) rfl ?_
    obtain ⟨u6, e6, e⟩ := ob e
    obtain ⟨v5, e5, e⟩ := ob e
    refine hg_cIp (as := [vR l0]) (st' := [vI l2, vI l1, vR v4]) rfl (fun _ _ _ _ => rfl) rfl rfl (Nat.le_of_ble_eq_true rfl) (Nat.le_of_ble_eq_true rfl) (recvV A (a := 1000) (kT_e e6)) (t2 (by omega) A  e5) (fun r5 => ?_)
    cases e
  · refine hg_ifF (tgt := 23) rfl (by decide) r1 q3 ?_
    refine hg_run 1 (pc' := 8) (ls' := [some (vr l0), some (vi l1), some (vi l2)]) (st' := [vR l0]) rfl ?_
    obtain ⟨v7, e7, e⟩ := ob e
    refine gd_1000_1 rfl A e7 ?_
    refine hg_run 3 (pc' := 14) (ls' := [some (vr l0), some (vi l1), some (vi l2)]) (st' := [vR l0, vI l2, vI l1, vR v7]) rfl ?_
    obtain ⟨u9, e9, e⟩ := ob e
    obtain ⟨v8, e8, e⟩ := ob e
    refine hg_cIp (as := [vR l0]) (st' := [vI l2, vI l1, vR v7]) rfl (fun _ _ _ _ => rfl) rfl rfl (Nat.le_of_ble_eq_true rfl) (Nat.le_of_ble_eq_true rfl) (recvV A (a := 1000) (kT_e e9)) (t2 (by omega) A  e8) (fun r8 => ?_)
    obtain ⟨v10, e10, e⟩ := ob e
    refine hg_cIp (as := [vR v7, vI l1, vI l2, vI v8]) (st' := []) rfl (fun _ _ _ _ => rfl) rfl rfl (Nat.le_of_ble_eq_true rfl) (Nat.le_of_ble_eq_true rfl) recv0 (t36 (by omega) A rl1 rl2 r8 e10) (fun r10 => ?_)
    refine hg_run 1 (pc' := 36) (ls' := [some (vr l0), some (vi l1), some (vi l2)]) (st' := [vI v10]) rfl ?_
    cases e
    exact hg_retI rfl (by decide) (fit_I _) (kr _ rfl r10)
def c34 (l0 : Nat) (l1 : Int) (h : hS) : Option (Int) :=
  (kT h l0 2002).bind (fun u2 =>
  (c35 l0 l1 0 h).bind (fun v1 =>
  some v1))
theorem t34 {d : Nat} (hd : 4 ≤ d) {l0 : Nat} {l1 : Int} {h : hS} {w : mmW} {o : Int} (A : Abs h w) (rl1 : rg l1) (e : c34 l0 l1 h = some o) : hEv d 34 [vR l0, vI l1] w (qIp o w) := by
  obtain ⟨d, rfl⟩ : ∃ d1, d = d1 + 1 := ⟨d - 1, by omega⟩
  have hd : 3 ≤ d := by omega
  refine hEv_start (args := [vr l0, vi l1]) (nl := 2) rfl (Nat.le_of_ble_eq_true rfl) ?_
  show hG d 34 0 [some (vr l0), some (vi l1)] [] w _
  have kr : ∀ v1 : Int, o = v1 → rg v1 → qIp o w (some (.int (Int32.ofInt v1)), w) := fun v1 q r => by cases q; exact ⟨rfl, r⟩
  unfold c34 at e
  refine hg_run 3 (pc' := 3) (ls' := [some (vr l0), some (vi l1)]) (st' := [vI 0, vI l1, vR l0]) rfl ?_
  obtain ⟨u2, e2, e⟩ := ob e
  obtain ⟨v1, e1, e⟩ := ob e
  refine hg_cIp (as := [vR l0, vI l1, vI 0]) (st' := []) rfl (fun _ _ _ _ => rfl) rfl rfl (Nat.le_of_ble_eq_true rfl) (Nat.le_of_ble_eq_true rfl) (recvV A (a := 1000) (kT_e e2)) (t35 (by omega) A rl1 (rgn 0 rfl) e1) (fun r1 => ?_)
  cases e
  exact hg_retI rfl (by decide) (fit_I _) (kr _ rfl r1)
def c26_j103 (s1 : Int) (l1 : Int) (h : hS) : Option (Int × hS) :=
  (c30 s1 l1 0 h).bind (fun h12 =>
  some (1, h12))
theorem t26_j103 {d : Nat} (hd : 4 ≤ d) {s1 : Int} {l1 : Int} {z2 : Option hO} {h : hS} {w : mmW} {o : Int × hS} {Q : mmO → Prop} (rs1 : rg s1) (rl1 : rg l1) (A : Abs h w) (e : c26_j103 s1 l1 h = some o) (kr : ∀ (v1 : Int) (h1 : hS), o = (v1, h1) → ∀ w', rg v1 → Abs h1 w' → Q (some (.int (Int32.ofInt v1)), w')) : hG d 26 103 [some (vr 9), some (vi l1), z2] [vI s1, vR 9] w Q := by
  unfold c26_j103 at e
  refine hg_run 2 (pc' := 105) (ls' := [some (vr 9), some (vi l1), z2]) (st' := [vI 0, vI l1, vI s1, vR 9]) rfl ?_
  obtain ⟨h12, e12, e⟩ := ob e
  refine hg_cV (as := [vR 9, vI s1, vI l1, vI 0]) (st' := []) rfl (fun _ _ _ _ => rfl) rfl rfl (Nat.le_of_ble_eq_true rfl) (Nat.le_of_ble_eq_true rfl) (recvV A (a := 1) (Abs_ks A (i := 1) rfl).1) (t30 (by omega) A rs1 rl1 (rgn 0 rfl) e12) (fun w12 A12 => ?_)
  refine hg_run 1 (pc' := 109) (ls' := [some (vr 9), some (vi l1), z2]) (st' := [vI 1]) rfl ?_
  cases e
  exact hg_retI rfl (by decide) (fit_I _) (kr _ _ rfl _ (rgn 1 rfl) A12)
def c26_j87 (l1 : Int) (l2 : Int) (h : hS) : Option (Int × hS) :=
  (kT h 4 2002).bind (fun u10 =>
  (c34 4 (wchr l2) h).bind (fun v9 =>
  if v9 < 0 then
  c26_j103 3 l1 h
  else
  c26_j103 l2 l1 h))
theorem t26_j87 {d : Nat} (hd : 4 ≤ d) {l1 : Int} {l2 : Int}  {h : hS} {w : mmW} {o : Int × hS} {Q : mmO → Prop} (rl1 : rg l1) (rl2 : rg l2) (A : Abs h w) (e : c26_j87 l1 l2 h = some o) (kr : ∀ (v1 : Int) (h1 : hS), o = (v1, h1) → ∀ w', rg v1 → Abs h1 w' → Q (some (.int (Int32.ofInt v1)), w')) : hG d 26 87 [some (vr 9), some (vi l1), some (vi l2)] [] w Q := by
  unfold c26_j87 at e
  refine hg_run 4 (pc' := 92) (ls' := [some (vr 9), some (vi l1), some (vi l2)]) (st' := [vI (wchr l2), vR 4, vR 9]) rfl ?_
  obtain ⟨u10, e10, e⟩ := ob e
  obtain ⟨v9, e9, e⟩ := ob e
  refine hg_cIp (as := [vR 4, vI (wchr l2)]) (st' := [vR 9]) rfl (fun _ _ _ _ => rfl) rfl rfl (Nat.le_of_ble_eq_true rfl) (Nat.le_of_ble_eq_true rfl) (recvV A (a := 1000) (kT_e e10)) (t34 (by omega) A (rg_chr _) e9) (fun r9 => ?_)
  rcases oi e with ⟨q11, e⟩ | ⟨q11, e⟩
  · refine hg_ifT (tgt := 102) rfl (by decide) r9 q11 ?_
    refine hg_run 1 (pc' := 103) (ls' := [some (vr 9), some (vi l1), some (vi l2)]) (st' := [vI 3, vR 9]) rfl ?_
    exact t26_j103 hd (rgn 3 rfl) rl1 A e kr
  · refine hg_ifF (tgt := 102) rfl (by decide) r9 q11 ?_
    refine hg_run 2 (pc' := 103) (ls' := [some (vr 9), some (vi l1), some (vi l2)]) (st' := [vI l2, vR 9]) rfl ?_
    exact t26_j103 hd rl2 rl1 A e kr
def c26 (l1 : Int) (h : hS) : Option (Int × hS) :=
  (aIs h 10 1000 l1).bind (fun v1 =>
  if v1 = 32 then
  some (1, h)
  else
  if v1 = 10 then
  some (1, h)
  else
  (c27 v1 h).bind (fun v4 =>
  if v4 = 0 then
  (c31 v1 h).bind (fun v6 =>
  if v6 = 0 then
  if v1 = 61 then
  if (hI h 9 1) ≤ (wadd l1 1) then
  c26_j87 l1 v1 h
  else
  (aIs h 10 1000 (wadd l1 1)).bind (fun v14 =>
  if v14 = 61 then
  (c30 250 l1 0 h).bind (fun h16 =>
  some (2, h16))
  else
  c26_j87 l1 v1 h)
  else
  c26_j87 l1 v1 h
  else
  (c32 l1 h).bind (fun v17 =>
  some (v17.1, v17.2)))
  else
  (c28 l1 h).bind (fun v18 =>
  some (v18.1, v18.2))))
theorem t26 {d : Nat} (hd : 5 ≤ d) {l1 : Int} {h : hS} {w : mmW} {o : Int × hS} (A : Abs h w) (rl1 : rg l1) (e : c26 l1 h = some o) : hEv d 26 [vR 9, vI l1] w (qI o) := by
  obtain ⟨d, rfl⟩ : ∃ d1, d = d1 + 1 := ⟨d - 1, by omega⟩
  have hd : 4 ≤ d := by omega
  refine hEv_start (args := [vr 9, vi l1]) (nl := 3) rfl (Nat.le_of_ble_eq_true rfl) ?_
  show hG d 26 0 [some (vr 9), some (vi l1), none] [] w _
  have kr : ∀ (v1 : Int) (h1 : hS), o = (v1, h1) → ∀ w', rg v1 → Abs h1 w' → qI o (some (.int (Int32.ofInt v1)), w') := fun v1 h1 q w' r A' => by cases q; exact ⟨rfl, r, A'⟩
  unfold c26 at e
  refine hg_run 1 (pc' := 1) (ls' := [some (vr 9), some (vi l1), none]) (st' := [vR 9]) rfl ?_
  refine gs_9_0 rfl A ?_
  refine hg_run 1 (pc' := 5) (ls' := [some (vr 9), some (vi l1), none]) (st' := [vI l1, vR 10]) rfl ?_
  obtain ⟨v1, e1, e⟩ := ob e
  refine hg_aIs 0 rfl (fun _ _ _ _ => rfl) A (Abs_ks A (i := 2) rfl) rfl (by decide) e1 (fun r1 => ?_)
  refine hg_run 3 (pc' := 10) (ls' := [some (vr 9), some (vi l1), some (vi v1)]) (st' := [vI 32, vI v1]) rfl ?_
  rcases oi e with ⟨q2, e⟩ | ⟨q2, e⟩
  · refine hg_icT (tgt := 19) rfl (by decide) r1 (rgn 32 rfl) q2 ?_
    refine hg_run 1 (pc' := 20) (ls' := [some (vr 9), some (vi l1), some (vi v1)]) (st' := [vI 1]) rfl ?_
    cases e
    exact hg_retI rfl (by decide) (fit_I _) (kr _ _ rfl _ (rgn 1 rfl) A)
  · refine hg_icF (tgt := 19) rfl (by decide) r1 (rgn 32 rfl) q2 ?_
    refine hg_run 2 (pc' := 16) (ls' := [some (vr 9), some (vi l1), some (vi v1)]) (st' := [vI 10, vI v1]) rfl ?_
    rcases oi e with ⟨q3, e⟩ | ⟨q3, e⟩
    · refine hg_icF (tgt := 21) rfl (by decide) r1 (rgn 10 rfl) (show ¬ ¬ (v1 = 10) from fun f => f q3) ?_
      refine hg_run 1 (pc' := 20) (ls' := [some (vr 9), some (vi l1), some (vi v1)]) (st' := [vI 1]) rfl ?_
      cases e
      exact hg_retI rfl (by decide) (fit_I _) (kr _ _ rfl _ (rgn 1 rfl) A)
    · refine hg_icT (tgt := 21) rfl (by decide) r1 (rgn 10 rfl) (show ¬ (v1 = 10) from q3) ?_
      refine hg_run 1 (pc' := 22) (ls' := [some (vr 9), some (vi l1), some (vi v1)]) (st' := [vI v1]) rfl ?_
      obtain ⟨v4, e4, e⟩ := ob e
      refine hg_cIp (as := [vI v1]) (st' := []) rfl (fun _ _ _ _ => rfl) rfl rfl (Nat.le_of_ble_eq_true rfl) (Nat.le_of_ble_eq_true rfl) recv0 (t27 (by omega) A r1 e4) (fun r4 => ?_)
      rcases oi e with ⟨q5, e⟩ | ⟨q5, e⟩
      · refine hg_ifT (tgt := 34) rfl (by decide) r4 q5 ?_
        refine hg_run 1 (pc' := 35) (ls' := [some (vr 9), some (vi l1), some (vi v1)]) (st' := [vI v1]) rfl ?_
        obtain ⟨v6, e6, e⟩ := ob e
        refine hg_cIp (as := [vI v1]) (st' := []) rfl (fun _ _ _ _ => rfl) rfl rfl (Nat.le_of_ble_eq_true rfl) (Nat.le_of_ble_eq_true rfl) recv0 (t31 (by omega) A r1 e6) (fun r6 => ?_)
        rcases oi e with ⟨q7, e⟩ | ⟨q7, e⟩
        · refine hg_ifT (tgt := 47) rfl (by decide) r6 q7 ?_
          refine hg_run 2 (pc' := 50) (ls' := [some (vr 9), some (vi l1), some (vi v1)]) (st' := [vI 61, vI v1]) rfl ?_
          rcases oi e with ⟨q8, e⟩ | ⟨q8, e⟩
          · refine hg_icF (tgt := 87) rfl (by decide) r1 (rgn 61 rfl) (show ¬ ¬ (v1 = 61) from fun f => f q8) ?_
            refine hg_run 4 (pc' := 57) (ls' := [some (vr 9), some (vi l1), some (vi v1)]) (st' := [vR 9, vI (wadd l1 1)]) rfl ?_
            refine gs_9_1 rfl A ?_
            rcases oi e with ⟨q13, e⟩ | ⟨q13, e⟩
            · refine hg_icT (tgt := 87) rfl (by decide) (rg_add _ _) (Abs_rg A 9 1) q13 ?_
              exact t26_j87 hd rl1 r1 A e kr
            · refine hg_icF (tgt := 87) rfl (by decide) (rg_add _ _) (Abs_rg A 9 1) q13 ?_
              refine hg_run 1 (pc' := 64) (ls' := [some (vr 9), some (vi l1), some (vi v1)]) (st' := [vR 9]) rfl ?_
              refine gs_9_0 rfl A ?_
              refine hg_run 3 (pc' := 70) (ls' := [some (vr 9), some (vi l1), some (vi v1)]) (st' := [vI (wadd l1 1), vR 10]) rfl ?_
              obtain ⟨v14, e14, e⟩ := ob e
              refine hg_aIs 0 rfl (fun _ _ _ _ => rfl) A (Abs_ks A (i := 2) rfl) rfl (by decide) e14 (fun r14 => ?_)
              refine hg_run 1 (pc' := 73) (ls' := [some (vr 9), some (vi l1), some (vi v1)]) (st' := [vI 61, vI v14]) rfl ?_
              rcases oi e with ⟨q15, e⟩ | ⟨q15, e⟩
              · refine hg_icF (tgt := 87) rfl (by decide) r14 (rgn 61 rfl) (show ¬ ¬ (v14 = 61) from fun f => f q15) ?_
                refine hg_run 4 (pc' := 82) (ls' := [some (vr 9), some (vi l1), some (vi v1)]) (st' := [vI 0, vI l1, vI 250, vR 9]) rfl ?_
                obtain ⟨h16, e16, e⟩ := ob e
                refine hg_cV (as := [vR 9, vI 250, vI l1, vI 0]) (st' := []) rfl (fun _ _ _ _ => rfl) rfl rfl (Nat.le_of_ble_eq_true rfl) (Nat.le_of_ble_eq_true rfl) (recvV A (a := 1) (Abs_ks A (i := 1) rfl).1) (t30 (by omega) A (rgn 250 rfl) rl1 (rgn 0 rfl) e16) (fun w16 A16 => ?_)
                refine hg_run 1 (pc' := 86) (ls' := [some (vr 9), some (vi l1), some (vi v1)]) (st' := [vI 2]) rfl ?_
                cases e
                exact hg_retI rfl (by decide) (fit_I _) (kr _ _ rfl _ (rgn 2 rfl) A16)
              · refine hg_icT (tgt := 87) rfl (by decide) r14 (rgn 61 rfl) (show ¬ (v14 = 61) from q15) ?_
                exact t26_j87 hd rl1 r1 A e kr
          · refine hg_icT (tgt := 87) rfl (by decide) r1 (rgn 61 rfl) (show ¬ (v1 = 61) from q8) ?_
            exact t26_j87 hd rl1 r1 A e kr
        · refine hg_ifF (tgt := 47) rfl (by decide) r6 q7 ?_
          refine hg_run 2 (pc' := 43) (ls' := [some (vr 9), some (vi l1), some (vi v1)]) (st' := [vI l1, vR 9]) rfl ?_
          obtain ⟨v17, e17, e⟩ := ob e
          refine hg_cI (as := [vR 9, vI l1]) (st' := []) rfl (fun _ _ _ _ => rfl) rfl rfl (Nat.le_of_ble_eq_true rfl) (Nat.le_of_ble_eq_true rfl) (recvV A (a := 1) (Abs_ks A (i := 1) rfl).1) (t32 (by omega) A rl1 e17) (fun w17 r17 A17 => ?_)
          cases e
          exact hg_retI rfl (by decide) (fit_I _) (kr _ _ rfl _ r17 A17)
      · refine hg_ifF (tgt := 34) rfl (by decide) r4 q5 ?_
        refine hg_run 2 (pc' := 30) (ls' := [some (vr 9), some (vi l1), some (vi v1)]) (st' := [vI l1, vR 9]) rfl ?_
        obtain ⟨v18, e18, e⟩ := ob e
        refine hg_cI (as := [vR 9, vI l1]) (st' := []) rfl (fun _ _ _ _ => rfl) rfl rfl (Nat.le_of_ble_eq_true rfl) (Nat.le_of_ble_eq_true rfl) (recvV A (a := 1) (Abs_ks A (i := 1) rfl).1) (t28 (by omega) A rl1 e18) (fun w18 r18 A18 => ?_)
        cases e
        exact hg_retI rfl (by decide) (fit_I _) (kr _ _ rfl _ r18 A18)
def c25_b7 (l1 : Int) (h : hS) : Option ((Int × hS) ⊕ (hS)) :=
  if (hI h 9 1) ≤ l1 then
  some (.inr (h))
  else
  (c26 l1 h).bind (fun v3 =>
  some (.inl ((wadd l1 (wmax 1 v3.1)), v3.2)))
theorem t25_b7 {d : Nat} (hd : 5 ≤ d) {l1 : Int}  {h : hS} {w : mmW} {o : (Int × hS) ⊕ (hS)} {Q : mmO → Prop} (rl1 : rg l1) (A : Abs h w) (e : c25_b7 l1 h = some o) (kb : ∀ (s_0 : Int) (s_1 : hS), o = .inl (s_0, s_1) → ∀ w', rg s_0 → Abs s_1 w' → hG d 25 7 [some (vr 9), some (vi s_0)] [] w' Q) (ke : ∀ (x_0 : hS), o = .inr (x_0) → ∀ w', ∀ (y1 : Option hO), Abs x_0 w' → hG d 25 30 [some (vr 9), y1] [] w' Q) : hG d 25 7 [some (vr 9), some (vi l1)] [] w Q := by
  unfold c25_b7 at e
  refine hg_run 2 (pc' := 9) (ls' := [some (vr 9), some (vi l1)]) (st' := [vR 9, vI l1]) rfl ?_
  refine gs_9_1 rfl A ?_
  rcases oi e with ⟨q2, e⟩ | ⟨q2, e⟩
  · refine hg_icT (tgt := 30) rfl (by decide) rl1 (Abs_rg A 9 1) q2 ?_
    cases e
    exact ke h rfl _ _  A
  · refine hg_icF (tgt := 30) rfl (by decide) rl1 (Abs_rg A 9 1) q2 ?_
    refine hg_run 4 (pc' := 19) (ls' := [some (vr 9), some (vi l1)]) (st' := [vI l1, vR 9, vI 1, vI l1]) rfl ?_
    obtain ⟨v3, e3, e⟩ := ob e
    refine hg_cI (as := [vR 9, vI l1]) (st' := [vI 1, vI l1]) rfl (fun _ _ _ _ => rfl) rfl rfl (Nat.le_of_ble_eq_true rfl) (Nat.le_of_ble_eq_true rfl) (recvV A (a := 1) (Abs_ks A (i := 1) rfl).1) (t26 (by omega) A rl1 e3) (fun w3 r3 A3 => ?_)
    refine hg_run 4 (pc' := 7) (ls' := [some (vr 9), some (vi (wadd l1 (wmax 1 v3.1)))]) (st' := []) rfl ?_
    cases e
    exact kb (wadd l1 (wmax 1 v3.1)) v3.2 rfl _ (rg_add _ _) A3
theorem t25_l7 {d : Nat} (hd : 5 ≤ d)   {Q : mmO → Prop}  (n : Nat) {l1 : Int}  {h : hS} {w : mmW} {r : hS} (rl1 : rg l1) (A : Abs h w) (e : lp (fun s => c25_b7  s.1 s.2) n (l1, h) = some r) (ke : ∀ (x_0 : hS), r = (x_0) → ∀ w', ∀ (y1 : Option hO), Abs x_0 w' → hG d 25 30 [some (vr 9), y1] [] w' Q) : hG d 25 7 [some (vr 9), some (vi l1)] [] w Q := by
  induction n generalizing l1 h w with
  | zero => cases e
  | succ n ih =>
    rcases lp_succ e with ⟨s1, e1, e2⟩ | e1
    · exact t25_b7 hd rl1 A e1 (fun s_0 s_1 q w1 rl1 A1 => by cases q; exact ih rl1 A1 e2) (fun x_0 q => by cases q)
    · exact t25_b7 hd rl1 A e1 (fun s_0 s_1 q => by cases q) (fun x_0 q => by cases q; exact ke _ rfl)
def c25 (h : hS) : Option (hS) :=
  (some (sI h 9 5 0)).bind (fun h1 =>
  (lp (fun s => c25_b7  s.1 s.2) hF0 (0, h1)).bind (fun r4 =>
  (c30 4 (hI r4 9 1) 0 r4).bind (fun h5 =>
  (some (sI h5 9 1 0)).bind (fun h6 =>
  some h6))))
theorem t25 {d : Nat} (hd : 6 ≤ d)  {h : hS} {w : mmW} {o : hS} (A : Abs h w)  (e : c25 h = some o) : hEv d 25 [vR 9] w (qV o) := by
  obtain ⟨d, rfl⟩ : ∃ d1, d = d1 + 1 := ⟨d - 1, by omega⟩
  have hd : 5 ≤ d := by omega
  refine hEv_start (args := [vr 9]) (nl := 2) rfl (Nat.le_of_ble_eq_true rfl) ?_
  show hG d 25 0 [some (vr 9), none] [] w _
  have kr : ∀ h1 : hS, o = h1 → ∀ w', Abs h1 w' → qV o (none, w') := fun h1 q w' A' => by cases q; exact ⟨rfl, A'⟩
  unfold c25 at e
  refine hg_run 2 (pc' := 2) (ls' := [some (vr 9), none]) (st' := [vI 0, vR 9]) rfl ?_
  obtain ⟨h1, e1, e⟩ := ob e
  refine ps_9_5 rfl A (rgn 0 rfl) e1 (fun w1 A1 => ?_)
  refine hg_run 2 (pc' := 7) (ls' := [some (vr 9), some (vi 0)]) (st' := []) rfl ?_
  obtain ⟨r4, e4, e⟩ := ob e
  refine t25_l7 hd  _ (rgn 0 rfl) A1 e4 ?_
  intro x4_0 qq4 w4 z4_1 A4
  subst qq4
  refine hg_run 3 (pc' := 33) (ls' := [some (vr 9), z4_1]) (st' := [vR 9, vI 4, vR 9]) rfl ?_
  refine gs_9_1 rfl A4 ?_
  refine hg_run 1 (pc' := 37) (ls' := [some (vr 9), z4_1]) (st' := [vI 0, vI (hI r4 9 1), vI 4, vR 9]) rfl ?_
  obtain ⟨h5, e5, e⟩ := ob e
  refine hg_cV (as := [vR 9, vI 4, vI (hI r4 9 1), vI 0]) (st' := []) rfl (fun _ _ _ _ => rfl) rfl rfl (Nat.le_of_ble_eq_true rfl) (Nat.le_of_ble_eq_true rfl) (recvV A4 (a := 1) (Abs_ks A4 (i := 1) rfl).1) (t30 (by omega) A4 (rgn 4 rfl) (Abs_rg A4 9 1) (rgn 0 rfl) e5) (fun w5 A5 => ?_)
  refine hg_run 2 (pc' := 42) (ls' := [some (vr 9), z4_1]) (st' := [vI 0, vR 9]) rfl ?_
  obtain ⟨h6, e6, e⟩ := ob e
  refine ps_9_1 rfl A5 (rgn 0 rfl) e6 (fun w6 A6 => ?_)
  cases e
  exact hg_retV rfl (kr _ rfl _ A6)
def c39 (h : hS) : Option (Int) :=
  if (hI h 15 3) < 0 then
  some 4
  else
  if (hI h 9 5) ≤ (hI h 15 3) then
  some 4
  else
  (aIs h 11 1001 (hI h 15 3)).bind (fun v3 =>
  some v3)
theorem t39 {d : Nat} (hd : 1 ≤ d)  {h : hS} {w : mmW} {o : Int} (A : Abs h w)  (e : c39 h = some o) : hEv d 39 [vR 15] w (qIp o w) := by
  obtain ⟨d, rfl⟩ : ∃ d1, d = d1 + 1 := ⟨d - 1, by omega⟩
  have hd : 0 ≤ d := by omega
  refine hEv_start (args := [vr 15]) (nl := 1) rfl (Nat.le_of_ble_eq_true rfl) ?_
  show hG d 39 0 [some (vr 15)] [] w _
  have kr : ∀ v1 : Int, o = v1 → rg v1 → qIp o w (some (.int (Int32.ofInt v1)), w) := fun v1 q r => by cases q; exact ⟨rfl, r⟩
  unfold c39 at e
  refine hg_run 1 (pc' := 1) (ls' := [some (vr 15)]) (st' := [vR 15]) rfl ?_
  refine gs_15_3 rfl A ?_
  rcases oi e with ⟨q1, e⟩ | ⟨q1, e⟩
  · refine hg_ifT (tgt := 36) rfl (by decide) (Abs_rg A 15 3) q1 ?_
    refine hg_run 1 (pc' := 37) (ls' := [some (vr 15)]) (st' := [vI 4]) rfl ?_
    cases e
    exact hg_retI rfl (by decide) (fit_I _) (kr _ rfl (rgn 4 rfl))
  · refine hg_ifF (tgt := 36) rfl (by decide) (Abs_rg A 15 3) q1 ?_
    refine hg_run 1 (pc' := 8) (ls' := [some (vr 15)]) (st' := [vR 15]) rfl ?_
    refine gs_15_3 rfl A ?_
    refine hg_run 1 (pc' := 12) (ls' := [some (vr 15)]) (st' := [vR 15, vI (hI h 15 3)]) rfl ?_
    refine gs_15_0 rfl A ?_
    refine gs_9_5 rfl A ?_
    rcases oi e with ⟨q2, e⟩ | ⟨q2, e⟩
    · refine hg_icT (tgt := 36) rfl (by decide) (Abs_rg A 15 3) (Abs_rg A 9 5) q2 ?_
      refine hg_run 1 (pc' := 37) (ls' := [some (vr 15)]) (st' := [vI 4]) rfl ?_
      cases e
      exact hg_retI rfl (by decide) (fit_I _) (kr _ rfl (rgn 4 rfl))
    · refine hg_icF (tgt := 36) rfl (by decide) (Abs_rg A 15 3) (Abs_rg A 9 5) q2 ?_
      refine hg_run 1 (pc' := 22) (ls' := [some (vr 15)]) (st' := [vR 15]) rfl ?_
      refine gs_15_0 rfl A ?_
      refine gs_9_2 rfl A ?_
      refine hg_run 1 (pc' := 29) (ls' := [some (vr 15)]) (st' := [vR 15, vR 11]) rfl ?_
      refine gs_15_3 rfl A ?_
      obtain ⟨v3, e3, e⟩ := ob e
      refine hg_aIs 0 rfl (fun _ _ _ _ => rfl) A (Abs_ks A (i := 3) rfl) rfl (by decide) e3 (fun r3 => ?_)
      refine hg_run 1 (pc' := 37) (ls' := [some (vr 15)]) (st' := [vI v3]) rfl ?_
      cases e
      exact hg_retI rfl (by decide) (fit_I _) (kr _ rfl r3)
def c40_b2 (l1 : Int) (h : hS) (l2 : Int) : Option ((Int) ⊕ ((Unit) ⊕ (Int × hS))) :=
  if (hI h 15 2) ≤ l2 then
  some (.inr (.inl ()))
  else
  (aIs h 16 40 l2).bind (fun v2 =>
  if v2 = l1 then
  some (.inr (.inr (l2, h)))
  else
  some (.inl ((wadd l2 1))))
theorem t40_b2 {d : Nat} (hd : 0 ≤ d) {l1 : Int} {l2 : Int}  {h : hS} {w : mmW} {o : (Int) ⊕ ((Unit) ⊕ (Int × hS))} {Q : mmO → Prop} (rl1 : rg l1) (rl2 : rg l2) (A : Abs h w) (e : c40_b2 l1 h l2 = some o) (kb : ∀ (s_0 : Int), o = .inl (s_0) → rg s_0 → hG d 40 2 [some (vr 15), some (vi l1), some (vi s_0)] [] w Q) (ke : o = .inr (.inl ()) → ∀ (y2 : Option hO), hG d 40 28 [some (vr 15), some (vi l1), y2] [] w Q) (kr : ∀ (v1 : Int) (h1 : hS), o = .inr (.inr (v1, h1)) → ∀ w', rg v1 → Abs h1 w' → Q (some (.int (Int32.ofInt v1)), w')) : hG d 40 2 [some (vr 15), some (vi l1), some (vi l2)] [] w Q := by
  unfold c40_b2 at e
  refine hg_run 2 (pc' := 4) (ls' := [some (vr 15), some (vi l1), some (vi l2)]) (st' := [vR 15, vI l2]) rfl ?_
  refine gs_15_2 rfl A ?_
  rcases oi e with ⟨q1, e⟩ | ⟨q1, e⟩
  · refine hg_icT (tgt := 28) rfl (by decide) rl2 (Abs_rg A 15 2) q1 ?_
    cases e
    exact ke  rfl _ 
  · refine hg_icF (tgt := 28) rfl (by decide) rl2 (Abs_rg A 15 2) q1 ?_
    refine hg_run 1 (pc' := 11) (ls' := [some (vr 15), some (vi l1), some (vi l2)]) (st' := [vR 15]) rfl ?_
    refine gs_15_1 rfl A ?_
    refine hg_run 1 (pc' := 15) (ls' := [some (vr 15), some (vi l1), some (vi l2)]) (st' := [vI l2, vR 16]) rfl ?_
    obtain ⟨v2, e2, e⟩ := ob e
    refine hg_aIs 0 rfl (fun _ _ _ _ => rfl) A (Abs_ks A (i := 8) rfl) rfl (by decide) e2 (fun r2 => ?_)
    refine hg_run 1 (pc' := 17) (ls' := [some (vr 15), some (vi l1), some (vi l2)]) (st' := [vI l1, vI v2]) rfl ?_
    rcases oi e with ⟨q3, e⟩ | ⟨q3, e⟩
    · refine hg_icF (tgt := 22) rfl (by decide) r2 rl1 (show ¬ ¬ (v2 = l1) from fun f => f q3) ?_
      refine hg_run 1 (pc' := 21) (ls' := [some (vr 15), some (vi l1), some (vi l2)]) (st' := [vI l2]) rfl ?_
      cases e
      exact hg_retI rfl (by decide) (fit_I _) (kr _ _ rfl _ rl2 A)
    · refine hg_icT (tgt := 22) rfl (by decide) r2 rl1 (show ¬ (v2 = l1) from q3) ?_
      refine hg_run 2 (pc' := 2) (ls' := [some (vr 15), some (vi l1), some (vi (wadd l2 1))]) (st' := []) rfl ?_
      cases e
      exact kb (wadd l2 1) rfl (rg_add _ _)
theorem t40_l2 {d : Nat} (hd : 0 ≤ d) {l1 : Int}  {h : hS} {w : mmW} {Q : mmO → Prop} (rl1 : rg l1) (n : Nat) {l2 : Int}  {r : (Unit) ⊕ (Int × hS)} (rl2 : rg l2) (A : Abs h w) (e : lp (fun s => c40_b2 l1 h s) n (l2) = some r) (ke : r = .inl () → ∀ (y2 : Option hO), hG d 40 28 [some (vr 15), some (vi l1), y2] [] w Q) (kr : ∀ (v1 : Int) (h1 : hS), r = .inr (v1, h1) → ∀ w', rg v1 → Abs h1 w' → Q (some (.int (Int32.ofInt v1)), w')) : hG d 40 2 [some (vr 15), some (vi l1), some (vi l2)] [] w Q := by
  induction n generalizing l2 with
  | zero => cases e
  | succ n ih =>
    rcases lp_succ e with ⟨s1, e1, e2⟩ | e1
    · exact t40_b2 hd rl1 rl2 A e1 (fun s_0 q rl2 => by cases q; exact ih rl2 e2) (fun  q => by cases q) (fun v0 h0 q => by cases q)
    · exact t40_b2 hd rl1 rl2 A e1 (fun s_0 q => by cases q) (fun  q => by cases q; exact ke  rfl) (fun v0 h0 q => by cases q; exact kr _ _ rfl)
def c40 (l1 : Int) (h : hS) : Option (Int × hS) :=
  (lp (fun s => c40_b2 l1 h s) hF0 (0)).bind (fun r4 => xs r4 (fun x4 =>
  if (hI h 15 2) < 40 then
  (wIs h 16 40 (hI h 15 2) l1).bind (fun h6 =>
  (some (sI h6 15 2 (wadd (hI h6 15 2) 1))).bind (fun h7 =>
  some ((wsub (hI h7 15 2) 1), h7)))
  else
  some ((-1), h)) (fun o4 => some o4))
theorem t40 {d : Nat} (hd : 1 ≤ d) {l1 : Int} {h : hS} {w : mmW} {o : Int × hS} (A : Abs h w) (rl1 : rg l1) (e : c40 l1 h = some o) : hEv d 40 [vR 15, vI l1] w (qI o) := by
  obtain ⟨d, rfl⟩ : ∃ d1, d = d1 + 1 := ⟨d - 1, by omega⟩
  have hd : 0 ≤ d := by omega
  refine hEv_start (args := [vr 15, vi l1]) (nl := 3) rfl (Nat.le_of_ble_eq_true rfl) ?_
  show hG d 40 0 [some (vr 15), some (vi l1), none] [] w _
  have kr : ∀ (v1 : Int) (h1 : hS), o = (v1, h1) → ∀ w', rg v1 → Abs h1 w' → qI o (some (.int (Int32.ofInt v1)), w') := fun v1 h1 q w' r A' => by cases q; exact ⟨rfl, r, A'⟩
  unfold c40 at e
  refine hg_run 2 (pc' := 2) (ls' := [some (vr 15), some (vi l1), some (vi 0)]) (st' := []) rfl ?_
  obtain ⟨r4, e4, e⟩ := ob e
  refine t40_l2 hd rl1 _ (rgn 0 rfl) A e4 ?_ ?_
  · intro  qq4 z4_2
    subst qq4
    have e := xs_l e
    refine hg_run 1 (pc' := 29) (ls' := [some (vr 15), some (vi l1), z4_2]) (st' := [vR 15]) rfl ?_
    refine gs_15_2 rfl A ?_
    refine hg_run 1 (pc' := 34) (ls' := [some (vr 15), some (vi l1), z4_2]) (st' := [vI 40, vI (hI h 15 2)]) rfl ?_
    rcases oi e with ⟨q5, e⟩ | ⟨q5, e⟩
    · refine hg_icT (tgt := 39) rfl (by decide) (Abs_rg A 15 2) (rgn 40 rfl) q5 ?_
      refine hg_run 1 (pc' := 40) (ls' := [some (vr 15), some (vi l1), z4_2]) (st' := [vR 15]) rfl ?_
      refine gs_15_1 rfl A ?_
      refine hg_run 1 (pc' := 44) (ls' := [some (vr 15), some (vi l1), z4_2]) (st' := [vR 15, vR 16]) rfl ?_
      refine gs_15_2 rfl A ?_
      refine hg_run 1 (pc' := 48) (ls' := [some (vr 15), some (vi l1), z4_2]) (st' := [vI l1, vI (hI h 15 2), vR 16]) rfl ?_
      obtain ⟨h6, e6, e⟩ := ob e
      refine hg_wIs rfl A (Abs_ks A (i := 8) rfl) (by decide) rl1 e6 (fun w6 A6 => ?_)
      refine hg_run 2 (pc' := 51) (ls' := [some (vr 15), some (vi l1), z4_2]) (st' := [vR 15, vR 15]) rfl ?_
      refine gs_15_2 rfl A6 ?_
      refine hg_run 2 (pc' := 56) (ls' := [some (vr 15), some (vi l1), z4_2]) (st' := [vI (wadd (hI h6 15 2) 1), vR 15]) rfl ?_
      obtain ⟨h7, e7, e⟩ := ob e
      refine ps_15_2 rfl A6 (rg_add _ _) e7 (fun w7 A7 => ?_)
      refine hg_run 1 (pc' := 60) (ls' := [some (vr 15), some (vi l1), z4_2]) (st' := [vR 15]) rfl ?_
      refine gs_15_2 rfl A7 ?_
      refine hg_run 2 (pc' := 65) (ls' := [some (vr 15), some (vi l1), z4_2]) (st' := [vI (wsub (hI h7 15 2) 1)]) rfl ?_
      cases e
      exact hg_retI rfl (by decide) (fit_I _) (kr _ _ rfl _ (rg_sub _ _) A7)
    · refine hg_icF (tgt := 39) rfl (by decide) (Abs_rg A 15 2) (rgn 40 rfl) q5 ?_
      refine hg_run 1 (pc' := 38) (ls' := [some (vr 15), some (vi l1), z4_2]) (st' := [vI (-1)]) rfl ?_
      cases e
      exact hg_retI rfl (by decide) (fit_I _) (kr _ _ rfl _ (rgn (-1) rfl) A)
  · intro v4 h4 qq4 w4 r4 A4
    subst qq4
    have e := xs_r e
    cases e
    exact kr _ _ rfl w4 r4 A4
def c24 (h : hS) : Option (Int × hS) :=
  (c25  h).bind (fun h1 =>
  (some (sI h1 15 3 0)).bind (fun h2 =>
  (c39  h2).bind (fun v3 =>
  if v3 = 1 then
  (aIs h2 13 1001 (hI h2 15 3)).bind (fun v5 =>
  (c40 v5 h2).bind (fun v6 =>
  (some (sI v6.2 15 3 (wadd (hI v6.2 15 3) 1))).bind (fun h7 =>
  (c39  h7).bind (fun v8 =>
  if v8 = 4 then
  some (v6.1, h7)
  else
  some ((-1), h7)))))
  else
  some ((-1), h2))))
theorem t24 {d : Nat} (hd : 7 ≤ d)  {h : hS} {w : mmW} {o : Int × hS} (A : Abs h w)  (e : c24 h = some o) : hEv d 24 [vR 15] w (qI o) := by
  obtain ⟨d, rfl⟩ : ∃ d1, d = d1 + 1 := ⟨d - 1, by omega⟩
  have hd : 6 ≤ d := by omega
  refine hEv_start (args := [vr 15]) (nl := 2) rfl (Nat.le_of_ble_eq_true rfl) ?_
  show hG d 24 0 [some (vr 15), none] [] w _
  have kr : ∀ (v1 : Int) (h1 : hS), o = (v1, h1) → ∀ w', rg v1 → Abs h1 w' → qI o (some (.int (Int32.ofInt v1)), w') := fun v1 h1 q w' r A' => by cases q; exact ⟨rfl, r, A'⟩
  unfold c24 at e
  refine hg_run 1 (pc' := 1) (ls' := [some (vr 15), none]) (st' := [vR 15]) rfl ?_
  refine gs_15_0 rfl A ?_
  obtain ⟨h1, e1, e⟩ := ob e
  refine hg_cV (as := [vR 9]) (st' := []) rfl (fun _ _ _ _ => rfl) rfl rfl (Nat.le_of_ble_eq_true rfl) (Nat.le_of_ble_eq_true rfl) (recvV A (a := 1) (Abs_ks A (i := 1) rfl).1) (t25 (by omega) A  e1) (fun w1 A1 => ?_)
  refine hg_run 2 (pc' := 9) (ls' := [some (vr 15), none]) (st' := [vI 0, vR 15]) rfl ?_
  obtain ⟨h2, e2, e⟩ := ob e
  refine ps_15_3 rfl A1 (rgn 0 rfl) e2 (fun w2 A2 => ?_)
  refine hg_run 1 (pc' := 13) (ls' := [some (vr 15), none]) (st' := [vR 15]) rfl ?_
  obtain ⟨v3, e3, e⟩ := ob e
  refine hg_cIp (as := [vR 15]) (st' := []) rfl (fun _ _ _ _ => rfl) rfl rfl (Nat.le_of_ble_eq_true rfl) (Nat.le_of_ble_eq_true rfl) (recvV A2 (a := 2) (Abs_ks A2 (i := 7) rfl).1) (t39 (by omega) A2  e3) (fun r3 => ?_)
  refine hg_run 1 (pc' := 17) (ls' := [some (vr 15), none]) (st' := [vI 1, vI v3]) rfl ?_
  rcases oi e with ⟨q4, e⟩ | ⟨q4, e⟩
  · refine hg_icT (tgt := 22) rfl (by decide) r3 (rgn 1 rfl) q4 ?_
    refine hg_run 2 (pc' := 24) (ls' := [some (vr 15), none]) (st' := [vR 15, vR 15]) rfl ?_
    refine gs_15_0 rfl A2 ?_
    refine gs_9_4 rfl A2 ?_
    refine hg_run 1 (pc' := 31) (ls' := [some (vr 15), none]) (st' := [vR 15, vR 13, vR 15]) rfl ?_
    refine gs_15_3 rfl A2 ?_
    obtain ⟨v5, e5, e⟩ := ob e
    refine hg_aIs 0 rfl (fun _ _ _ _ => rfl) A2 (Abs_ks A2 (i := 5) rfl) rfl (by decide) e5 (fun r5 => ?_)
    obtain ⟨v6, e6, e⟩ := ob e
    refine hg_cI (as := [vR 15, vI v5]) (st' := []) rfl (fun _ _ _ _ => rfl) rfl rfl (Nat.le_of_ble_eq_true rfl) (Nat.le_of_ble_eq_true rfl) (recvV A2 (a := 2) (Abs_ks A2 (i := 7) rfl).1) (t40 (by omega) A2 r5 e6) (fun w6 r6 A6 => ?_)
    refine hg_run 3 (pc' := 41) (ls' := [some (vr 15), some (vi v6.1)]) (st' := [vR 15, vR 15]) rfl ?_
    refine gs_15_3 rfl A6 ?_
    refine hg_run 2 (pc' := 46) (ls' := [some (vr 15), some (vi v6.1)]) (st' := [vI (wadd (hI v6.2 15 3) 1), vR 15]) rfl ?_
    obtain ⟨h7, e7, e⟩ := ob e
    refine ps_15_3 rfl A6 (rg_add _ _) e7 (fun w7 A7 => ?_)
    refine hg_run 1 (pc' := 50) (ls' := [some (vr 15), some (vi v6.1)]) (st' := [vR 15]) rfl ?_
    obtain ⟨v8, e8, e⟩ := ob e
    refine hg_cIp (as := [vR 15]) (st' := []) rfl (fun _ _ _ _ => rfl) rfl rfl (Nat.le_of_ble_eq_true rfl) (Nat.le_of_ble_eq_true rfl) (recvV A7 (a := 2) (Abs_ks A7 (i := 7) rfl).1) (t39 (by omega) A7  e8) (fun r8 => ?_)
    refine hg_run 1 (pc' := 54) (ls' := [some (vr 15), some (vi v6.1)]) (st' := [vI 4, vI v8]) rfl ?_
    rcases oi e with ⟨q9, e⟩ | ⟨q9, e⟩
    · refine hg_icF (tgt := 61) rfl (by decide) r8 (rgn 4 rfl) (show ¬ ¬ (v8 = 4) from fun f => f q9) ?_
      refine hg_run 2 (pc' := 62) (ls' := [some (vr 15), some (vi v6.1)]) (st' := [vI v6.1]) rfl ?_
      cases e
      exact hg_retI rfl (by decide) (fit_I _) (kr _ _ rfl _ r6 A7)
    · refine hg_icT (tgt := 61) rfl (by decide) r8 (rgn 4 rfl) (show ¬ (v8 = 4) from q9) ?_
      refine hg_run 1 (pc' := 62) (ls' := [some (vr 15), some (vi v6.1)]) (st' := [vI (-1)]) rfl ?_
      cases e
      exact hg_retI rfl (by decide) (fit_I _) (kr _ _ rfl _ (rgn (-1) rfl) A7)
  · refine hg_icF (tgt := 22) rfl (by decide) r3 (rgn 1 rfl) q4 ?_
    refine hg_run 1 (pc' := 21) (ls' := [some (vr 15), none]) (st' := [vI (-1)]) rfl ?_
    cases e
    exact hg_retI rfl (by decide) (fit_I _) (kr _ _ rfl _ (rgn (-1) rfl) A2)
def c23 (h : hS) : Option (Int × hS) :=
  (c24  h).bind (fun v1 =>
  some (v1.1, v1.2))
theorem t23 {d : Nat} (hd : 8 ≤ d)  {h : hS} {w : mmW} {o : Int × hS} (A : Abs h w)  (e : c23 h = some o) : hEv d 23 [vR 8] w (qI o) := by
  obtain ⟨d, rfl⟩ : ∃ d1, d = d1 + 1 := ⟨d - 1, by omega⟩
  have hd : 7 ≤ d := by omega
  refine hEv_start (args := [vr 8]) (nl := 1) rfl (Nat.le_of_ble_eq_true rfl) ?_
  show hG d 23 0 [some (vr 8)] [] w _
  have kr : ∀ (v1 : Int) (h1 : hS), o = (v1, h1) → ∀ w', rg v1 → Abs h1 w' → qI o (some (.int (Int32.ofInt v1)), w') := fun v1 h1 q w' r A' => by cases q; exact ⟨rfl, r, A'⟩
  unfold c23 at e
  refine hg_run 1 (pc' := 1) (ls' := [some (vr 8)]) (st' := [vR 8]) rfl ?_
  refine gs_8_1 rfl A ?_
  obtain ⟨v1, e1, e⟩ := ob e
  refine hg_cI (as := [vR 15]) (st' := []) rfl (fun _ _ _ _ => rfl) rfl rfl (Nat.le_of_ble_eq_true rfl) (Nat.le_of_ble_eq_true rfl) (recvV A (a := 2) (Abs_ks A (i := 7) rfl).1) (t24 (by omega) A  e1) (fun w1 r1 A1 => ?_)
  cases e
  exact hg_retI rfl (by decide) (fit_I _) (kr _ _ rfl _ r1 A1)
def c18 (l0 : Nat) (h : hS) : Option (hS) :=
  (k8 l0).bind (fun u1 =>
  (nA h 17 12).bind (fun h2 =>
  (pR h2 l0 18 0 (hN h)).bind (fun h3 =>
  some h3)))
theorem t18 {d : Nat} (hd : 1 ≤ d) {l0 : Nat} {h : hS} {w : mmW} {o : hS} (A : Abs h w)  (e : c18 l0 h = some o) : hEv d 18 [vR l0] w (qV o) := by
  obtain ⟨d, rfl⟩ : ∃ d1, d = d1 + 1 := ⟨d - 1, by omega⟩
  have hd : 0 ≤ d := by omega
  refine hEv_start (args := [vr l0]) (nl := 1) rfl (Nat.le_of_ble_eq_true rfl) ?_
  show hG d 18 0 [some (vr l0)] [] w _
  have kr : ∀ h1 : hS, o = h1 → ∀ w', Abs h1 w' → qV o (none, w') := fun h1 q w' A' => by cases q; exact ⟨rfl, A'⟩
  unfold c18 at e
  refine hg_run 1 (pc' := 1) (ls' := [some (vr l0)]) (st' := [vR l0]) rfl ?_
  obtain ⟨u1, e1, e⟩ := ob e
  refine hg_objc rfl (k8_e e1) (Nat.le_of_ble_eq_true rfl) ?_
  refine hg_run 2 (pc' := 7) (ls' := [some (vr l0)]) (st' := [vI 12, vR l0]) rfl ?_
  obtain ⟨h2, e2, e⟩ := ob e
  refine hg_nA (t := 8) rfl (fun _ _ _ _ => rfl) A (nA_e e2).1 (nA_e e2).2 (fun w2 A2 => ?_)
  obtain ⟨h3, e3, e⟩ := ob e
  refine pd_8_0 rfl A2 e3 (fun w3 A3 => ?_)
  cases e
  exact hg_retV rfl (kr _ rfl _ A3)
def c13 (l0 : Nat) (h : hS) : Option (Unit) :=
  (k8 l0).bind (fun u1 =>
  some ())
theorem t13 {d : Nat} (hd : 1 ≤ d) {l0 : Nat} {h : hS} {w : mmW} {o : Unit} (A : Abs h w)  (e : c13 l0 h = some o) : hEv d 13 [vR l0] w (qVp w) := by
  obtain ⟨d, rfl⟩ : ∃ d1, d = d1 + 1 := ⟨d - 1, by omega⟩
  have hd : 0 ≤ d := by omega
  refine hEv_start (args := [vr l0]) (nl := 1) rfl (Nat.le_of_ble_eq_true rfl) ?_
  show hG d 13 0 [some (vr l0)] [] w _
  have kr : o = () → qVp w (none, w) := fun _ => rfl
  unfold c13 at e
  refine hg_run 1 (pc' := 1) (ls' := [some (vr l0)]) (st' := [vR l0]) rfl ?_
  obtain ⟨u1, e1, e⟩ := ob e
  refine hg_objc rfl (k8_e e1) (Nat.le_of_ble_eq_true rfl) ?_
  cases e
  exact hg_retV rfl (kr rfl)
def c12 (l0 : Nat) (h : hS) : Option (hS) :=
  (k8 l0).bind (fun u2 =>
  (c13 l0 h).bind (fun u1 =>
  (pI h l0 8 2 0).bind (fun h3 =>
  some h3)))
theorem t12 {d : Nat} (hd : 2 ≤ d) {l0 : Nat} {h : hS} {w : mmW} {o : hS} (A : Abs h w)  (e : c12 l0 h = some o) : hEv d 12 [vR l0] w (qV o) := by
  obtain ⟨d, rfl⟩ : ∃ d1, d = d1 + 1 := ⟨d - 1, by omega⟩
  have hd : 1 ≤ d := by omega
  refine hEv_start (args := [vr l0]) (nl := 1) rfl (Nat.le_of_ble_eq_true rfl) ?_
  show hG d 12 0 [some (vr l0)] [] w _
  have kr : ∀ h1 : hS, o = h1 → ∀ w', Abs h1 w' → qV o (none, w') := fun h1 q w' A' => by cases q; exact ⟨rfl, A'⟩
  unfold c12 at e
  refine hg_run 1 (pc' := 1) (ls' := [some (vr l0)]) (st' := [vR l0]) rfl ?_
  obtain ⟨u2, e2, e⟩ := ob e
  obtain ⟨u1, e1, e⟩ := ob e
  refine hg_cVp (as := [vR l0]) (st' := []) rfl (fun _ _ _ _ => rfl) rfl rfl (Nat.le_of_ble_eq_true rfl) (Nat.le_of_ble_eq_true rfl) (recv1 (k8_e e2)) (t13 (by omega) A  e1) ?_
  refine hg_run 2 (pc' := 6) (ls' := [some (vr l0)]) (st' := [vI 0, vR l0]) rfl ?_
  obtain ⟨h3, e3, e⟩ := ob e
  refine pd_3_2 rfl A (rgn 0 rfl) e3 (fun w3 A3 => ?_)
  cases e
  exact hg_retV rfl (kr _ rfl _ A3)
def c11 (l0 : Nat) (h : hS) : Option (hS) :=
  (k8 l0).bind (fun u2 =>
  (c12 l0 h).bind (fun h1 =>
  (pR h1 l0 8 0 6).bind (fun h3 =>
  some h3)))
theorem t11 {d : Nat} (hd : 3 ≤ d) {l0 : Nat} {h : hS} {w : mmW} {o : hS} (A : Abs h w)  (e : c11 l0 h = some o) : hEv d 11 [vR l0] w (qV o) := by
  obtain ⟨d, rfl⟩ : ∃ d1, d = d1 + 1 := ⟨d - 1, by omega⟩
  have hd : 2 ≤ d := by omega
  refine hEv_start (args := [vr l0]) (nl := 1) rfl (Nat.le_of_ble_eq_true rfl) ?_
  show hG d 11 0 [some (vr l0)] [] w _
  have kr : ∀ h1 : hS, o = h1 → ∀ w', Abs h1 w' → qV o (none, w') := fun h1 q w' A' => by cases q; exact ⟨rfl, A'⟩
  unfold c11 at e
  refine hg_run 1 (pc' := 1) (ls' := [some (vr l0)]) (st' := [vR l0]) rfl ?_
  obtain ⟨u2, e2, e⟩ := ob e
  obtain ⟨h1, e1, e⟩ := ob e
  refine hg_cV (as := [vR l0]) (st' := []) rfl (fun _ _ _ _ => rfl) rfl rfl (Nat.le_of_ble_eq_true rfl) (Nat.le_of_ble_eq_true rfl) (recv1 (k8_e e2)) (t12 (by omega) A  e1) (fun w1 A1 => ?_)
  refine hg_run 2 (pc' := 8) (ls' := [some (vr l0)]) (st' := [vR 6, vR l0]) rfl ?_
  obtain ⟨h3, e3, e⟩ := ob e
  refine pd_3_0 rfl A1 e3 (fun w3 A3 => ?_)
  cases e
  exact hg_retV rfl (kr _ rfl _ A3)
def c43 (h : hS) : Option (hS) :=
  (some (sI h 15 4 0)).bind (fun h1 =>
  (some (sI h1 15 5 (-1))).bind (fun h2 =>
  some h2))
theorem t43 {d : Nat} (hd : 1 ≤ d)  {h : hS} {w : mmW} {o : hS} (A : Abs h w)  (e : c43 h = some o) : hEv d 43 [vR 15] w (qV o) := by
  obtain ⟨d, rfl⟩ : ∃ d1, d = d1 + 1 := ⟨d - 1, by omega⟩
  have hd : 0 ≤ d := by omega
  refine hEv_start (args := [vr 15]) (nl := 1) rfl (Nat.le_of_ble_eq_true rfl) ?_
  show hG d 43 0 [some (vr 15)] [] w _
  have kr : ∀ h1 : hS, o = h1 → ∀ w', Abs h1 w' → qV o (none, w') := fun h1 q w' A' => by cases q; exact ⟨rfl, A'⟩
  unfold c43 at e
  refine hg_run 2 (pc' := 2) (ls' := [some (vr 15)]) (st' := [vI 0, vR 15]) rfl ?_
  obtain ⟨h1, e1, e⟩ := ob e
  refine ps_15_4 rfl A (rgn 0 rfl) e1 (fun w1 A1 => ?_)
  refine hg_run 2 (pc' := 7) (ls' := [some (vr 15)]) (st' := [vI (-1), vR 15]) rfl ?_
  obtain ⟨h2, e2, e⟩ := ob e
  refine ps_15_5 rfl A1 (rgn (-1) rfl) e2 (fun w2 A2 => ?_)
  cases e
  exact hg_retV rfl (kr _ rfl _ A2)
def c46_j34 (s1 : Int) (h : hS) : Option (Int × hS) :=
  (some (sI h 15 5 s1)).bind (fun h3 =>
  some (0, h3))
theorem t46_j34 {d : Nat} (hd : 0 ≤ d) {s1 : Int} {z1 : Option hO} {z2 : Option hO} {h : hS} {w : mmW} {o : Int × hS} {Q : mmO → Prop} (rs1 : rg s1) (A : Abs h w) (e : c46_j34 s1 h = some o) (kr : ∀ (v1 : Int) (h1 : hS), o = (v1, h1) → ∀ w', rg v1 → Abs h1 w' → Q (some (.int (Int32.ofInt v1)), w')) : hG d 46 34 [some (vr 15), z1, z2] [vI s1, vR 15] w Q := by
  unfold c46_j34 at e
  obtain ⟨h3, e3, e⟩ := ob e
  refine ps_15_5 rfl A rs1 e3 (fun w3 A3 => ?_)
  refine hg_run 1 (pc' := 38) (ls' := [some (vr 15), z1, z2]) (st' := [vI 0]) rfl ?_
  cases e
  exact hg_retI rfl (by decide) (fit_B (.inl rfl)) (kr _ _ rfl _ (rgn 0 rfl) A3)
def c46_j33 (h : hS) : Option (Int × hS) :=
  c46_j34 (-1) h
theorem t46_j33 {d : Nat} (hd : 0 ≤ d)  {z1 : Option hO} {z2 : Option hO} {h : hS} {w : mmW} {o : Int × hS} {Q : mmO → Prop}  (A : Abs h w) (e : c46_j33 h = some o) (kr : ∀ (v1 : Int) (h1 : hS), o = (v1, h1) → ∀ w', rg v1 → Abs h1 w' → Q (some (.int (Int32.ofInt v1)), w')) : hG d 46 33 [some (vr 15), z1, z2] [vR 15] w Q := by
  unfold c46_j33 at e
  refine hg_run 1 (pc' := 34) (ls' := [some (vr 15), z1, z2]) (st' := [vI (-1), vR 15]) rfl ?_
  exact t46_j34 hd (rgn (-1) rfl) A e kr
def c46 (l1 : Int) (l2 : Int) (h : hS) : Option (Int × hS) :=
  (some (sI h 15 4 l1)).bind (fun h1 =>
  if l2 < 0 then
  c46_j33 h1
  else
  if (hI h1 9 5) ≤ l2 then
  c46_j33 h1
  else
  (aIs h1 12 1001 l2).bind (fun v5 =>
  c46_j34 v5 h1))
theorem t46 {d : Nat} (hd : 1 ≤ d) {l1 : Int} {l2 : Int} {h : hS} {w : mmW} {o : Int × hS} (A : Abs h w) (rl1 : rg l1) (rl2 : rg l2) (e : c46 l1 l2 h = some o) : hEv d 46 [vR 15, vI l1, vI l2] w (qI o) := by
  obtain ⟨d, rfl⟩ : ∃ d1, d = d1 + 1 := ⟨d - 1, by omega⟩
  have hd : 0 ≤ d := by omega
  refine hEv_start (args := [vr 15, vi l1, vi l2]) (nl := 3) rfl (Nat.le_of_ble_eq_true rfl) ?_
  show hG d 46 0 [some (vr 15), some (vi l1), some (vi l2)] [] w _
  have kr : ∀ (v1 : Int) (h1 : hS), o = (v1, h1) → ∀ w', rg v1 → Abs h1 w' → qI o (some (.int (Int32.ofInt v1)), w') := fun v1 h1 q w' r A' => by cases q; exact ⟨rfl, r, A'⟩
  unfold c46 at e
  refine hg_run 2 (pc' := 2) (ls' := [some (vr 15), some (vi l1), some (vi l2)]) (st' := [vI l1, vR 15]) rfl ?_
  obtain ⟨h1, e1, e⟩ := ob e
  refine ps_15_4 rfl A rl1 e1 (fun w1 A1 => ?_)
  refine hg_run 2 (pc' := 7) (ls' := [some (vr 15), some (vi l1), some (vi l2)]) (st' := [vI l2, vR 15]) rfl ?_
  rcases oi e with ⟨q2, e⟩ | ⟨q2, e⟩
  · refine hg_ifT (tgt := 33) rfl (by decide) rl2 q2 ?_
    exact t46_j33 hd  A1 e kr
  · refine hg_ifF (tgt := 33) rfl (by decide) rl2 q2 ?_
    refine hg_run 2 (pc' := 12) (ls' := [some (vr 15), some (vi l1), some (vi l2)]) (st' := [vR 15, vI l2, vR 15]) rfl ?_
    refine gs_15_0 rfl A1 ?_
    refine gs_9_5 rfl A1 ?_
    rcases oi e with ⟨q4, e⟩ | ⟨q4, e⟩
    · refine hg_icT (tgt := 33) rfl (by decide) rl2 (Abs_rg A1 9 5) q4 ?_
      exact t46_j33 hd  A1 e kr
    · refine hg_icF (tgt := 33) rfl (by decide) rl2 (Abs_rg A1 9 5) q4 ?_
      refine hg_run 1 (pc' := 22) (ls' := [some (vr 15), some (vi l1), some (vi l2)]) (st' := [vR 15, vR 15]) rfl ?_
      refine gs_15_0 rfl A1 ?_
      refine gs_9_3 rfl A1 ?_
      refine hg_run 1 (pc' := 29) (ls' := [some (vr 15), some (vi l1), some (vi l2)]) (st' := [vI l2, vR 12, vR 15]) rfl ?_
      obtain ⟨v5, e5, e⟩ := ob e
      refine hg_aIs 0 rfl (fun _ _ _ _ => rfl) A1 (Abs_ks A1 (i := 4) rfl) rfl (by decide) e5 (fun r5 => ?_)
      refine hg_run 1 (pc' := 34) (ls' := [some (vr 15), some (vi l1), some (vi l2)]) (st' := [vI v5, vR 15]) rfl ?_
      exact t46_j34 hd r5 A1 e kr
def c45 (h : hS) : Option (Int × hS) :=
  (c39  h).bind (fun v1 =>
  if v1 = 1 then
  (aIs h 13 1001 (hI h 15 3)).bind (fun v3 =>
  (c40 v3 h).bind (fun v4 =>
  if v4.1 = (-1) then
  (c46 3 (hI v4.2 15 3) v4.2).bind (fun v7 =>
  some ((-1), v7.2))
  else
  (some (sI v4.2 15 3 (wadd (hI v4.2 15 3) 1))).bind (fun h6 =>
  some (v4.1, h6))))
  else
  (c46 1 (hI h 15 3) h).bind (fun v8 =>
  some ((-1), v8.2)))
theorem t45 {d : Nat} (hd : 2 ≤ d)  {h : hS} {w : mmW} {o : Int × hS} (A : Abs h w)  (e : c45 h = some o) : hEv d 45 [vR 15] w (qI o) := by
  obtain ⟨d, rfl⟩ : ∃ d1, d = d1 + 1 := ⟨d - 1, by omega⟩
  have hd : 1 ≤ d := by omega
  refine hEv_start (args := [vr 15]) (nl := 2) rfl (Nat.le_of_ble_eq_true rfl) ?_
  show hG d 45 0 [some (vr 15), none] [] w _
  have kr : ∀ (v1 : Int) (h1 : hS), o = (v1, h1) → ∀ w', rg v1 → Abs h1 w' → qI o (some (.int (Int32.ofInt v1)), w') := fun v1 h1 q w' r A' => by cases q; exact ⟨rfl, r, A'⟩
  unfold c45 at e
  refine hg_run 1 (pc' := 1) (ls' := [some (vr 15), none]) (st' := [vR 15]) rfl ?_
  obtain ⟨v1, e1, e⟩ := ob e
  refine hg_cIp (as := [vR 15]) (st' := []) rfl (fun _ _ _ _ => rfl) rfl rfl (Nat.le_of_ble_eq_true rfl) (Nat.le_of_ble_eq_true rfl) (recvV A (a := 2) (Abs_ks A (i := 7) rfl).1) (t39 (by omega) A  e1) (fun r1 => ?_)
  refine hg_run 1 (pc' := 5) (ls' := [some (vr 15), none]) (st' := [vI 1, vI v1]) rfl ?_
  rcases oi e with ⟨q2, e⟩ | ⟨q2, e⟩
  · refine hg_icT (tgt := 20) rfl (by decide) r1 (rgn 1 rfl) q2 ?_
    refine hg_run 2 (pc' := 22) (ls' := [some (vr 15), none]) (st' := [vR 15, vR 15]) rfl ?_
    refine gs_15_0 rfl A ?_
    refine gs_9_4 rfl A ?_
    refine hg_run 1 (pc' := 29) (ls' := [some (vr 15), none]) (st' := [vR 15, vR 13, vR 15]) rfl ?_
    refine gs_15_3 rfl A ?_
    obtain ⟨v3, e3, e⟩ := ob e
    refine hg_aIs 0 rfl (fun _ _ _ _ => rfl) A (Abs_ks A (i := 5) rfl) rfl (by decide) e3 (fun r3 => ?_)
    obtain ⟨v4, e4, e⟩ := ob e
    refine hg_cI (as := [vR 15, vI v3]) (st' := []) rfl (fun _ _ _ _ => rfl) rfl rfl (Nat.le_of_ble_eq_true rfl) (Nat.le_of_ble_eq_true rfl) (recvV A (a := 2) (Abs_ks A (i := 7) rfl).1) (t40 (by omega) A r3 e4) (fun w4 r4 A4 => ?_)
    refine hg_run 3 (pc' := 39) (ls' := [some (vr 15), some (vi v4.1)]) (st' := [vI (-1), vI v4.1]) rfl ?_
    rcases oi e with ⟨q5, e⟩ | ⟨q5, e⟩
    · refine hg_icF (tgt := 54) rfl (by decide) r4 (rgn (-1) rfl) (show ¬ ¬ (v4.1 = (-1)) from fun f => f q5) ?_
      refine hg_run 3 (pc' := 45) (ls' := [some (vr 15), some (vi v4.1)]) (st' := [vR 15, vI 3, vR 15]) rfl ?_
      refine gs_15_3 rfl A4 ?_
      obtain ⟨v7, e7, e⟩ := ob e
      refine hg_cI (as := [vR 15, vI 3, vI (hI v4.2 15 3)]) (st' := []) rfl (fun _ _ _ _ => rfl) rfl rfl (Nat.le_of_ble_eq_true rfl) (Nat.le_of_ble_eq_true rfl) (recvV A4 (a := 2) (Abs_ks A4 (i := 7) rfl).1) (t46 (by omega) A4 (rgn 3 rfl) (Abs_rg A4 15 3) e7) (fun w7 r7 A7 => ?_)
      refine hg_run 2 (pc' := 53) (ls' := [some (vr 15), some (vi v4.1)]) (st' := [vI (-1)]) rfl ?_
      cases e
      exact hg_retI rfl (by decide) (fit_I _) (kr _ _ rfl _ (rgn (-1) rfl) A7)
    · refine hg_icT (tgt := 54) rfl (by decide) r4 (rgn (-1) rfl) (show ¬ (v4.1 = (-1)) from q5) ?_
      refine hg_run 2 (pc' := 56) (ls' := [some (vr 15), some (vi v4.1)]) (st' := [vR 15, vR 15]) rfl ?_
      refine gs_15_3 rfl A4 ?_
      refine hg_run 2 (pc' := 61) (ls' := [some (vr 15), some (vi v4.1)]) (st' := [vI (wadd (hI v4.2 15 3) 1), vR 15]) rfl ?_
      obtain ⟨h6, e6, e⟩ := ob e
      refine ps_15_3 rfl A4 (rg_add _ _) e6 (fun w6 A6 => ?_)
      refine hg_run 1 (pc' := 65) (ls' := [some (vr 15), some (vi v4.1)]) (st' := [vI v4.1]) rfl ?_
      cases e
      exact hg_retI rfl (by decide) (fit_I _) (kr _ _ rfl _ r4 A6)
  · refine hg_icF (tgt := 20) rfl (by decide) r1 (rgn 1 rfl) q2 ?_
    refine hg_run 3 (pc' := 11) (ls' := [some (vr 15), none]) (st' := [vR 15, vI 1, vR 15]) rfl ?_
    refine gs_15_3 rfl A ?_
    obtain ⟨v8, e8, e⟩ := ob e
    refine hg_cI (as := [vR 15, vI 1, vI (hI h 15 3)]) (st' := []) rfl (fun _ _ _ _ => rfl) rfl rfl (Nat.le_of_ble_eq_true rfl) (Nat.le_of_ble_eq_true rfl) (recvV A (a := 2) (Abs_ks A (i := 7) rfl).1) (t46 (by omega) A (rgn 1 rfl) (Abs_rg A 15 3) e8) (fun w8 r8 A8 => ?_)
    refine hg_run 2 (pc' := 19) (ls' := [some (vr 15), none]) (st' := [vI (-1)]) rfl ?_
    cases e
    exact hg_retI rfl (by decide) (fit_I _) (kr _ _ rfl _ (rgn (-1) rfl) A8)
def c47_b2 (l0 : Nat) (l1 : Int) (h : hS) (l2 : Int) : Option ((Int) ⊕ ((Unit) ⊕ (Nat))) :=
  (gI h l0 18 1).bind (fun v1 =>
  if v1 ≤ l2 then
  some (.inr (.inl ()))
  else
  (gR h l0 18 0).bind (fun v3 =>
  (aR h v3 17 l2).bind (fun v4 =>
  (gI h v4 24 0).bind (fun v5 =>
  if v5 = l1 then
  (gR h l0 18 0).bind (fun v7 =>
  (aR h v7 17 l2).bind (fun v8 =>
  some (.inr (.inr v8))))
  else
  some (.inl ((wadd l2 1)))))))
theorem t47_b2 {d : Nat} (hd : 0 ≤ d) {l0 : Nat} {l1 : Int} {l2 : Int}  {h : hS} {w : mmW} {o : (Int) ⊕ ((Unit) ⊕ (Nat))} {Q : mmO → Prop} (rl1 : rg l1) (rl2 : rg l2) (A : Abs h w) (e : c47_b2 l0 l1 h l2 = some o) (kb : ∀ (s_0 : Int), o = .inl (s_0) → rg s_0 → hG d 47 2 [some (vr l0), some (vi l1), some (vi s_0)] [] w Q) (ke : o = .inr (.inl ()) → ∀ (y2 : Option hO), hG d 47 36 [some (vr l0), some (vi l1), y2] [] w Q) (kr : ∀ v1 : Nat, o = .inr (.inr v1) → Q (some (rv v1), w)) : hG d 47 2 [some (vr l0), some (vi l1), some (vi l2)] [] w Q := by
  unfold c47_b2 at e
  refine hg_run 2 (pc' := 4) (ls' := [some (vr l0), some (vi l1), some (vi l2)]) (st' := [vR l0, vI l2]) rfl ?_
  obtain ⟨v1, e1, e⟩ := ob e
  refine gd_8_1 rfl A e1 (fun r1 => ?_)
  rcases oi e with ⟨q2, e⟩ | ⟨q2, e⟩
  · refine hg_icT (tgt := 36) rfl (by decide) rl2 r1 q2 ?_
    cases e
    exact ke  rfl _ 
  · refine hg_icF (tgt := 36) rfl (by decide) rl2 r1 q2 ?_
    refine hg_run 1 (pc' := 11) (ls' := [some (vr l0), some (vi l1), some (vi l2)]) (st' := [vR l0]) rfl ?_
    obtain ⟨v3, e3, e⟩ := ob e
    refine gd_8_0 rfl A e3 ?_
    refine hg_run 1 (pc' := 15) (ls' := [some (vr l0), some (vi l1), some (vi l2)]) (st' := [vI l2, vR v3]) rfl ?_
    obtain ⟨v4, e4, e⟩ := ob e
    refine hg_aRd 8 rfl (fun _ _ _ _ => rfl) A rfl (by decide) e4 ?_
    obtain ⟨v5, e5, e⟩ := ob e
    refine gd_11_0 rfl A e5 (fun r5 => ?_)
    refine hg_run 1 (pc' := 20) (ls' := [some (vr l0), some (vi l1), some (vi l2)]) (st' := [vI l1, vI v5]) rfl ?_
    rcases oi e with ⟨q6, e⟩ | ⟨q6, e⟩
    · refine hg_icF (tgt := 30) rfl (by decide) r5 rl1 (show ¬ ¬ (v5 = l1) from fun f => f q6) ?_
      refine hg_run 1 (pc' := 24) (ls' := [some (vr l0), some (vi l1), some (vi l2)]) (st' := [vR l0]) rfl ?_
      obtain ⟨v7, e7, e⟩ := ob e
      refine gd_8_0 rfl A e7 ?_
      refine hg_run 1 (pc' := 28) (ls' := [some (vr l0), some (vi l1), some (vi l2)]) (st' := [vI l2, vR v7]) rfl ?_
      obtain ⟨v8, e8, e⟩ := ob e
      refine hg_aRd 8 rfl (fun _ _ _ _ => rfl) A rfl (by decide) e8 ?_
      cases e
      exact hg_retR rfl (kr _ rfl)
    · refine hg_icT (tgt := 30) rfl (by decide) r5 rl1 (show ¬ (v5 = l1) from q6) ?_
      refine hg_run 2 (pc' := 2) (ls' := [some (vr l0), some (vi l1), some (vi (wadd l2 1))]) (st' := []) rfl ?_
      cases e
      exact kb (wadd l2 1) rfl (rg_add _ _)
theorem t47_l2 {d : Nat} (hd : 0 ≤ d) {l0 : Nat} {l1 : Int}  {h : hS} {w : mmW} {Q : mmO → Prop} (rl1 : rg l1) (n : Nat) {l2 : Int}  {r : (Unit) ⊕ (Nat)} (rl2 : rg l2) (A : Abs h w) (e : lp (fun s => c47_b2 l0 l1 h s) n (l2) = some r) (ke : r = .inl () → ∀ (y2 : Option hO), hG d 47 36 [some (vr l0), some (vi l1), y2] [] w Q) (kr : ∀ v1 : Nat, r = .inr v1 → Q (some (rv v1), w)) : hG d 47 2 [some (vr l0), some (vi l1), some (vi l2)] [] w Q := by
  induction n generalizing l2 with
  | zero => cases e
  | succ n ih =>
    rcases lp_succ e with ⟨s1, e1, e2⟩ | e1
    · exact t47_b2 hd rl1 rl2 A e1 (fun s_0 q rl2 => by cases q; exact ih rl2 e2) (fun  q => by cases q) (fun v0 q => by cases q)
    · exact t47_b2 hd rl1 rl2 A e1 (fun s_0 q => by cases q) (fun  q => by cases q; exact ke  rfl) (fun v0 q => by cases q; exact kr _ rfl)
def c47 (l0 : Nat) (l1 : Int) (h : hS) : Option (Nat) :=
  (lp (fun s => c47_b2 l0 l1 h s) hF0 (0)).bind (fun r9 => xs r9 (fun x9 =>
  some 0) (fun o9 => some o9))
theorem t47 {d : Nat} (hd : 1 ≤ d) {l0 : Nat} {l1 : Int} {h : hS} {w : mmW} {o : Nat} (A : Abs h w) (rl1 : rg l1) (e : c47 l0 l1 h = some o) : hEv d 47 [vR l0, vI l1] w (qRp o w) := by
  obtain ⟨d, rfl⟩ : ∃ d1, d = d1 + 1 := ⟨d - 1, by omega⟩
  have hd : 0 ≤ d := by omega
  refine hEv_start (args := [vr l0, vi l1]) (nl := 3) rfl (Nat.le_of_ble_eq_true rfl) ?_
  show hG d 47 0 [some (vr l0), some (vi l1), none] [] w _
  have kr : ∀ v1 : Nat, o = v1 → qRp o w (some (rv v1), w) := fun v1 q => by cases q; rfl
  unfold c47 at e
  refine hg_run 2 (pc' := 2) (ls' := [some (vr l0), some (vi l1), some (vi 0)]) (st' := []) rfl ?_
  obtain ⟨r9, e9, e⟩ := ob e
  refine t47_l2 hd rl1 _ (rgn 0 rfl) A e9 ?_ ?_
  · intro  qq9 z9_2
    subst qq9
    have e := xs_l e
    refine hg_run 1 (pc' := 37) (ls' := [some (vr l0), some (vi l1), z9_2]) (st' := [vR 0]) rfl ?_
    cases e
    exact hg_retR rfl (kr _ rfl)
  · intro v9 qq9 
    subst qq9
    have e := xs_r e
    cases e
    exact kr _ rfl 
def c48 (l0 : Nat) (l1 : Int) (l2 : Int) (l3 : Int) (l4 : Int) (l5 : Int) (l6 : Nat) (h : hS) : Option (hS) :=
  (k8 l0).bind (fun u1 =>
  (pI h l0 22 0 l1).bind (fun h2 =>
  (pI h2 l0 22 1 l2).bind (fun h3 =>
  (pI h3 l0 22 2 l3).bind (fun h4 =>
  (pI h4 l0 22 3 l4).bind (fun h5 =>
  (pI h5 l0 22 4 l5).bind (fun h6 =>
  (pR h6 l0 22 5 l6).bind (fun h7 =>
  some h7)))))))
theorem t48 {d : Nat} (hd : 1 ≤ d) {l0 : Nat} {l1 : Int} {l2 : Int} {l3 : Int} {l4 : Int} {l5 : Int} {l6 : Nat} {h : hS} {w : mmW} {o : hS} (A : Abs h w) (rl1 : rg l1) (rl2 : rg l2) (rl3 : rg l3) (rl4 : rg l4) (rl5 : rg l5) (e : c48 l0 l1 l2 l3 l4 l5 l6 h = some o) : hEv d 48 [vR l0, vI l1, vI l2, vI l3, vI l4, vI l5, vR l6] w (qV o) := by
  obtain ⟨d, rfl⟩ : ∃ d1, d = d1 + 1 := ⟨d - 1, by omega⟩
  have hd : 0 ≤ d := by omega
  refine hEv_start (args := [vr l0, vi l1, vi l2, vi l3, vi l4, vi l5, vr l6]) (nl := 7) rfl (Nat.le_of_ble_eq_true rfl) ?_
  show hG d 48 0 [some (vr l0), some (vi l1), some (vi l2), some (vi l3), some (vi l4), some (vi l5), some (vr l6)] [] w _
  have kr : ∀ h1 : hS, o = h1 → ∀ w', Abs h1 w' → qV o (none, w') := fun h1 q w' A' => by cases q; exact ⟨rfl, A'⟩
  unfold c48 at e
  refine hg_run 1 (pc' := 1) (ls' := [some (vr l0), some (vi l1), some (vi l2), some (vi l3), some (vi l4), some (vi l5), some (vr l6)]) (st' := [vR l0]) rfl ?_
  obtain ⟨u1, e1, e⟩ := ob e
  refine hg_objc rfl (k8_e e1) (Nat.le_of_ble_eq_true rfl) ?_
  refine hg_run 2 (pc' := 6) (ls' := [some (vr l0), some (vi l1), some (vi l2), some (vi l3), some (vi l4), some (vi l5), some (vr l6)]) (st' := [vI l1, vR l0]) rfl ?_
  obtain ⟨h2, e2, e⟩ := ob e
  refine pd_10_0 rfl A rl1 e2 (fun w2 A2 => ?_)
  refine hg_run 2 (pc' := 11) (ls' := [some (vr l0), some (vi l1), some (vi l2), some (vi l3), some (vi l4), some (vi l5), some (vr l6)]) (st' := [vI l2, vR l0]) rfl ?_
  obtain ⟨h3, e3, e⟩ := ob e
  refine pd_10_1 rfl A2 rl2 e3 (fun w3 A3 => ?_)
  refine hg_run 2 (pc' := 16) (ls' := [some (vr l0), some (vi l1), some (vi l2), some (vi l3), some (vi l4), some (vi l5), some (vr l6)]) (st' := [vI l3, vR l0]) rfl ?_
  obtain ⟨h4, e4, e⟩ := ob e
  refine pd_10_2 rfl A3 rl3 e4 (fun w4 A4 => ?_)
  refine hg_run 2 (pc' := 22) (ls' := [some (vr l0), some (vi l1), some (vi l2), some (vi l3), some (vi l4), some (vi l5), some (vr l6)]) (st' := [vI l4, vR l0]) rfl ?_
  obtain ⟨h5, e5, e⟩ := ob e
  refine pd_10_3 rfl A4 rl4 e5 (fun w5 A5 => ?_)
  refine hg_run 2 (pc' := 28) (ls' := [some (vr l0), some (vi l1), some (vi l2), some (vi l3), some (vi l4), some (vi l5), some (vr l6)]) (st' := [vI l5, vR l0]) rfl ?_
  obtain ⟨h6, e6, e⟩ := ob e
  refine pd_10_4 rfl A5 rl5 e6 (fun w6 A6 => ?_)
  refine hg_run 2 (pc' := 34) (ls' := [some (vr l0), some (vi l1), some (vi l2), some (vi l3), some (vi l4), some (vi l5), some (vr l6)]) (st' := [vR l6, vR l0]) rfl ?_
  obtain ⟨h7, e7, e⟩ := ob e
  refine pd_10_5 rfl A6 e7 (fun w7 A7 => ?_)
  cases e
  exact hg_retV rfl (kr _ rfl _ A7)
def c53 (l0 : Int) (l1 : Int) (l2 : Int) (h : hS) : Option (Int) :=
  if (wadd l0 (wmax l1 l2)) ≤ 0 then
  none
  else
  if 2147483639 < (wadd l0 (wmax l1 l2)) then
  none
  else
  some (wadd l0 (wmax l1 l2))
theorem t53 {d : Nat} (hd : 1 ≤ d) {l0 : Int} {l1 : Int} {l2 : Int} {h : hS} {w : mmW} {o : Int} (A : Abs h w) (rl0 : rg l0) (rl1 : rg l1) (rl2 : rg l2) (e : c53 l0 l1 l2 h = some o) : hEv d 53 [vI l0, vI l1, vI l2] w (qIp o w) := by
  obtain ⟨d, rfl⟩ : ∃ d1, d = d1 + 1 := ⟨d - 1, by omega⟩
  have hd : 0 ≤ d := by omega
  refine hEv_start (args := [vi l0, vi l1, vi l2]) (nl := 4) rfl (Nat.le_of_ble_eq_true rfl) ?_
  show hG d 53 0 [some (vi l0), some (vi l1), some (vi l2), none] [] w _
  have kr : ∀ v1 : Int, o = v1 → rg v1 → qIp o w (some (.int (Int32.ofInt v1)), w) := fun v1 q r => by cases q; exact ⟨rfl, r⟩
  unfold c53 at e
  refine hg_run 8 (pc' := 10) (ls' := [some (vi l0), some (vi l1), some (vi l2), some (vi (wadd l0 (wmax l1 l2)))]) (st' := [vI (wadd l0 (wmax l1 l2)), vI 0]) rfl ?_
  rcases oi e with ⟨q1, e⟩ | ⟨q1, e⟩
  · refine hg_icT (tgt := 21) rfl (by decide) (rgn 0 rfl) (rg_add _ _) q1 ?_
    refine hg_run 2 (pc' := 23) (ls' := [some (vi l0), some (vi l1), some (vi l2), some (vi (wadd l0 (wmax l1 l2)))]) (st' := [vI l1, vI l0]) rfl ?_
    cases e
  · refine hg_icF (tgt := 21) rfl (by decide) (rgn 0 rfl) (rg_add _ _) q1 ?_
    refine hg_run 2 (pc' := 16) (ls' := [some (vi l0), some (vi l1), some (vi l2), some (vi (wadd l0 (wmax l1 l2)))]) (st' := [vI 2147483639, vI (wadd l0 (wmax l1 l2))]) rfl ?_
    rcases oi e with ⟨q2, e⟩ | ⟨q2, e⟩
    · refine hg_icT (tgt := 21) rfl (by decide) (rg_add _ _) (rgn 2147483639 rfl) q2 ?_
      refine hg_run 2 (pc' := 23) (ls' := [some (vi l0), some (vi l1), some (vi l2), some (vi (wadd l0 (wmax l1 l2)))]) (st' := [vI l1, vI l0]) rfl ?_
      cases e
    · refine hg_icF (tgt := 21) rfl (by decide) (rg_add _ _) (rgn 2147483639 rfl) q2 ?_
      refine hg_run 1 (pc' := 20) (ls' := [some (vi l0), some (vi l1), some (vi l2), some (vi (wadd l0 (wmax l1 l2)))]) (st' := [vI (wadd l0 (wmax l1 l2))]) rfl ?_
      cases e
      exact hg_retI rfl (by decide) (fit_I _) (kr _ rfl (rg_add _ _))
def c55 (l0 : Nat) (l1 : Int) (l2 : Nat) (h : hS) : Option (Nat × hS) :=
  (hreq l2 7).bind (fun b1 =>
  if b1 = true then
  (nA h 19 l1).bind (fun h2 =>
  (lA h2 l0 19).bind (fun v3 =>
  (cpR h2 l0 (hN h) 19 22 0 0 (wmin v3 l1)).bind (fun h4 =>
  some ((hN h), h4))))
  else
  none)
theorem t55 {d : Nat} (hd : 1 ≤ d) {l0 : Nat} {l1 : Int} {l2 : Nat} {h : hS} {w : mmW} {o : Nat × hS} (A : Abs h w) (rl1 : rg l1) (e : c55 l0 l1 l2 h = some o) : hEv d 55 [vR l0, vI l1, vR l2] w (qR o) := by
  obtain ⟨d, rfl⟩ : ∃ d1, d = d1 + 1 := ⟨d - 1, by omega⟩
  have hd : 0 ≤ d := by omega
  refine hEv_start (args := [vr l0, vi l1, vr l2]) (nl := 4) rfl (Nat.le_of_ble_eq_true rfl) ?_
  show hG d 55 0 [some (vr l0), some (vi l1), some (vr l2), none] [] w _
  have kr : ∀ (v1 : Nat) (h1 : hS), o = (v1, h1) → ∀ w', Abs h1 w' → qR o (some (rv v1), w') := fun v1 h1 q w' A' => by cases q; exact ⟨rfl, A'⟩
  unfold c55 at e
  refine hg_run 2 (pc' := 3) (ls' := [some (vr l0), some (vi l1), some (vr l2), none]) (st' := [vR 7, vR l2]) rfl ?_
  obtain ⟨b1, e1, e⟩ := ob e
  rcases oi e with ⟨q1, e⟩ | ⟨q1, e⟩
  · refine hg_acm (tgt := 13) (t2 := 6) rfl (by decide) (ebT e1 q1) rfl ?_
    refine hg_run 1 (pc' := 7) (ls' := [some (vr l0), some (vi l1), some (vr l2), none]) (st' := [vI l1]) rfl ?_
    obtain ⟨h2, e2, e⟩ := ob e
    refine hg_nA (t := 9) rfl (fun _ _ _ _ => rfl) A (nA_e e2).1 (nA_e e2).2 (fun w2 A2 => ?_)
    refine hg_run 7 (pc' := 30) (ls' := [some (vr l0), some (vi l1), some (vr l2), some (vr (hN h))]) (st' := [vR l0, vI 0, vR (hN h), vI 0, vR l0]) rfl ?_
    obtain ⟨v3, e3, e⟩ := ob e
    refine hg_len (t := 9) rfl A2 (lA_e e3).1 (lA_e e3).2 (fun r3 => ?_)
    refine hg_run 2 (pc' := 35) (ls' := [some (vr l0), some (vi l1), some (vr l2), some (vr (hN h))]) (st' := [vI (wmin v3 l1), vI 0, vR (hN h), vI 0, vR l0]) rfl ?_
    obtain ⟨h4, e4, e⟩ := ob e
    refine hg_cpR (t := 9) rfl A2 (by decide) (by decide) (Nat.le_of_ble_eq_true rfl) e4 (fun w4 A4 => ?_)
    refine hg_run 1 (pc' := 39) (ls' := [some (vr l0), some (vi l1), some (vr l2), some (vr (hN h))]) (st' := [vR (hN h)]) rfl ?_
    cases e
    exact hg_retR rfl (kr _ _ rfl _ A4)
  · refine hg_acm (tgt := 13) (t2 := 13) rfl (by decide) (ebF e1 q1) rfl ?_
    refine hg_run 1 (pc' := 14) (ls' := [some (vr l0), some (vi l1), some (vr l2), none]) (st' := [vR l2]) rfl ?_
    cases e
def c54 (l0 : Nat) (l1 : Int) (h : hS) : Option (Nat × hS) :=
  (kT h l0 19).bind (fun u1 =>
  (k8 l0).bind (fun u2 =>
  (c55 l0 l1 7 h).bind (fun v3 =>
  some (v3.1, v3.2))))
theorem t54 {d : Nat} (hd : 2 ≤ d) {l0 : Nat} {l1 : Int} {h : hS} {w : mmW} {o : Nat × hS} (A : Abs h w) (rl1 : rg l1) (e : c54 l0 l1 h = some o) : hEv d 54 [vR l0, vI l1] w (qR o) := by
  obtain ⟨d, rfl⟩ : ∃ d1, d = d1 + 1 := ⟨d - 1, by omega⟩
  have hd : 1 ≤ d := by omega
  refine hEv_start (args := [vr l0, vi l1]) (nl := 2) rfl (Nat.le_of_ble_eq_true rfl) ?_
  show hG d 54 0 [some (vr l0), some (vi l1)] [] w _
  have kr : ∀ (v1 : Nat) (h1 : hS), o = (v1, h1) → ∀ w', Abs h1 w' → qR o (some (rv v1), w') := fun v1 h1 q w' A' => by cases q; exact ⟨rfl, A'⟩
  unfold c54 at e
  refine hg_run 3 (pc' := 3) (ls' := [some (vr l0), some (vi l1)]) (st' := [vR l0, vI l1, vR l0]) rfl ?_
  obtain ⟨u1, e1, e⟩ := ob e
  obtain ⟨u2, e2, e⟩ := ob e
  refine hg_getC rfl A (kT_e e1) (k8_e e2) (Nat.le_of_ble_eq_true rfl) rfl ?_
  obtain ⟨v3, e3, e⟩ := ob e
  refine hg_cR (as := [vR l0, vI l1, vR 7]) (st' := []) rfl (fun _ _ _ _ => rfl) rfl rfl (Nat.le_of_ble_eq_true rfl) (Nat.le_of_ble_eq_true rfl) recv0 (t55 (by omega) A rl1 e3) (fun w3 A3 => ?_)
  cases e
  exact hg_retR rfl (kr _ _ rfl _ A3)
def c52_j20 (l0 : Nat) (l1 : Int) (l2 : Int) (h : hS) : Option (Nat × hS) :=
  (c53 l2 (wsub l1 l2) (wshr l2 1) h).bind (fun v4 =>
  (gR h l0 8 0).bind (fun v5 =>
  (c54 v5 v4 h).bind (fun v6 =>
  (pR v6.2 l0 8 0 v6.1).bind (fun h7 =>
  some (v6.1, h7)))))
theorem t52_j20 {d : Nat} (hd : 2 ≤ d) {l0 : Nat} {l1 : Int} {l2 : Int} {z3 : Option hO} {h : hS} {w : mmW} {o : Nat × hS} {Q : mmO → Prop} (rl1 : rg l1) (rl2 : rg l2) (A : Abs h w) (e : c52_j20 l0 l1 l2 h = some o) (kr : ∀ (v1 : Nat) (h1 : hS), o = (v1, h1) → ∀ w', Abs h1 w' → Q (some (rv v1), w')) : hG d 52 20 [some (vr l0), some (vi l1), some (vi l2), z3] [] w Q := by
  unfold c52_j20 at e
  refine hg_run 7 (pc' := 27) (ls' := [some (vr l0), some (vi l1), some (vi l2), z3]) (st' := [vI (wshr l2 1), vI (wsub l1 l2), vI l2]) rfl ?_
  obtain ⟨v4, e4, e⟩ := ob e
  refine hg_cIp (as := [vI l2, vI (wsub l1 l2), vI (wshr l2 1)]) (st' := []) rfl (fun _ _ _ _ => rfl) rfl rfl (Nat.le_of_ble_eq_true rfl) (Nat.le_of_ble_eq_true rfl) recv0 (t53 (by omega) A rl2 (rg_sub _ _) (rg_shr _ _) e4) (fun r4 => ?_)
  refine hg_run 3 (pc' := 33) (ls' := [some (vr l0), some (vi l1), some (vi l2), some (vi v4)]) (st' := [vR l0, vR l0]) rfl ?_
  obtain ⟨v5, e5, e⟩ := ob e
  refine gd_3_0 rfl A e5 ?_
  refine hg_run 1 (pc' := 37) (ls' := [some (vr l0), some (vi l1), some (vi l2), some (vi v4)]) (st' := [vI v4, vR v5, vR l0]) rfl ?_
  obtain ⟨v6, e6, e⟩ := ob e
  refine hg_cR (as := [vR v5, vI v4]) (st' := [vR l0]) rfl (fun _ _ _ _ => rfl) rfl rfl (Nat.le_of_ble_eq_true rfl) (Nat.le_of_ble_eq_true rfl) recv0 (t54 (by omega) A r4 e6) (fun w6 A6 => ?_)
  refine hg_run 1 (pc' := 41) (ls' := [some (vr l0), some (vi l1), some (vi l2), some (vi v4)]) (st' := [vR v6.1, vR l0, vR v6.1]) rfl ?_
  obtain ⟨h7, e7, e⟩ := ob e
  refine pd_3_0 rfl A6 e7 (fun w7 A7 => ?_)
  cases e
  exact hg_retR rfl (kr _ _ rfl _ A7)
def c52 (l0 : Nat) (l1 : Int) (h : hS) : Option (Nat × hS) :=
  (gR h l0 8 0).bind (fun v1 =>
  (lA h v1 19).bind (fun v2 =>
  if 0 < v2 then
  c52_j20 l0 l1 v2 h
  else
  (gR h l0 8 0).bind (fun v8 =>
  (hreq v8 6).bind (fun b9 =>
  if b9 = true then
  (nA h 19 (wmax 10 l1)).bind (fun h10 =>
  (pR h10 l0 8 0 (hN h)).bind (fun h11 =>
  some ((hN h), h11)))
  else
  c52_j20 l0 l1 v2 h))))
theorem t52 {d : Nat} (hd : 3 ≤ d) {l0 : Nat} {l1 : Int} {h : hS} {w : mmW} {o : Nat × hS} (A : Abs h w) (rl1 : rg l1) (e : c52 l0 l1 h = some o) : hEv d 52 [vR l0, vI l1] w (qR o) := by
  obtain ⟨d, rfl⟩ : ∃ d1, d = d1 + 1 := ⟨d - 1, by omega⟩
  have hd : 2 ≤ d := by omega
  refine hEv_start (args := [vr l0, vi l1]) (nl := 4) rfl (Nat.le_of_ble_eq_true rfl) ?_
  show hG d 52 0 [some (vr l0), some (vi l1), none, none] [] w _
  have kr : ∀ (v1 : Nat) (h1 : hS), o = (v1, h1) → ∀ w', Abs h1 w' → qR o (some (rv v1), w') := fun v1 h1 q w' A' => by cases q; exact ⟨rfl, A'⟩
  unfold c52 at e
  refine hg_run 1 (pc' := 1) (ls' := [some (vr l0), some (vi l1), none, none]) (st' := [vR l0]) rfl ?_
  obtain ⟨v1, e1, e⟩ := ob e
  refine gd_3_0 rfl A e1 ?_
  obtain ⟨v2, e2, e⟩ := ob e
  refine hg_len (t := 9) rfl A (lA_e e2).1 (lA_e e2).2 (fun r2 => ?_)
  refine hg_run 2 (pc' := 7) (ls' := [some (vr l0), some (vi l1), some (vi v2), none]) (st' := [vI v2]) rfl ?_
  rcases oi e with ⟨q3, e⟩ | ⟨q3, e⟩
  · refine hg_ifT (tgt := 20) rfl (by decide) r2 q3 ?_
    exact t52_j20 hd rl1 r2 A e kr
  · refine hg_ifF (tgt := 20) rfl (by decide) r2 q3 ?_
    refine hg_run 1 (pc' := 11) (ls' := [some (vr l0), some (vi l1), some (vi v2), none]) (st' := [vR l0]) rfl ?_
    obtain ⟨v8, e8, e⟩ := ob e
    refine gd_3_0 rfl A e8 ?_
    refine hg_run 1 (pc' := 17) (ls' := [some (vr l0), some (vi l1), some (vi v2), none]) (st' := [vR 6, vR v8]) rfl ?_
    obtain ⟨b9, e9, e⟩ := ob e
    rcases oi e with ⟨q9, e⟩ | ⟨q9, e⟩
    · refine hg_acm (tgt := 45) (t2 := 45) rfl (by decide) (ebT e9 q9) rfl ?_
      refine hg_run 4 (pc' := 52) (ls' := [some (vr l0), some (vi l1), some (vi v2), none]) (st' := [vI (wmax 10 l1), vR l0]) rfl ?_
      obtain ⟨h10, e10, e⟩ := ob e
      refine hg_nA (t := 9) rfl (fun _ _ _ _ => rfl) A (nA_e e10).1 (nA_e e10).2 (fun w10 A10 => ?_)
      refine hg_run 1 (pc' := 56) (ls' := [some (vr l0), some (vi l1), some (vi v2), none]) (st' := [vR (hN h), vR l0, vR (hN h)]) rfl ?_
      obtain ⟨h11, e11, e⟩ := ob e
      refine pd_3_0 rfl A10 e11 (fun w11 A11 => ?_)
      cases e
      exact hg_retR rfl (kr _ _ rfl _ A11)
    · refine hg_acm (tgt := 45) (t2 := 20) rfl (by decide) (ebF e9 q9) rfl ?_
      exact t52_j20 hd rl1 r2 A e kr
def c51 (l0 : Nat) (h : hS) : Option (Nat × hS) :=
  (gI h l0 8 1).bind (fun v1 =>
  (kT h l0 8).bind (fun u3 =>
  (c52 l0 (wadd v1 1) h).bind (fun v2 =>
  some (v2.1, v2.2))))
theorem t51 {d : Nat} (hd : 4 ≤ d) {l0 : Nat} {h : hS} {w : mmW} {o : Nat × hS} (A : Abs h w)  (e : c51 l0 h = some o) : hEv d 51 [vR l0] w (qR o) := by
  obtain ⟨d, rfl⟩ : ∃ d1, d = d1 + 1 := ⟨d - 1, by omega⟩
  have hd : 3 ≤ d := by omega
  refine hEv_start (args := [vr l0]) (nl := 1) rfl (Nat.le_of_ble_eq_true rfl) ?_
  show hG d 51 0 [some (vr l0)] [] w _
  have kr : ∀ (v1 : Nat) (h1 : hS), o = (v1, h1) → ∀ w', Abs h1 w' → qR o (some (rv v1), w') := fun v1 h1 q w' A' => by cases q; exact ⟨rfl, A'⟩
  unfold c51 at e
  refine hg_run 2 (pc' := 2) (ls' := [some (vr l0)]) (st' := [vR l0, vR l0]) rfl ?_
  obtain ⟨v1, e1, e⟩ := ob e
  refine gd_3_1 rfl A e1 (fun r1 => ?_)
  refine hg_run 2 (pc' := 7) (ls' := [some (vr l0)]) (st' := [vI (wadd v1 1), vR l0]) rfl ?_
  obtain ⟨u3, e3, e⟩ := ob e
  obtain ⟨v2, e2, e⟩ := ob e
  refine hg_cR (as := [vR l0, vI (wadd v1 1)]) (st' := []) rfl (fun _ _ _ _ => rfl) rfl rfl (Nat.le_of_ble_eq_true rfl) (Nat.le_of_ble_eq_true rfl) (recvV A (a := 3) (kT_e e3)) (t52 (by omega) A (rg_add _ _) e2) (fun w2 A2 => ?_)
  cases e
  exact hg_retR rfl (kr _ _ rfl _ A2)
def c50_j11 (l0 : Nat) (l1 : Nat) (l2 : Nat) (l3 : Int) (h : hS) : Option (hS) :=
  (wR h l2 19 22 l3 l1).bind (fun h3 =>
  (pI h3 l0 8 1 (wadd l3 1)).bind (fun h4 =>
  some h4))
theorem t50_j11 {d : Nat} (hd : 4 ≤ d) {l0 : Nat} {l1 : Nat} {l2 : Nat} {l3 : Int}  {h : hS} {w : mmW} {o : hS} {Q : mmO → Prop} (rl3 : rg l3) (A : Abs h w) (e : c50_j11 l0 l1 l2 l3 h = some o) (kr : ∀ h1 : hS, o = h1 → ∀ w', Abs h1 w' → Q (none, w')) : hG d 50 11 [some (vr l0), some (vr l1), some (vr l2), some (vi l3)] [] w Q := by
  unfold c50_j11 at e
  refine hg_run 3 (pc' := 14) (ls' := [some (vr l0), some (vr l1), some (vr l2), some (vi l3)]) (st' := [vR l1, vI l3, vR l2]) rfl ?_
  obtain ⟨h3, e3, e⟩ := ob e
  refine hg_wRd 9 rfl A (by decide) (by decide) e3 (fun w3 A3 => ?_)
  refine hg_run 4 (pc' := 19) (ls' := [some (vr l0), some (vr l1), some (vr l2), some (vi l3)]) (st' := [vI (wadd l3 1), vR l0]) rfl ?_
  obtain ⟨h4, e4, e⟩ := ob e
  refine pd_3_1 rfl A3 (rg_add _ _) e4 (fun w4 A4 => ?_)
  cases e
  exact hg_retV rfl (kr _ rfl _ A4)
def c50 (l0 : Nat) (l1 : Nat) (l2 : Nat) (l3 : Int) (h : hS) : Option (hS) :=
  (lA h l2 19).bind (fun v1 =>
  if l3 = v1 then
  (kT h l0 8).bind (fun u6 =>
  (c51 l0 h).bind (fun v5 =>
  c50_j11 l0 l1 v5.1 l3 v5.2))
  else
  c50_j11 l0 l1 l2 l3 h)
theorem t50 {d : Nat} (hd : 5 ≤ d) {l0 : Nat} {l1 : Nat} {l2 : Nat} {l3 : Int} {h : hS} {w : mmW} {o : hS} (A : Abs h w) (rl3 : rg l3) (e : c50 l0 l1 l2 l3 h = some o) : hEv d 50 [vR l0, vR l1, vR l2, vI l3] w (qV o) := by
  obtain ⟨d, rfl⟩ : ∃ d1, d = d1 + 1 := ⟨d - 1, by omega⟩
  have hd : 4 ≤ d := by omega
  refine hEv_start (args := [vr l0, vr l1, vr l2, vi l3]) (nl := 4) rfl (Nat.le_of_ble_eq_true rfl) ?_
  show hG d 50 0 [some (vr l0), some (vr l1), some (vr l2), some (vi l3)] [] w _
  have kr : ∀ h1 : hS, o = h1 → ∀ w', Abs h1 w' → qV o (none, w') := fun h1 q w' A' => by cases q; exact ⟨rfl, A'⟩
  unfold c50 at e
  refine hg_run 2 (pc' := 2) (ls' := [some (vr l0), some (vr l1), some (vr l2), some (vi l3)]) (st' := [vR l2, vI l3]) rfl ?_
  obtain ⟨v1, e1, e⟩ := ob e
  refine hg_len (t := 9) rfl A (lA_e e1).1 (lA_e e1).2 (fun r1 => ?_)
  rcases oi e with ⟨q2, e⟩ | ⟨q2, e⟩
  · refine hg_icF (tgt := 11) rfl (by decide) rl3 r1 (show ¬ ¬ (l3 = v1) from fun f => f q2) ?_
    refine hg_run 1 (pc' := 7) (ls' := [some (vr l0), some (vr l1), some (vr l2), some (vi l3)]) (st' := [vR l0]) rfl ?_
    obtain ⟨u6, e6, e⟩ := ob e
    obtain ⟨v5, e5, e⟩ := ob e
    refine hg_cR (as := [vR l0]) (st' := []) rfl (fun _ _ _ _ => rfl) rfl rfl (Nat.le_of_ble_eq_true rfl) (Nat.le_of_ble_eq_true rfl) (recvV A (a := 3) (kT_e e6)) (t51 (by omega) A  e5) (fun w5 A5 => ?_)
    refine hg_run 1 (pc' := 11) (ls' := [some (vr l0), some (vr l1), some (vr v5.1), some (vi l3)]) (st' := []) rfl ?_
    exact t50_j11 hd rl3 A5 e kr
  · refine hg_icT (tgt := 11) rfl (by decide) rl3 r1 (show ¬ (l3 = v1) from q2) ?_
    exact t50_j11 hd rl3 A e kr
def c49 (l0 : Nat) (l1 : Nat) (h : hS) : Option (Int × hS) :=
  (gI h l0 8 2).bind (fun v1 =>
  (pI h l0 8 2 (wadd v1 1)).bind (fun h2 =>
  (gR h2 l0 8 0).bind (fun v3 =>
  (gI h2 l0 8 1).bind (fun v4 =>
  (kT h2 l0 8).bind (fun u6 =>
  (c50 l0 l1 v3 v4 h2).bind (fun h5 =>
  some (1, h5)))))))
theorem t49 {d : Nat} (hd : 6 ≤ d) {l0 : Nat} {l1 : Nat} {h : hS} {w : mmW} {o : Int × hS} (A : Abs h w)  (e : c49 l0 l1 h = some o) : hEv d 49 [vR l0, vR l1] w (qI o) := by
  obtain ⟨d, rfl⟩ : ∃ d1, d = d1 + 1 := ⟨d - 1, by omega⟩
  have hd : 5 ≤ d := by omega
  refine hEv_start (args := [vr l0, vr l1]) (nl := 2) rfl (Nat.le_of_ble_eq_true rfl) ?_
  show hG d 49 0 [some (vr l0), some (vr l1)] [] w _
  have kr : ∀ (v1 : Int) (h1 : hS), o = (v1, h1) → ∀ w', rg v1 → Abs h1 w' → qI o (some (.int (Int32.ofInt v1)), w') := fun v1 h1 q w' r A' => by cases q; exact ⟨rfl, r, A'⟩
  unfold c49 at e
  refine hg_run 2 (pc' := 2) (ls' := [some (vr l0), some (vr l1)]) (st' := [vR l0, vR l0]) rfl ?_
  obtain ⟨v1, e1, e⟩ := ob e
  refine gd_3_2 rfl A e1 (fun r1 => ?_)
  refine hg_run 2 (pc' := 7) (ls' := [some (vr l0), some (vr l1)]) (st' := [vI (wadd v1 1), vR l0]) rfl ?_
  obtain ⟨h2, e2, e⟩ := ob e
  refine pd_3_2 rfl A (rg_add _ _) e2 (fun w2 A2 => ?_)
  refine hg_run 3 (pc' := 13) (ls' := [some (vr l0), some (vr l1)]) (st' := [vR l0, vR l1, vR l0]) rfl ?_
  obtain ⟨v3, e3, e⟩ := ob e
  refine gd_3_0 rfl A2 e3 ?_
  refine hg_run 1 (pc' := 17) (ls' := [some (vr l0), some (vr l1)]) (st' := [vR l0, vR v3, vR l1, vR l0]) rfl ?_
  obtain ⟨v4, e4, e⟩ := ob e
  refine gd_3_1 rfl A2 e4 (fun r4 => ?_)
  obtain ⟨u6, e6, e⟩ := ob e
  obtain ⟨h5, e5, e⟩ := ob e
  refine hg_cV (as := [vR l0, vR l1, vR v3, vI v4]) (st' := []) rfl (fun _ _ _ _ => rfl) rfl rfl (Nat.le_of_ble_eq_true rfl) (Nat.le_of_ble_eq_true rfl) (recvV A2 (a := 3) (kT_e e6)) (t50 (by omega) A2 r4 e5) (fun w5 A5 => ?_)
  refine hg_run 1 (pc' := 24) (ls' := [some (vr l0), some (vr l1)]) (st' := [vI 1]) rfl ?_
  cases e
  exact hg_retI rfl (by decide) (fit_B (.inr rfl)) (kr _ _ rfl _ (rgn 1 rfl) A5)
def c57 (l0 : Nat) (l1 : Int) (h : hS) : Option (hS) :=
  (k8 l0).bind (fun u1 =>
  (nA h 1 8).bind (fun h2 =>
  (pR h2 l0 24 5 (hN h)).bind (fun h3 =>
  (nA h3 1 8).bind (fun h4 =>
  (pR h4 l0 24 6 (hN h3)).bind (fun h5 =>
  (nA h5 1 8).bind (fun h6 =>
  (pR h6 l0 24 7 (hN h5)).bind (fun h7 =>
  (nA h7 1 4).bind (fun h8 =>
  (pR h8 l0 24 9 (hN h7)).bind (fun h9 =>
  (nA h9 1 4).bind (fun h10 =>
  (pR h10 l0 24 10 (hN h9)).bind (fun h11 =>
  (nA h11 1 8).bind (fun h12 =>
  (pR h12 l0 24 12 (hN h11)).bind (fun h13 =>
  (nA h13 21 8).bind (fun h14 =>
  (pR h14 l0 24 13 (hN h13)).bind (fun h15 =>
  (nA h15 3 40).bind (fun h16 =>
  (pR h16 l0 24 14 (hN h15)).bind (fun h17 =>
  (nA h17 17 40).bind (fun h18 =>
  (pR h18 l0 24 15 (hN h17)).bind (fun h19 =>
  (nA h19 1 40).bind (fun h20 =>
  (pR h20 l0 24 16 (hN h19)).bind (fun h21 =>
  (nA h21 17 40).bind (fun h22 =>
  (pR h22 l0 24 17 (hN h21)).bind (fun h23 =>
  (nA h23 1 40).bind (fun h24 =>
  (pR h24 l0 24 18 (hN h23)).bind (fun h25 =>
  (pI h25 l0 24 0 l1).bind (fun h26 =>
  some h26))))))))))))))))))))))))))
theorem t57 {d : Nat} (hd : 1 ≤ d) {l0 : Nat} {l1 : Int} {h : hS} {w : mmW} {o : hS} (A : Abs h w) (rl1 : rg l1) (e : c57 l0 l1 h = some o) : hEv d 57 [vR l0, vI l1] w (qV o) := by
  obtain ⟨d, rfl⟩ : ∃ d1, d = d1 + 1 := ⟨d - 1, by omega⟩
  have hd : 0 ≤ d := by omega
  refine hEv_start (args := [vr l0, vi l1]) (nl := 2) rfl (Nat.le_of_ble_eq_true rfl) ?_
  show hG d 57 0 [some (vr l0), some (vi l1)] [] w _
  have kr : ∀ h1 : hS, o = h1 → ∀ w', Abs h1 w' → qV o (none, w') := fun h1 q w' A' => by cases q; exact ⟨rfl, A'⟩
  unfold c57 at e
  refine hg_run 1 (pc' := 1) (ls' := [some (vr l0), some (vi l1)]) (st' := [vR l0]) rfl ?_
  obtain ⟨u1, e1, e⟩ := ob e
  refine hg_objc rfl (k8_e e1) (Nat.le_of_ble_eq_true rfl) ?_
  refine hg_run 2 (pc' := 7) (ls' := [some (vr l0), some (vi l1)]) (st' := [vI 8, vR l0]) rfl ?_
  obtain ⟨h2, e2, e⟩ := ob e
  refine hg_nA (t := 0) rfl (fun _ _ _ _ => rfl) A (nA_e e2).1 (nA_e e2).2 (fun w2 A2 => ?_)
  obtain ⟨h3, e3, e⟩ := ob e
  refine pd_11_5 rfl A2 e3 (fun w3 A3 => ?_)
  refine hg_run 2 (pc' := 15) (ls' := [some (vr l0), some (vi l1)]) (st' := [vI 8, vR l0]) rfl ?_
  obtain ⟨h4, e4, e⟩ := ob e
  refine hg_nA (t := 0) rfl (fun _ _ _ _ => rfl) A3 (nA_e e4).1 (nA_e e4).2 (fun w4 A4 => ?_)
  obtain ⟨h5, e5, e⟩ := ob e
  refine pd_11_6 rfl A4 e5 (fun w5 A5 => ?_)
  refine hg_run 2 (pc' := 23) (ls' := [some (vr l0), some (vi l1)]) (st' := [vI 8, vR l0]) rfl ?_
  obtain ⟨h6, e6, e⟩ := ob e
  refine hg_nA (t := 0) rfl (fun _ _ _ _ => rfl) A5 (nA_e e6).1 (nA_e e6).2 (fun w6 A6 => ?_)
  obtain ⟨h7, e7, e⟩ := ob e
  refine pd_11_7 rfl A6 e7 (fun w7 A7 => ?_)
  refine hg_run 2 (pc' := 30) (ls' := [some (vr l0), some (vi l1)]) (st' := [vI 4, vR l0]) rfl ?_
  obtain ⟨h8, e8, e⟩ := ob e
  refine hg_nA (t := 0) rfl (fun _ _ _ _ => rfl) A7 (nA_e e8).1 (nA_e e8).2 (fun w8 A8 => ?_)
  obtain ⟨h9, e9, e⟩ := ob e
  refine pd_11_9 rfl A8 e9 (fun w9 A9 => ?_)
  refine hg_run 2 (pc' := 37) (ls' := [some (vr l0), some (vi l1)]) (st' := [vI 4, vR l0]) rfl ?_
  obtain ⟨h10, e10, e⟩ := ob e
  refine hg_nA (t := 0) rfl (fun _ _ _ _ => rfl) A9 (nA_e e10).1 (nA_e e10).2 (fun w10 A10 => ?_)
  obtain ⟨h11, e11, e⟩ := ob e
  refine pd_11_10 rfl A10 e11 (fun w11 A11 => ?_)
  refine hg_run 2 (pc' := 45) (ls' := [some (vr l0), some (vi l1)]) (st' := [vI 8, vR l0]) rfl ?_
  obtain ⟨h12, e12, e⟩ := ob e
  refine hg_nA (t := 0) rfl (fun _ _ _ _ => rfl) A11 (nA_e e12).1 (nA_e e12).2 (fun w12 A12 => ?_)
  obtain ⟨h13, e13, e⟩ := ob e
  refine pd_11_12 rfl A12 e13 (fun w13 A13 => ?_)
  refine hg_run 2 (pc' := 53) (ls' := [some (vr l0), some (vi l1)]) (st' := [vI 8, vR l0]) rfl ?_
  obtain ⟨h14, e14, e⟩ := ob e
  refine hg_nA (t := 10) rfl (fun _ _ _ _ => rfl) A13 (nA_e e14).1 (nA_e e14).2 (fun w14 A14 => ?_)
  obtain ⟨h15, e15, e⟩ := ob e
  refine pd_11_13 rfl A14 e15 (fun w15 A15 => ?_)
  refine hg_run 2 (pc' := 62) (ls' := [some (vr l0), some (vi l1)]) (st' := [vI 40, vR l0]) rfl ?_
  obtain ⟨h16, e16, e⟩ := ob e
  refine hg_nA (t := 1) rfl (fun _ _ _ _ => rfl) A15 (nA_e e16).1 (nA_e e16).2 (fun w16 A16 => ?_)
  obtain ⟨h17, e17, e⟩ := ob e
  refine pd_11_14 rfl A16 e17 (fun w17 A17 => ?_)
  refine hg_run 2 (pc' := 70) (ls' := [some (vr l0), some (vi l1)]) (st' := [vI 40, vR l0]) rfl ?_
  obtain ⟨h18, e18, e⟩ := ob e
  refine hg_nA (t := 8) rfl (fun _ _ _ _ => rfl) A17 (nA_e e18).1 (nA_e e18).2 (fun w18 A18 => ?_)
  obtain ⟨h19, e19, e⟩ := ob e
  refine pd_11_15 rfl A18 e19 (fun w19 A19 => ?_)
  refine hg_run 2 (pc' := 79) (ls' := [some (vr l0), some (vi l1)]) (st' := [vI 40, vR l0]) rfl ?_
  obtain ⟨h20, e20, e⟩ := ob e
  refine hg_nA (t := 0) rfl (fun _ _ _ _ => rfl) A19 (nA_e e20).1 (nA_e e20).2 (fun w20 A20 => ?_)
  obtain ⟨h21, e21, e⟩ := ob e
  refine pd_11_16 rfl A20 e21 (fun w21 A21 => ?_)
  refine hg_run 2 (pc' := 87) (ls' := [some (vr l0), some (vi l1)]) (st' := [vI 40, vR l0]) rfl ?_
  obtain ⟨h22, e22, e⟩ := ob e
  refine hg_nA (t := 8) rfl (fun _ _ _ _ => rfl) A21 (nA_e e22).1 (nA_e e22).2 (fun w22 A22 => ?_)
  obtain ⟨h23, e23, e⟩ := ob e
  refine pd_11_17 rfl A22 e23 (fun w23 A23 => ?_)
  refine hg_run 2 (pc' := 96) (ls' := [some (vr l0), some (vi l1)]) (st' := [vI 40, vR l0]) rfl ?_
  obtain ⟨h24, e24, e⟩ := ob e
  refine hg_nA (t := 0) rfl (fun _ _ _ _ => rfl) A23 (nA_e e24).1 (nA_e e24).2 (fun w24 A24 => ?_)
  obtain ⟨h25, e25, e⟩ := ob e
  refine pd_11_18 rfl A24 e25 (fun w25 A25 => ?_)
  refine hg_run 2 (pc' := 103) (ls' := [some (vr l0), some (vi l1)]) (st' := [vI l1, vR l0]) rfl ?_
  obtain ⟨h26, e26, e⟩ := ob e
  refine pd_11_0 rfl A25 rl1 e26 (fun w26 A26 => ?_)
  cases e
  exact hg_retV rfl (kr _ rfl _ A26)
def c56_j48 (l0 : Nat) (l1 : Nat) (l2 : Nat) (h : hS) : Option (Int × hS) :=
  (some (mkH h 24 19)).bind (fun h12 =>
  (gI h12 l1 22 2).bind (fun v13 =>
  (k8 (hN h)).bind (fun u15 =>
  (c57 (hN h) v13 h12).bind (fun h14 =>
  (pR h14 (hN h) 24 1 l2).bind (fun h16 =>
  (pI h16 (hN h) 24 3 1).bind (fun h17 =>
  (gR h17 l0 18 0).bind (fun v18 =>
  (gI h17 l0 18 1).bind (fun v19 =>
  (wR h17 v18 17 24 v19 (hN h)).bind (fun h20 =>
  (gI h20 l0 18 1).bind (fun v21 =>
  (pI h20 l0 18 1 (wadd v21 1)).bind (fun h22 =>
  some (0, h22))))))))))))
theorem t56_j48 {d : Nat} (hd : 1 ≤ d) {l0 : Nat} {l1 : Nat} {l2 : Nat} {z3 : Option hO} {h : hS} {w : mmW} {o : Int × hS} {Q : mmO → Prop}  (A : Abs h w) (e : c56_j48 l0 l1 l2 h = some o) (kr : ∀ (v1 : Int) (h1 : hS), o = (v1, h1) → ∀ w', rg v1 → Abs h1 w' → Q (some (.int (Int32.ofInt v1)), w')) : hG d 56 48 [some (vr l0), some (vr l1), some (vr l2), z3] [] w Q := by
  unfold c56_j48 at e
  obtain ⟨h12, e12, e⟩ := ob e
  refine hg_new (a := 11) rfl A (by decide +kernel) (by decide) e12 (fun w12 A12 => ?_)
  refine hg_run 2 (pc' := 53) (ls' := [some (vr l0), some (vr l1), some (vr l2), z3]) (st' := [vR l1, vR (hN h), vR (hN h)]) rfl ?_
  obtain ⟨v13, e13, e⟩ := ob e
  refine gd_10_2 rfl A12 e13 (fun r13 => ?_)
  obtain ⟨u15, e15, e⟩ := ob e
  obtain ⟨h14, e14, e⟩ := ob e
  refine hg_cV (as := [vR (hN h), vI v13]) (st' := [vR (hN h)]) rfl (fun _ _ _ _ => rfl) rfl rfl (Nat.le_of_ble_eq_true rfl) (Nat.le_of_ble_eq_true rfl) (recv1 (k8_e e15)) (t57 (by omega) A12 r13 e14) (fun w14 A14 => ?_)
  refine hg_run 3 (pc' := 62) (ls' := [some (vr l0), some (vr l1), some (vr l2), some (vr (hN h))]) (st' := [vR l2, vR (hN h)]) rfl ?_
  obtain ⟨h16, e16, e⟩ := ob e
  refine pd_11_1 rfl A14 e16 (fun w16 A16 => ?_)
  refine hg_run 2 (pc' := 67) (ls' := [some (vr l0), some (vr l1), some (vr l2), some (vr (hN h))]) (st' := [vI 1, vR (hN h)]) rfl ?_
  obtain ⟨h17, e17, e⟩ := ob e
  refine pd_11_3 rfl A16 (rgn 1 rfl) (.inr rfl) e17 (fun w17 A17 => ?_)
  refine hg_run 1 (pc' := 71) (ls' := [some (vr l0), some (vr l1), some (vr l2), some (vr (hN h))]) (st' := [vR l0]) rfl ?_
  obtain ⟨v18, e18, e⟩ := ob e
  refine gd_8_0 rfl A17 e18 ?_
  refine hg_run 1 (pc' := 75) (ls' := [some (vr l0), some (vr l1), some (vr l2), some (vr (hN h))]) (st' := [vR l0, vR v18]) rfl ?_
  obtain ⟨v19, e19, e⟩ := ob e
  refine gd_8_1 rfl A17 e19 (fun r19 => ?_)
  refine hg_run 1 (pc' := 79) (ls' := [some (vr l0), some (vr l1), some (vr l2), some (vr (hN h))]) (st' := [vR (hN h), vI v19, vR v18]) rfl ?_
  obtain ⟨h20, e20, e⟩ := ob e
  refine hg_wRd 8 rfl A17 (by decide) (by decide) e20 (fun w20 A20 => ?_)
  refine hg_run 2 (pc' := 82) (ls' := [some (vr l0), some (vr l1), some (vr l2), some (vr (hN h))]) (st' := [vR l0, vR l0]) rfl ?_
  obtain ⟨v21, e21, e⟩ := ob e
  refine gd_8_1 rfl A20 e21 (fun r21 => ?_)
  refine hg_run 2 (pc' := 87) (ls' := [some (vr l0), some (vr l1), some (vr l2), some (vr (hN h))]) (st' := [vI (wadd v21 1), vR l0]) rfl ?_
  obtain ⟨h22, e22, e⟩ := ob e
  refine pd_8_1 rfl A20 (rg_add _ _) e22 (fun w22 A22 => ?_)
  refine hg_run 1 (pc' := 91) (ls' := [some (vr l0), some (vr l1), some (vr l2), some (vr (hN h))]) (st' := [vI 0]) rfl ?_
  cases e
  exact hg_retI rfl (by decide) (fit_I _) (kr _ _ rfl _ (rgn 0 rfl) A22)
def c56 (l0 : Nat) (l1 : Nat) (h : hS) : Option (Int × hS) :=
  (gI h l1 22 2).bind (fun v1 =>
  (kT h l0 18).bind (fun u3 =>
  (c47 l0 v1 h).bind (fun v2 =>
  (hnul v2).bind (fun b4 =>
  if b4 = true then
  (gI h l0 18 1).bind (fun v5 =>
  if v5 < 12 then
  (gI h l1 22 4).bind (fun v7 =>
  (kT h l0 18).bind (fun u9 =>
  (c47 l0 v7 h).bind (fun v8 =>
  (gI h l1 22 4).bind (fun v10 =>
  if v10 = (-1) then
  c56_j48 l0 l1 v8 h
  else
  (hnul v8).bind (fun b23 =>
  if b23 = true then
  some (1, h)
  else
  c56_j48 l0 l1 v8 h)))))
  else
  some (7, h))
  else
  some (2, h)))))
theorem t56 {d : Nat} (hd : 2 ≤ d) {l0 : Nat} {l1 : Nat} {h : hS} {w : mmW} {o : Int × hS} (A : Abs h w)  (e : c56 l0 l1 h = some o) : hEv d 56 [vR l0, vR l1] w (qI o) := by
  obtain ⟨d, rfl⟩ : ∃ d1, d = d1 + 1 := ⟨d - 1, by omega⟩
  have hd : 1 ≤ d := by omega
  refine hEv_start (args := [vr l0, vr l1]) (nl := 4) rfl (Nat.le_of_ble_eq_true rfl) ?_
  show hG d 56 0 [some (vr l0), some (vr l1), none, none] [] w _
  have kr : ∀ (v1 : Int) (h1 : hS), o = (v1, h1) → ∀ w', rg v1 → Abs h1 w' → qI o (some (.int (Int32.ofInt v1)), w') := fun v1 h1 q w' r A' => by cases q; exact ⟨rfl, r, A'⟩
  unfold c56 at e
  refine hg_run 2 (pc' := 2) (ls' := [some (vr l0), some (vr l1), none, none]) (st' := [vR l1, vR l0]) rfl ?_
  obtain ⟨v1, e1, e⟩ := ob e
  refine gd_10_2 rfl A e1 (fun r1 => ?_)
  obtain ⟨u3, e3, e⟩ := ob e
  obtain ⟨v2, e2, e⟩ := ob e
  refine hg_cRp (as := [vR l0, vI v1]) (st' := []) rfl (fun _ _ _ _ => rfl) rfl rfl (Nat.le_of_ble_eq_true rfl) (Nat.le_of_ble_eq_true rfl) (recvV A (a := 8) (kT_e e3)) (t47 (by omega) A r1 e2) ?_
  obtain ⟨b4, e4, e⟩ := ob e
  rcases oi e with ⟨q4, e⟩ | ⟨q4, e⟩
  · refine hg_nul (yes := true) (tgt := 13) (t2 := 13) rfl (fun _ _ _ _ => rfl) (by decide) (ebT e4 q4) rfl ?_
    refine hg_run 1 (pc' := 14) (ls' := [some (vr l0), some (vr l1), none, none]) (st' := [vR l0]) rfl ?_
    obtain ⟨v5, e5, e⟩ := ob e
    refine gd_8_1 rfl A e5 (fun r5 => ?_)
    refine hg_run 1 (pc' := 19) (ls' := [some (vr l0), some (vr l1), none, none]) (st' := [vI 12, vI v5]) rfl ?_
    rcases oi e with ⟨q6, e⟩ | ⟨q6, e⟩
    · refine hg_icT (tgt := 25) rfl (by decide) r5 (rgn 12 rfl) q6 ?_
      refine hg_run 2 (pc' := 27) (ls' := [some (vr l0), some (vr l1), none, none]) (st' := [vR l1, vR l0]) rfl ?_
      obtain ⟨v7, e7, e⟩ := ob e
      refine gd_10_4 rfl A e7 (fun r7 => ?_)
      obtain ⟨u9, e9, e⟩ := ob e
      obtain ⟨v8, e8, e⟩ := ob e
      refine hg_cRp (as := [vR l0, vI v7]) (st' := []) rfl (fun _ _ _ _ => rfl) rfl rfl (Nat.le_of_ble_eq_true rfl) (Nat.le_of_ble_eq_true rfl) (recvV A (a := 8) (kT_e e9)) (t47 (by omega) A r7 e8) ?_
      refine hg_run 2 (pc' := 35) (ls' := [some (vr l0), some (vr l1), some (vr v8), none]) (st' := [vR l1]) rfl ?_
      obtain ⟨v10, e10, e⟩ := ob e
      refine gd_10_4 rfl A e10 (fun r10 => ?_)
      refine hg_run 1 (pc' := 39) (ls' := [some (vr l0), some (vr l1), some (vr v8), none]) (st' := [vI (-1), vI v10]) rfl ?_
      rcases oi e with ⟨q11, e⟩ | ⟨q11, e⟩
      · refine hg_icT (tgt := 48) rfl (by decide) r10 (rgn (-1) rfl) q11 ?_
        exact t56_j48 hd  A e kr
      · refine hg_icF (tgt := 48) rfl (by decide) r10 (rgn (-1) rfl) q11 ?_
        refine hg_run 1 (pc' := 43) (ls' := [some (vr l0), some (vr l1), some (vr v8), none]) (st' := [vR v8]) rfl ?_
        obtain ⟨b23, e23, e⟩ := ob e
        rcases oi e with ⟨q23, e⟩ | ⟨q23, e⟩
        · refine hg_nul (yes := false) (tgt := 48) (t2 := 46) rfl (fun _ _ _ _ => rfl) (by decide) (ebT e23 q23) rfl ?_
          refine hg_run 1 (pc' := 47) (ls' := [some (vr l0), some (vr l1), some (vr v8), none]) (st' := [vI 1]) rfl ?_
          cases e
          exact hg_retI rfl (by decide) (fit_I _) (kr _ _ rfl _ (rgn 1 rfl) A)
        · refine hg_nul (yes := false) (tgt := 48) (t2 := 48) rfl (fun _ _ _ _ => rfl) (by decide) (ebF e23 q23) rfl ?_
          exact t56_j48 hd  A e kr
    · refine hg_icF (tgt := 25) rfl (by decide) r5 (rgn 12 rfl) q6 ?_
      refine hg_run 1 (pc' := 24) (ls' := [some (vr l0), some (vr l1), none, none]) (st' := [vI 7]) rfl ?_
      cases e
      exact hg_retI rfl (by decide) (fit_I _) (kr _ _ rfl _ (rgn 7 rfl) A)
  · refine hg_nul (yes := true) (tgt := 13) (t2 := 11) rfl (fun _ _ _ _ => rfl) (by decide) (ebF e4 q4) rfl ?_
    refine hg_run 1 (pc' := 12) (ls' := [some (vr l0), some (vr l1), none, none]) (st' := [vI 2]) rfl ?_
    cases e
    exact hg_retI rfl (by decide) (fit_I _) (kr _ _ rfl _ (rgn 2 rfl) A)
def c58 (l1 : Int) (h : hS) : Option (Int × hS) :=
  (c39  h).bind (fun v1 =>
  if v1 = l1 then
  (some (sI h 15 3 (wadd (hI h 15 3) 1))).bind (fun h3 =>
  some (1, h3))
  else
  (c46 1 (hI h 15 3) h).bind (fun v4 =>
  (kB v4.1).bind (fun u5 =>
  some (v4.1, v4.2))))
theorem t58 {d : Nat} (hd : 2 ≤ d) {l1 : Int} {h : hS} {w : mmW} {o : Int × hS} (A : Abs h w) (rl1 : rg l1) (e : c58 l1 h = some o) : hEv d 58 [vR 15, vI l1] w (qI o) := by
  obtain ⟨d, rfl⟩ : ∃ d1, d = d1 + 1 := ⟨d - 1, by omega⟩
  have hd : 1 ≤ d := by omega
  refine hEv_start (args := [vr 15, vi l1]) (nl := 2) rfl (Nat.le_of_ble_eq_true rfl) ?_
  show hG d 58 0 [some (vr 15), some (vi l1)] [] w _
  have kr : ∀ (v1 : Int) (h1 : hS), o = (v1, h1) → ∀ w', rg v1 → Abs h1 w' → qI o (some (.int (Int32.ofInt v1)), w') := fun v1 h1 q w' r A' => by cases q; exact ⟨rfl, r, A'⟩
  unfold c58 at e
  refine hg_run 1 (pc' := 1) (ls' := [some (vr 15), some (vi l1)]) (st' := [vR 15]) rfl ?_
  obtain ⟨v1, e1, e⟩ := ob e
  refine hg_cIp (as := [vR 15]) (st' := []) rfl (fun _ _ _ _ => rfl) rfl rfl (Nat.le_of_ble_eq_true rfl) (Nat.le_of_ble_eq_true rfl) (recvV A (a := 2) (Abs_ks A (i := 7) rfl).1) (t39 (by omega) A  e1) (fun r1 => ?_)
  refine hg_run 1 (pc' := 5) (ls' := [some (vr 15), some (vi l1)]) (st' := [vI l1, vI v1]) rfl ?_
  rcases oi e with ⟨q2, e⟩ | ⟨q2, e⟩
  · refine hg_icT (tgt := 18) rfl (by decide) r1 rl1 q2 ?_
    refine hg_run 2 (pc' := 20) (ls' := [some (vr 15), some (vi l1)]) (st' := [vR 15, vR 15]) rfl ?_
    refine gs_15_3 rfl A ?_
    refine hg_run 2 (pc' := 25) (ls' := [some (vr 15), some (vi l1)]) (st' := [vI (wadd (hI h 15 3) 1), vR 15]) rfl ?_
    obtain ⟨h3, e3, e⟩ := ob e
    refine ps_15_3 rfl A (rg_add _ _) e3 (fun w3 A3 => ?_)
    refine hg_run 1 (pc' := 29) (ls' := [some (vr 15), some (vi l1)]) (st' := [vI 1]) rfl ?_
    cases e
    exact hg_retI rfl (by decide) (fit_B (.inr rfl)) (kr _ _ rfl _ (rgn 1 rfl) A3)
  · refine hg_icF (tgt := 18) rfl (by decide) r1 rl1 q2 ?_
    refine hg_run 3 (pc' := 11) (ls' := [some (vr 15), some (vi l1)]) (st' := [vR 15, vI 1, vR 15]) rfl ?_
    refine gs_15_3 rfl A ?_
    obtain ⟨v4, e4, e⟩ := ob e
    refine hg_cI (as := [vR 15, vI 1, vI (hI h 15 3)]) (st' := []) rfl (fun _ _ _ _ => rfl) rfl rfl (Nat.le_of_ble_eq_true rfl) (Nat.le_of_ble_eq_true rfl) (recvV A (a := 2) (Abs_ks A (i := 7) rfl).1) (t46 (by omega) A (rgn 1 rfl) (Abs_rg A 15 3) e4) (fun w4 r4 A4 => ?_)
    obtain ⟨u5, e5, e⟩ := ob e
    cases e
    exact hg_retI rfl (by decide) (fit_B (kB_e e5)) (kr _ _ rfl _ r4 A4)
def c61_j32  : Option (Int) :=
  some 1
theorem t61_j32 {d : Nat} (hd : 1 ≤ d)  {z0 : Option hO} {z1 : Option hO} {h : hS} {w : mmW} {o : Int} {Q : mmO → Prop}  (A : Abs h w) (e : c61_j32  = some o) (kr : ∀ v1 : Int, o = v1 → rg v1 → Q (some (.int (Int32.ofInt v1)), w)) : hG d 61 32 [z0, z1] [] w Q := by
  unfold c61_j32 at e
  refine hg_run 2 (pc' := 37) (ls' := [z0, z1]) (st' := [vI 1]) rfl ?_
  cases e
  exact hg_retI rfl (by decide) (fit_B (.inr rfl)) (kr _ rfl (rgn 1 rfl))
def c61 (l0 : Nat) (l1 : Int) (h : hS) : Option (Int) :=
  (gR h l0 24 5).bind (fun v1 =>
  (gI h l0 24 4).bind (fun v2 =>
  (c29 v1 v2 l1 h).bind (fun v3 =>
  if v3 = (-1) then
  (gR h l0 24 9).bind (fun v5 =>
  (gI h l0 24 8).bind (fun v6 =>
  (c29 v5 v6 l1 h).bind (fun v7 =>
  if v7 = (-1) then
  some 0
  else
  c61_j32 )))
  else
  c61_j32 )))
theorem t61 {d : Nat} (hd : 2 ≤ d) {l0 : Nat} {l1 : Int} {h : hS} {w : mmW} {o : Int} (A : Abs h w) (rl1 : rg l1) (e : c61 l0 l1 h = some o) : hEv d 61 [vR l0, vI l1] w (qIp o w) := by
  obtain ⟨d, rfl⟩ : ∃ d1, d = d1 + 1 := ⟨d - 1, by omega⟩
  have hd : 1 ≤ d := by omega
  refine hEv_start (args := [vr l0, vi l1]) (nl := 2) rfl (Nat.le_of_ble_eq_true rfl) ?_
  show hG d 61 0 [some (vr l0), some (vi l1)] [] w _
  have kr : ∀ v1 : Int, o = v1 → rg v1 → qIp o w (some (.int (Int32.ofInt v1)), w) := fun v1 q r => by cases q; exact ⟨rfl, r⟩
  unfold c61 at e
  refine hg_run 1 (pc' := 1) (ls' := [some (vr l0), some (vi l1)]) (st' := [vR l0]) rfl ?_
  obtain ⟨v1, e1, e⟩ := ob e
  refine gd_11_5 rfl A e1 ?_
  refine hg_run 1 (pc' := 5) (ls' := [some (vr l0), some (vi l1)]) (st' := [vR l0, vR v1]) rfl ?_
  obtain ⟨v2, e2, e⟩ := ob e
  refine gd_11_4 rfl A e2 (fun r2 => ?_)
  refine hg_run 1 (pc' := 9) (ls' := [some (vr l0), some (vi l1)]) (st' := [vI l1, vI v2, vR v1]) rfl ?_
  obtain ⟨v3, e3, e⟩ := ob e
  refine hg_cIp (as := [vR v1, vI v2, vI l1]) (st' := []) rfl (fun _ _ _ _ => rfl) rfl rfl (Nat.le_of_ble_eq_true rfl) (Nat.le_of_ble_eq_true rfl) recv0 (t29 (by omega) A r2 rl1 e3) (fun r3 => ?_)
  refine hg_run 1 (pc' := 13) (ls' := [some (vr l0), some (vi l1)]) (st' := [vI (-1), vI v3]) rfl ?_
  rcases oi e with ⟨q4, e⟩ | ⟨q4, e⟩
  · refine hg_icF (tgt := 32) rfl (by decide) r3 (rgn (-1) rfl) (show ¬ ¬ (v3 = (-1)) from fun f => f q4) ?_
    refine hg_run 1 (pc' := 17) (ls' := [some (vr l0), some (vi l1)]) (st' := [vR l0]) rfl ?_
    obtain ⟨v5, e5, e⟩ := ob e
    refine gd_11_9 rfl A e5 ?_
    refine hg_run 1 (pc' := 21) (ls' := [some (vr l0), some (vi l1)]) (st' := [vR l0, vR v5]) rfl ?_
    obtain ⟨v6, e6, e⟩ := ob e
    refine gd_11_8 rfl A e6 (fun r6 => ?_)
    refine hg_run 1 (pc' := 25) (ls' := [some (vr l0), some (vi l1)]) (st' := [vI l1, vI v6, vR v5]) rfl ?_
    obtain ⟨v7, e7, e⟩ := ob e
    refine hg_cIp (as := [vR v5, vI v6, vI l1]) (st' := []) rfl (fun _ _ _ _ => rfl) rfl rfl (Nat.le_of_ble_eq_true rfl) (Nat.le_of_ble_eq_true rfl) recv0 (t29 (by omega) A r6 rl1 e7) (fun r7 => ?_)
    refine hg_run 1 (pc' := 29) (ls' := [some (vr l0), some (vi l1)]) (st' := [vI (-1), vI v7]) rfl ?_
    rcases oi e with ⟨q8, e⟩ | ⟨q8, e⟩
    · refine hg_icT (tgt := 36) rfl (by decide) r7 (rgn (-1) rfl) q8 ?_
      refine hg_run 1 (pc' := 37) (ls' := [some (vr l0), some (vi l1)]) (st' := [vI 0]) rfl ?_
      cases e
      exact hg_retI rfl (by decide) (fit_B (.inl rfl)) (kr _ rfl (rgn 0 rfl))
    · refine hg_icF (tgt := 36) rfl (by decide) r7 (rgn (-1) rfl) q8 ?_
      exact t61_j32 hd  A e kr
  · refine hg_icT (tgt := 32) rfl (by decide) r3 (rgn (-1) rfl) (show ¬ (v3 = (-1)) from q4) ?_
    exact t61_j32 hd  A e kr
def c60_b42 (l2 : Int) (h : hS) (l3 : Nat) : Option ((Nat) ⊕ ((Unit) ⊕ (Int))) :=
  (hnul l3).bind (fun b2 =>
  if b2 = true then
  some (.inr (.inl ()))
  else
  (kT h l3 24).bind (fun u4 =>
  (c61 l3 l2 h).bind (fun v3 =>
  if v3 = 0 then
  (gR h l3 24 1).bind (fun v6 =>
  some (.inl (v6)))
  else
  some (.inr (.inr 4)))))
theorem t60_b42 {d : Nat} (hd : 2 ≤ d) {l2 : Int} {l3 : Nat} {l0 : Nat} {l1 : Int} {h : hS} {w : mmW} {o : (Nat) ⊕ ((Unit) ⊕ (Int))} {Q : mmO → Prop} (rl2 : rg l2) (A : Abs h w) (e : c60_b42 l2 h l3 = some o) (kb : ∀ (s_0 : Nat), o = .inl (s_0) → hG d 60 42 [some (vr l0), some (vi l1), some (vi l2), some (vr s_0)] [] w Q) (ke : o = .inr (.inl ()) → ∀ (y3 : Option hO), hG d 60 64 [some (vr l0), some (vi l1), some (vi l2), y3] [] w Q) (kr : ∀ v1 : Int, o = .inr (.inr v1) → rg v1 → Q (some (.int (Int32.ofInt v1)), w)) : hG d 60 42 [some (vr l0), some (vi l1), some (vi l2), some (vr l3)] [] w Q := by
  unfold c60_b42 at e
  refine hg_run 1 (pc' := 43) (ls' := [some (vr l0), some (vi l1), some (vi l2), some (vr l3)]) (st' := [vR l3]) rfl ?_
  obtain ⟨b2, e2, e⟩ := ob e
  rcases oi e with ⟨q2, e⟩ | ⟨q2, e⟩
  · refine hg_nul (yes := true) (tgt := 64) (t2 := 64) rfl (fun _ _ _ _ => rfl) (by decide) (ebT e2 q2) rfl ?_
    cases e
    exact ke  rfl _ 
  · refine hg_nul (yes := true) (tgt := 64) (t2 := 46) rfl (fun _ _ _ _ => rfl) (by decide) (ebF e2 q2) rfl ?_
    refine hg_run 2 (pc' := 48) (ls' := [some (vr l0), some (vi l1), some (vi l2), some (vr l3)]) (st' := [vI l2, vR l3]) rfl ?_
    obtain ⟨u4, e4, e⟩ := ob e
    obtain ⟨v3, e3, e⟩ := ob e
    refine hg_cIp (as := [vR l3, vI l2]) (st' := []) rfl (fun _ _ _ _ => rfl) rfl rfl (Nat.le_of_ble_eq_true rfl) (Nat.le_of_ble_eq_true rfl) (recvV A (a := 11) (kT_e e4)) (t61 (by omega) A rl2 e3) (fun r3 => ?_)
    rcases oi e with ⟨q5, e⟩ | ⟨q5, e⟩
    · refine hg_ifT (tgt := 56) rfl (by decide) r3 q5 ?_
      refine hg_run 1 (pc' := 57) (ls' := [some (vr l0), some (vi l1), some (vi l2), some (vr l3)]) (st' := [vR l3]) rfl ?_
      obtain ⟨v6, e6, e⟩ := ob e
      refine gd_11_1 rfl A e6 ?_
      refine hg_run 2 (pc' := 42) (ls' := [some (vr l0), some (vi l1), some (vi l2), some (vr v6)]) (st' := []) rfl ?_
      cases e
      exact kb v6 rfl 
    · refine hg_ifF (tgt := 56) rfl (by decide) r3 q5 ?_
      refine hg_run 1 (pc' := 55) (ls' := [some (vr l0), some (vi l1), some (vi l2), some (vr l3)]) (st' := [vI 4]) rfl ?_
      cases e
      exact hg_retI rfl (by decide) (fit_I _) (kr _ rfl (rgn 4 rfl))
theorem t60_l42 {d : Nat} (hd : 2 ≤ d) {l2 : Int} {l0 : Nat} {l1 : Int} {h : hS} {w : mmW} {Q : mmO → Prop} (rl2 : rg l2) (n : Nat) {l3 : Nat}  {r : (Unit) ⊕ (Int)}  (A : Abs h w) (e : lp (fun s => c60_b42 l2 h s) n (l3) = some r) (ke : r = .inl () → ∀ (y3 : Option hO), hG d 60 64 [some (vr l0), some (vi l1), some (vi l2), y3] [] w Q) (kr : ∀ v1 : Int, r = .inr v1 → rg v1 → Q (some (.int (Int32.ofInt v1)), w)) : hG d 60 42 [some (vr l0), some (vi l1), some (vi l2), some (vr l3)] [] w Q := by
  induction n generalizing l3 with
  | zero => cases e
  | succ n ih =>
    rcases lp_succ e with ⟨s1, e1, e2⟩ | e1
    · exact t60_b42 hd rl2 A e1 (fun s_0 q  => by cases q; exact ih  e2) (fun  q => by cases q) (fun v0 q => by cases q)
    · exact t60_b42 hd rl2 A e1 (fun s_0 q => by cases q) (fun  q => by cases q; exact ke  rfl) (fun v0 q => by cases q; exact kr _ rfl)
def c60_j101 (s0 : Int) : Option (Int) :=
  if s0 = 0 then
  some 0
  else
  some 5
theorem t60_j101 {d : Nat} (hd : 2 ≤ d) {s0 : Int} {z0 : Option hO} {z1 : Option hO} {z2 : Option hO} {z3 : Option hO} {h : hS} {w : mmW} {o : Int} {Q : mmO → Prop} (rs0 : rg s0) (A : Abs h w) (e : c60_j101 s0 = some o) (kr : ∀ v1 : Int, o = v1 → rg v1 → Q (some (.int (Int32.ofInt v1)), w)) : hG d 60 101 [z0, z1, z2, z3] [vI s0] w Q := by
  unfold c60_j101 at e
  refine hg_run 2 (pc' := 103) (ls' := [z0, z1, z2, some (vi s0)]) (st' := [vI s0]) rfl ?_
  rcases oi e with ⟨q11, e⟩ | ⟨q11, e⟩
  · refine hg_ifT (tgt := 110) rfl (by decide) rs0 q11 ?_
    refine hg_run 1 (pc' := 111) (ls' := [z0, z1, z2, some (vi s0)]) (st' := [vI 0]) rfl ?_
    cases e
    exact hg_retI rfl (by decide) (fit_I _) (kr _ rfl (rgn 0 rfl))
  · refine hg_ifF (tgt := 110) rfl (by decide) rs0 q11 ?_
    refine hg_run 2 (pc' := 111) (ls' := [z0, z1, z2, some (vi s0)]) (st' := [vI 5]) rfl ?_
    cases e
    exact hg_retI rfl (by decide) (fit_I _) (kr _ rfl (rgn 5 rfl))
def c60 (l0 : Nat) (l1 : Int) (l2 : Int) (h : hS) : Option (Int) :=
  if l1 = 205 then
  (gR h l0 24 12).bind (fun v14 =>
  (gI h l0 24 11).bind (fun v15 =>
  (c29 v14 v15 l2 h).bind (fun v16 =>
  if v16 = (-1) then
  (gI h l0 24 11).bind (fun v18 =>
  if v18 < 8 then
  some 0
  else
  some 5)
  else
  some 4)))
  else
  (lp (fun s => c60_b42 l2 h s) hF0 (l0)).bind (fun r7 => xs r7 (fun x7 =>
  if l1 = 204 then
  (gI h l0 24 8).bind (fun v12 =>
  if v12 < 4 then
  c60_j101 0
  else
  c60_j101 1)
  else
  (gI h l0 24 4).bind (fun v9 =>
  if v9 < 8 then
  c60_j101 0
  else
  c60_j101 1)) (fun o7 => some o7))
theorem t60 {d : Nat} (hd : 3 ≤ d) {l0 : Nat} {l1 : Int} {l2 : Int} {h : hS} {w : mmW} {o : Int} (A : Abs h w) (rl1 : rg l1) (rl2 : rg l2) (e : c60 l0 l1 l2 h = some o) : hEv d 60 [vR l0, vI l1, vI l2] w (qIp o w) := by
  obtain ⟨d, rfl⟩ : ∃ d1, d = d1 + 1 := ⟨d - 1, by omega⟩
  have hd : 2 ≤ d := by omega
  refine hEv_start (args := [vr l0, vi l1, vi l2]) (nl := 4) rfl (Nat.le_of_ble_eq_true rfl) ?_
  show hG d 60 0 [some (vr l0), some (vi l1), some (vi l2), none] [] w _
  have kr : ∀ v1 : Int, o = v1 → rg v1 → qIp o w (some (.int (Int32.ofInt v1)), w) := fun v1 q r => by cases q; exact ⟨rfl, r⟩
  unfold c60 at e
  refine hg_run 2 (pc' := 4) (ls' := [some (vr l0), some (vi l1), some (vi l2), none]) (st' := [vI 205, vI l1]) rfl ?_
  rcases oi e with ⟨q1, e⟩ | ⟨q1, e⟩
  · refine hg_icF (tgt := 40) rfl (by decide) rl1 (rgn 205 rfl) (show ¬ ¬ (l1 = 205) from fun f => f q1) ?_
    refine hg_run 1 (pc' := 8) (ls' := [some (vr l0), some (vi l1), some (vi l2), none]) (st' := [vR l0]) rfl ?_
    obtain ⟨v14, e14, e⟩ := ob e
    refine gd_11_12 rfl A e14 ?_
    refine hg_run 1 (pc' := 12) (ls' := [some (vr l0), some (vi l1), some (vi l2), none]) (st' := [vR l0, vR v14]) rfl ?_
    obtain ⟨v15, e15, e⟩ := ob e
    refine gd_11_11 rfl A e15 (fun r15 => ?_)
    refine hg_run 1 (pc' := 16) (ls' := [some (vr l0), some (vi l1), some (vi l2), none]) (st' := [vI l2, vI v15, vR v14]) rfl ?_
    obtain ⟨v16, e16, e⟩ := ob e
    refine hg_cIp (as := [vR v14, vI v15, vI l2]) (st' := []) rfl (fun _ _ _ _ => rfl) rfl rfl (Nat.le_of_ble_eq_true rfl) (Nat.le_of_ble_eq_true rfl) recv0 (t29 (by omega) A r15 rl2 e16) (fun r16 => ?_)
    refine hg_run 1 (pc' := 20) (ls' := [some (vr l0), some (vi l1), some (vi l2), none]) (st' := [vI (-1), vI v16]) rfl ?_
    rcases oi e with ⟨q17, e⟩ | ⟨q17, e⟩
    · refine hg_icT (tgt := 25) rfl (by decide) r16 (rgn (-1) rfl) q17 ?_
      refine hg_run 1 (pc' := 26) (ls' := [some (vr l0), some (vi l1), some (vi l2), none]) (st' := [vR l0]) rfl ?_
      obtain ⟨v18, e18, e⟩ := ob e
      refine gd_11_11 rfl A e18 (fun r18 => ?_)
      refine hg_run 1 (pc' := 31) (ls' := [some (vr l0), some (vi l1), some (vi l2), none]) (st' := [vI 8, vI v18]) rfl ?_
      rcases oi e with ⟨q19, e⟩ | ⟨q19, e⟩
      · refine hg_icT (tgt := 38) rfl (by decide) r18 (rgn 8 rfl) q19 ?_
        refine hg_run 1 (pc' := 39) (ls' := [some (vr l0), some (vi l1), some (vi l2), none]) (st' := [vI 0]) rfl ?_
        cases e
        exact hg_retI rfl (by decide) (fit_I _) (kr _ rfl (rgn 0 rfl))
      · refine hg_icF (tgt := 38) rfl (by decide) r18 (rgn 8 rfl) q19 ?_
        refine hg_run 2 (pc' := 39) (ls' := [some (vr l0), some (vi l1), some (vi l2), none]) (st' := [vI 5]) rfl ?_
        cases e
        exact hg_retI rfl (by decide) (fit_I _) (kr _ rfl (rgn 5 rfl))
    · refine hg_icF (tgt := 25) rfl (by decide) r16 (rgn (-1) rfl) q17 ?_
      refine hg_run 1 (pc' := 24) (ls' := [some (vr l0), some (vi l1), some (vi l2), none]) (st' := [vI 4]) rfl ?_
      cases e
      exact hg_retI rfl (by decide) (fit_I _) (kr _ rfl (rgn 4 rfl))
  · refine hg_icT (tgt := 40) rfl (by decide) rl1 (rgn 205 rfl) (show ¬ (l1 = 205) from q1) ?_
    refine hg_run 2 (pc' := 42) (ls' := [some (vr l0), some (vi l1), some (vi l2), some (vr l0)]) (st' := []) rfl ?_
    obtain ⟨r7, e7, e⟩ := ob e
    refine t60_l42 hd rl2 _  A e7 ?_ ?_
    · intro  qq7 z7_3
      subst qq7
      have e := xs_l e
      refine hg_run 2 (pc' := 68) (ls' := [some (vr l0), some (vi l1), some (vi l2), z7_3]) (st' := [vI 204, vI l1]) rfl ?_
      rcases oi e with ⟨q8, e⟩ | ⟨q8, e⟩
      · refine hg_icF (tgt := 87) rfl (by decide) rl1 (rgn 204 rfl) (show ¬ ¬ (l1 = 204) from fun f => f q8) ?_
        refine hg_run 1 (pc' := 72) (ls' := [some (vr l0), some (vi l1), some (vi l2), z7_3]) (st' := [vR l0]) rfl ?_
        obtain ⟨v12, e12, e⟩ := ob e
        refine gd_11_8 rfl A e12 (fun r12 => ?_)
        refine hg_run 1 (pc' := 76) (ls' := [some (vr l0), some (vi l1), some (vi l2), z7_3]) (st' := [vI 4, vI v12]) rfl ?_
        rcases oi e with ⟨q13, e⟩ | ⟨q13, e⟩
        · refine hg_icT (tgt := 83) rfl (by decide) r12 (rgn 4 rfl) q13 ?_
          refine hg_run 2 (pc' := 101) (ls' := [some (vr l0), some (vi l1), some (vi l2), z7_3]) (st' := [vI 0]) rfl ?_
          exact t60_j101 hd (rgn 0 rfl) A e kr
        · refine hg_icF (tgt := 83) rfl (by decide) r12 (rgn 4 rfl) q13 ?_
          refine hg_run 2 (pc' := 101) (ls' := [some (vr l0), some (vi l1), some (vi l2), z7_3]) (st' := [vI 1]) rfl ?_
          exact t60_j101 hd (rgn 1 rfl) A e kr
      · refine hg_icT (tgt := 87) rfl (by decide) rl1 (rgn 204 rfl) (show ¬ (l1 = 204) from q8) ?_
        refine hg_run 1 (pc' := 88) (ls' := [some (vr l0), some (vi l1), some (vi l2), z7_3]) (st' := [vR l0]) rfl ?_
        obtain ⟨v9, e9, e⟩ := ob e
        refine gd_11_4 rfl A e9 (fun r9 => ?_)
        refine hg_run 1 (pc' := 93) (ls' := [some (vr l0), some (vi l1), some (vi l2), z7_3]) (st' := [vI 8, vI v9]) rfl ?_
        rcases oi e with ⟨q10, e⟩ | ⟨q10, e⟩
        · refine hg_icT (tgt := 100) rfl (by decide) r9 (rgn 8 rfl) q10 ?_
          refine hg_run 1 (pc' := 101) (ls' := [some (vr l0), some (vi l1), some (vi l2), z7_3]) (st' := [vI 0]) rfl ?_
          exact t60_j101 hd (rgn 0 rfl) A e kr
        · refine hg_icF (tgt := 100) rfl (by decide) r9 (rgn 8 rfl) q10 ?_
          refine hg_run 2 (pc' := 101) (ls' := [some (vr l0), some (vi l1), some (vi l2), z7_3]) (st' := [vI 1]) rfl ?_
          exact t60_j101 hd (rgn 1 rfl) A e kr
    · intro v7 qq7 r7
      subst qq7
      have e := xs_r e
      cases e
      exact kr _ rfl r7
def c62_j105 (s1 : Int) (h : hS) : Option (Int × hS) :=
  (some (sI h 15 10 s1)).bind (fun h11 =>
  (some (sI h11 15 3 (wadd (hI h11 15 3) 1))).bind (fun h12 =>
  (c58 59 h12).bind (fun v13 =>
  (kB v13.1).bind (fun u14 =>
  some (v13.1, v13.2)))))
theorem t62_j105 {d : Nat} (hd : 2 ≤ d) {s1 : Int} {z1 : Option hO} {z2 : Option hO} {h : hS} {w : mmW} {o : Int × hS} {Q : mmO → Prop} (rs1 : rg s1) (A : Abs h w) (e : c62_j105 s1 h = some o) (kr : ∀ (v1 : Int) (h1 : hS), o = (v1, h1) → ∀ w', rg v1 → Abs h1 w' → Q (some (.int (Int32.ofInt v1)), w')) : hG d 62 105 [some (vr 15), z1, z2] [vI s1, vR 15] w Q := by
  unfold c62_j105 at e
  obtain ⟨h11, e11, e⟩ := ob e
  refine ps_15_10 rfl A rs1 e11 (fun w11 A11 => ?_)
  refine hg_run 2 (pc' := 110) (ls' := [some (vr 15), z1, z2]) (st' := [vR 15, vR 15]) rfl ?_
  refine gs_15_3 rfl A11 ?_
  refine hg_run 2 (pc' := 115) (ls' := [some (vr 15), z1, z2]) (st' := [vI (wadd (hI h11 15 3) 1), vR 15]) rfl ?_
  obtain ⟨h12, e12, e⟩ := ob e
  refine ps_15_3 rfl A11 (rg_add _ _) e12 (fun w12 A12 => ?_)
  refine hg_run 2 (pc' := 121) (ls' := [some (vr 15), z1, z2]) (st' := [vI 59, vR 15]) rfl ?_
  obtain ⟨v13, e13, e⟩ := ob e
  refine hg_cI (as := [vR 15, vI 59]) (st' := []) rfl (fun _ _ _ _ => rfl) rfl rfl (Nat.le_of_ble_eq_true rfl) (Nat.le_of_ble_eq_true rfl) (recvV A12 (a := 2) (Abs_ks A12 (i := 7) rfl).1) (t58 (by omega) A12 (rgn 59 rfl) e13) (fun w13 r13 A13 => ?_)
  obtain ⟨u14, e14, e⟩ := ob e
  cases e
  exact hg_retI rfl (by decide) (fit_B (kB_e e14)) (kr _ _ rfl _ r13 A13)
def c62_j54 (l2 : Int) (h : hS) : Option (Int × hS) :=
  (c39  h).bind (fun v7 =>
  if v7 = 2 then
  if l2 = 0 then
  (aIs h 13 1001 (hI h 15 3)).bind (fun v10 =>
  c62_j105 v10 h)
  else
  (aIs h 13 1001 (hI h 15 3)).bind (fun v15 =>
  c62_j105 (wneg v15) h)
  else
  (c46 1 (hI h 15 3) h).bind (fun v16 =>
  (kB v16.1).bind (fun u17 =>
  some (v16.1, v16.2))))
theorem t62_j54 {d : Nat} (hd : 2 ≤ d) {l2 : Int} {z1 : Option hO} {h : hS} {w : mmW} {o : Int × hS} {Q : mmO → Prop} (rl2 : rg l2) (A : Abs h w) (e : c62_j54 l2 h = some o) (kr : ∀ (v1 : Int) (h1 : hS), o = (v1, h1) → ∀ w', rg v1 → Abs h1 w' → Q (some (.int (Int32.ofInt v1)), w')) : hG d 62 54 [some (vr 15), z1, some (vi l2)] [] w Q := by
  unfold c62_j54 at e
  refine hg_run 1 (pc' := 55) (ls' := [some (vr 15), z1, some (vi l2)]) (st' := [vR 15]) rfl ?_
  obtain ⟨v7, e7, e⟩ := ob e
  refine hg_cIp (as := [vR 15]) (st' := []) rfl (fun _ _ _ _ => rfl) rfl rfl (Nat.le_of_ble_eq_true rfl) (Nat.le_of_ble_eq_true rfl) (recvV A (a := 2) (Abs_ks A (i := 7) rfl).1) (t39 (by omega) A  e7) (fun r7 => ?_)
  refine hg_run 1 (pc' := 59) (ls' := [some (vr 15), z1, some (vi l2)]) (st' := [vI 2, vI v7]) rfl ?_
  rcases oi e with ⟨q8, e⟩ | ⟨q8, e⟩
  · refine hg_icT (tgt := 72) rfl (by decide) r7 (rgn 2 rfl) q8 ?_
    refine hg_run 2 (pc' := 74) (ls' := [some (vr 15), z1, some (vi l2)]) (st' := [vI l2, vR 15]) rfl ?_
    rcases oi e with ⟨q9, e⟩ | ⟨q9, e⟩
    · refine hg_ifT (tgt := 93) rfl (by decide) rl2 q9 ?_
      refine hg_run 1 (pc' := 94) (ls' := [some (vr 15), z1, some (vi l2)]) (st' := [vR 15, vR 15]) rfl ?_
      refine gs_15_0 rfl A ?_
      refine gs_9_4 rfl A ?_
      refine hg_run 1 (pc' := 101) (ls' := [some (vr 15), z1, some (vi l2)]) (st' := [vR 15, vR 13, vR 15]) rfl ?_
      refine gs_15_3 rfl A ?_
      obtain ⟨v10, e10, e⟩ := ob e
      refine hg_aIs 0 rfl (fun _ _ _ _ => rfl) A (Abs_ks A (i := 5) rfl) rfl (by decide) e10 (fun r10 => ?_)
      exact t62_j105 hd r10 A e kr
    · refine hg_ifF (tgt := 93) rfl (by decide) rl2 q9 ?_
      refine hg_run 1 (pc' := 78) (ls' := [some (vr 15), z1, some (vi l2)]) (st' := [vR 15, vR 15]) rfl ?_
      refine gs_15_0 rfl A ?_
      refine gs_9_4 rfl A ?_
      refine hg_run 1 (pc' := 85) (ls' := [some (vr 15), z1, some (vi l2)]) (st' := [vR 15, vR 13, vR 15]) rfl ?_
      refine gs_15_3 rfl A ?_
      obtain ⟨v15, e15, e⟩ := ob e
      refine hg_aIs 0 rfl (fun _ _ _ _ => rfl) A (Abs_ks A (i := 5) rfl) rfl (by decide) e15 (fun r15 => ?_)
      refine hg_run 2 (pc' := 105) (ls' := [some (vr 15), z1, some (vi l2)]) (st' := [vI (wneg v15), vR 15]) rfl ?_
      exact t62_j105 hd (rg_neg _) A e kr
  · refine hg_icF (tgt := 72) rfl (by decide) r7 (rgn 2 rfl) q8 ?_
    refine hg_run 3 (pc' := 65) (ls' := [some (vr 15), z1, some (vi l2)]) (st' := [vR 15, vI 1, vR 15]) rfl ?_
    refine gs_15_3 rfl A ?_
    obtain ⟨v16, e16, e⟩ := ob e
    refine hg_cI (as := [vR 15, vI 1, vI (hI h 15 3)]) (st' := []) rfl (fun _ _ _ _ => rfl) rfl rfl (Nat.le_of_ble_eq_true rfl) (Nat.le_of_ble_eq_true rfl) (recvV A (a := 2) (Abs_ks A (i := 7) rfl).1) (t46 (by omega) A (rgn 1 rfl) (Abs_rg A 15 3) e16) (fun w16 r16 A16 => ?_)
    obtain ⟨u17, e17, e⟩ := ob e
    cases e
    exact hg_retI rfl (by decide) (fit_B (kB_e e17)) (kr _ _ rfl _ r16 A16)
def c62_j39 (s0 : Int) (h : hS) : Option (Int × hS) :=
  if s0 = 0 then
  c62_j54 s0 h
  else
  (some (sI h 15 3 (wadd (hI h 15 3) 1))).bind (fun h18 =>
  c62_j54 s0 h18)
theorem t62_j39 {d : Nat} (hd : 2 ≤ d) {s0 : Int} {z1 : Option hO} {z2 : Option hO} {h : hS} {w : mmW} {o : Int × hS} {Q : mmO → Prop} (rs0 : rg s0) (A : Abs h w) (e : c62_j39 s0 h = some o) (kr : ∀ (v1 : Int) (h1 : hS), o = (v1, h1) → ∀ w', rg v1 → Abs h1 w' → Q (some (.int (Int32.ofInt v1)), w')) : hG d 62 39 [some (vr 15), z1, z2] [vI s0] w Q := by
  unfold c62_j39 at e
  refine hg_run 2 (pc' := 41) (ls' := [some (vr 15), z1, some (vi s0)]) (st' := [vI s0]) rfl ?_
  rcases oi e with ⟨q6, e⟩ | ⟨q6, e⟩
  · refine hg_ifT (tgt := 54) rfl (by decide) rs0 q6 ?_
    exact t62_j54 hd rs0 A e kr
  · refine hg_ifF (tgt := 54) rfl (by decide) rs0 q6 ?_
    refine hg_run 2 (pc' := 46) (ls' := [some (vr 15), z1, some (vi s0)]) (st' := [vR 15, vR 15]) rfl ?_
    refine gs_15_3 rfl A ?_
    refine hg_run 2 (pc' := 51) (ls' := [some (vr 15), z1, some (vi s0)]) (st' := [vI (wadd (hI h 15 3) 1), vR 15]) rfl ?_
    obtain ⟨h18, e18, e⟩ := ob e
    refine ps_15_3 rfl A (rg_add _ _) e18 (fun w18 A18 => ?_)
    exact t62_j54 hd rs0 A18 e kr
def c62 (l1 : Int) (h : hS) : Option (Int × hS) :=
  if l1 = 203 then
  (c58 59 h).bind (fun v19 =>
  (kB v19.1).bind (fun u20 =>
  some (v19.1, v19.2)))
  else
  (c58 61 h).bind (fun v2 =>
  if v2.1 = 0 then
  some (0, v2.2)
  else
  (c39  v2.2).bind (fun v4 =>
  if v4 = 45 then
  c62_j39 1 v2.2
  else
  c62_j39 0 v2.2))
theorem t62 {d : Nat} (hd : 3 ≤ d) {l1 : Int} {h : hS} {w : mmW} {o : Int × hS} (A : Abs h w) (rl1 : rg l1) (e : c62 l1 h = some o) : hEv d 62 [vR 15, vI l1] w (qI o) := by
  obtain ⟨d, rfl⟩ : ∃ d1, d = d1 + 1 := ⟨d - 1, by omega⟩
  have hd : 2 ≤ d := by omega
  refine hEv_start (args := [vr 15, vi l1]) (nl := 3) rfl (Nat.le_of_ble_eq_true rfl) ?_
  show hG d 62 0 [some (vr 15), some (vi l1), none] [] w _
  have kr : ∀ (v1 : Int) (h1 : hS), o = (v1, h1) → ∀ w', rg v1 → Abs h1 w' → qI o (some (.int (Int32.ofInt v1)), w') := fun v1 h1 q w' r A' => by cases q; exact ⟨rfl, r, A'⟩
  unfold c62 at e
  refine hg_run 2 (pc' := 4) (ls' := [some (vr 15), some (vi l1), none]) (st' := [vI 203, vI l1]) rfl ?_
  rcases oi e with ⟨q1, e⟩ | ⟨q1, e⟩
  · refine hg_icF (tgt := 14) rfl (by decide) rl1 (rgn 203 rfl) (show ¬ ¬ (l1 = 203) from fun f => f q1) ?_
    refine hg_run 2 (pc' := 10) (ls' := [some (vr 15), some (vi l1), none]) (st' := [vI 59, vR 15]) rfl ?_
    obtain ⟨v19, e19, e⟩ := ob e
    refine hg_cI (as := [vR 15, vI 59]) (st' := []) rfl (fun _ _ _ _ => rfl) rfl rfl (Nat.le_of_ble_eq_true rfl) (Nat.le_of_ble_eq_true rfl) (recvV A (a := 2) (Abs_ks A (i := 7) rfl).1) (t58 (by omega) A (rgn 59 rfl) e19) (fun w19 r19 A19 => ?_)
    obtain ⟨u20, e20, e⟩ := ob e
    cases e
    exact hg_retI rfl (by decide) (fit_B (kB_e e20)) (kr _ _ rfl _ r19 A19)
  · refine hg_icT (tgt := 14) rfl (by decide) rl1 (rgn 203 rfl) (show ¬ (l1 = 203) from q1) ?_
    refine hg_run 2 (pc' := 17) (ls' := [some (vr 15), some (vi l1), none]) (st' := [vI 61, vR 15]) rfl ?_
    obtain ⟨v2, e2, e⟩ := ob e
    refine hg_cI (as := [vR 15, vI 61]) (st' := []) rfl (fun _ _ _ _ => rfl) rfl rfl (Nat.le_of_ble_eq_true rfl) (Nat.le_of_ble_eq_true rfl) (recvV A (a := 2) (Abs_ks A (i := 7) rfl).1) (t58 (by omega) A (rgn 61 rfl) e2) (fun w2 r2 A2 => ?_)
    rcases oi e with ⟨q3, e⟩ | ⟨q3, e⟩
    · refine hg_ifF (tgt := 25) rfl (by decide) r2 (show ¬ ¬ (v2.1 = 0) from fun f => f q3) ?_
      refine hg_run 1 (pc' := 24) (ls' := [some (vr 15), some (vi l1), none]) (st' := [vI 0]) rfl ?_
      cases e
      exact hg_retI rfl (by decide) (fit_B (.inl rfl)) (kr _ _ rfl _ (rgn 0 rfl) A2)
    · refine hg_ifT (tgt := 25) rfl (by decide) r2 (show ¬ (v2.1 = 0) from q3) ?_
      refine hg_run 1 (pc' := 26) (ls' := [some (vr 15), some (vi l1), none]) (st' := [vR 15]) rfl ?_
      obtain ⟨v4, e4, e⟩ := ob e
      refine hg_cIp (as := [vR 15]) (st' := []) rfl (fun _ _ _ _ => rfl) rfl rfl (Nat.le_of_ble_eq_true rfl) (Nat.le_of_ble_eq_true rfl) (recvV A2 (a := 2) (Abs_ks A2 (i := 7) rfl).1) (t39 (by omega) A2  e4) (fun r4 => ?_)
      refine hg_run 1 (pc' := 31) (ls' := [some (vr 15), some (vi l1), none]) (st' := [vI 45, vI v4]) rfl ?_
      rcases oi e with ⟨q5, e⟩ | ⟨q5, e⟩
      · refine hg_icF (tgt := 38) rfl (by decide) r4 (rgn 45 rfl) (show ¬ ¬ (v4 = 45) from fun f => f q5) ?_
        refine hg_run 2 (pc' := 39) (ls' := [some (vr 15), some (vi l1), none]) (st' := [vI 1]) rfl ?_
        exact t62_j39 hd (rgn 1 rfl) A2 e kr
      · refine hg_icT (tgt := 38) rfl (by decide) r4 (rgn 45 rfl) (show ¬ (v4 = 45) from q5) ?_
        refine hg_run 1 (pc' := 39) (ls' := [some (vr 15), some (vi l1), none]) (st' := [vI 0]) rfl ?_
        exact t62_j39 hd (rgn 0 rfl) A2 e kr
