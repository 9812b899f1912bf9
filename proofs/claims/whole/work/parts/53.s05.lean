/-! read as functions: laid by wip/whole/shallow.py -/
def c174 (l1 : Int) (h : hS) : Option (Int × hS) :=
  if l1 < 0 then
  some (0, h)
  else
  if (hI h 48 4) ≤ l1 then
  some (0, h)
  else
  (hnul (hR h 48 5)).bind (fun b3 =>
  if b3 = true then
  (aRs h 50 6 l1).bind (fun v4 =>
  (some (sR h 48 5 v4)).bind (fun h5 =>
  (pI h5 (hR h5 48 5) 26 1 1).bind (fun h6 =>
  (some (sI h6 48 6 0)).bind (fun h7 =>
  some (1, h7)))))
  else
  some (0, h))
theorem t174 {d : Nat} (hd : 1 ≤ d) {l1 : Int} {h : hS} {w : mmW} {o : Int × hS} (A : Abs h w) (rl1 : rg l1) (e : c174 l1 h = some o) : hEv d 174 [vR 48, vI l1] w (qI o) := by
  obtain ⟨d, rfl⟩ : ∃ d1, d = d1 + 1 := ⟨d - 1, by omega⟩
  have hd : 0 ≤ d := by omega
  refine hEv_start (args := [vr 48, vi l1]) (nl := 2) rfl (Nat.le_of_ble_eq_true rfl) ?_
  show hG d 174 0 [some (vr 48), some (vi l1)] [] w _
  have kr : ∀ (v1 : Int) (h1 : hS), o = (v1, h1) → ∀ w', rg v1 → Abs h1 w' → qI o (some (.int (Int32.ofInt v1)), w') := fun v1 h1 q w' r A' => by cases q; exact ⟨rfl, r, A'⟩
  unfold c174 at e
  refine hg_run 1 (pc' := 1) (ls' := [some (vr 48), some (vi l1)]) (st' := [vI l1]) rfl ?_
  rcases oi e with ⟨q1, e⟩ | ⟨q1, e⟩
  · refine hg_ifT (tgt := 19) rfl (by decide) rl1 q1 ?_
    refine hg_run 1 (pc' := 20) (ls' := [some (vr 48), some (vi l1)]) (st' := [vI 0]) rfl ?_
    cases e
    exact hg_retI rfl (by decide) (fit_B (.inl rfl)) (kr _ _ rfl _ (rgn 0 rfl) A)
  · refine hg_ifF (tgt := 19) rfl (by decide) rl1 q1 ?_
    refine hg_run 2 (pc' := 6) (ls' := [some (vr 48), some (vi l1)]) (st' := [vR 48, vI l1]) rfl ?_
    refine gs_48_4 rfl A ?_
    rcases oi e with ⟨q2, e⟩ | ⟨q2, e⟩
    · refine hg_icT (tgt := 19) rfl (by decide) rl1 (Abs_rg A 48 4) q2 ?_
      refine hg_run 1 (pc' := 20) (ls' := [some (vr 48), some (vi l1)]) (st' := [vI 0]) rfl ?_
      cases e
      exact hg_retI rfl (by decide) (fit_B (.inl rfl)) (kr _ _ rfl _ (rgn 0 rfl) A)
    · refine hg_icF (tgt := 19) rfl (by decide) rl1 (Abs_rg A 48 4) q2 ?_
      refine hg_run 1 (pc' := 13) (ls' := [some (vr 48), some (vi l1)]) (st' := [vR 48]) rfl ?_
      refine gs_48_5 rfl A ?_
      obtain ⟨b3, e3, e⟩ := ob e
      rcases oi e with ⟨q3, e⟩ | ⟨q3, e⟩
      · refine hg_nul (yes := true) (tgt := 21) (t2 := 21) rfl (fun _ _ _ _ => rfl) (by decide) (ebT e3 q3) rfl ?_
        refine hg_run 2 (pc' := 23) (ls' := [some (vr 48), some (vi l1)]) (st' := [vR 48, vR 48]) rfl ?_
        refine gs_48_3 rfl A ?_
        refine hg_run 1 (pc' := 27) (ls' := [some (vr 48), some (vi l1)]) (st' := [vI l1, vR 50, vR 48]) rfl ?_
        obtain ⟨v4, e4, e⟩ := ob e
        refine hg_aRs 7 rfl (fun _ _ _ _ => rfl) A (Abs_ks A (i := 20) rfl) rfl (by decide) e4 ?_
        obtain ⟨h5, e5, e⟩ := ob e
        refine ps_48_5 rfl A e5 (fun w5 A5 => ?_)
        refine hg_run 1 (pc' := 32) (ls' := [some (vr 48), some (vi l1)]) (st' := [vR 48]) rfl ?_
        refine gs_48_5 rfl A5 ?_
        refine hg_run 1 (pc' := 36) (ls' := [some (vr 48), some (vi l1)]) (st' := [vI 1, vR (hR h5 48 5)]) rfl ?_
        obtain ⟨h6, e6, e⟩ := ob e
        refine pd_12_1 rfl A5 (rgn 1 rfl) e6 (fun w6 A6 => ?_)
        refine hg_run 2 (pc' := 41) (ls' := [some (vr 48), some (vi l1)]) (st' := [vI 0, vR 48]) rfl ?_
        obtain ⟨h7, e7, e⟩ := ob e
        refine ps_48_6 rfl A6 (rgn 0 rfl) e7 (fun w7 A7 => ?_)
        refine hg_run 1 (pc' := 45) (ls' := [some (vr 48), some (vi l1)]) (st' := [vI 1]) rfl ?_
        cases e
        exact hg_retI rfl (by decide) (fit_B (.inr rfl)) (kr _ _ rfl _ (rgn 1 rfl) A7)
      · refine hg_nul (yes := true) (tgt := 21) (t2 := 19) rfl (fun _ _ _ _ => rfl) (by decide) (ebF e3 q3) rfl ?_
        refine hg_run 1 (pc' := 20) (ls' := [some (vr 48), some (vi l1)]) (st' := [vI 0]) rfl ?_
        cases e
        exact hg_retI rfl (by decide) (fit_B (.inl rfl)) (kr _ _ rfl _ (rgn 0 rfl) A)
def c173 (l1 : Int) (h : hS) : Option (Int × hS) :=
  (c174 l1 h).bind (fun v1 =>
  (kB v1.1).bind (fun u2 =>
  some (v1.1, v1.2)))
theorem t173 {d : Nat} (hd : 2 ≤ d) {l1 : Int} {h : hS} {w : mmW} {o : Int × hS} (A : Abs h w) (rl1 : rg l1) (e : c173 l1 h = some o) : hEv d 173 [vR 8, vI l1] w (qI o) := by
  obtain ⟨d, rfl⟩ : ∃ d1, d = d1 + 1 := ⟨d - 1, by omega⟩
  have hd : 1 ≤ d := by omega
  refine hEv_start (args := [vr 8, vi l1]) (nl := 2) rfl (Nat.le_of_ble_eq_true rfl) ?_
  show hG d 173 0 [some (vr 8), some (vi l1)] [] w _
  have kr : ∀ (v1 : Int) (h1 : hS), o = (v1, h1) → ∀ w', rg v1 → Abs h1 w' → qI o (some (.int (Int32.ofInt v1)), w') := fun v1 h1 q w' r A' => by cases q; exact ⟨rfl, r, A'⟩
  unfold c173 at e
  refine hg_run 1 (pc' := 1) (ls' := [some (vr 8), some (vi l1)]) (st' := [vR 8]) rfl ?_
  refine gs_8_6 rfl A ?_
  refine hg_run 1 (pc' := 5) (ls' := [some (vr 8), some (vi l1)]) (st' := [vI l1, vR 48]) rfl ?_
  obtain ⟨v1, e1, e⟩ := ob e
  refine hg_cI (as := [vR 48, vI l1]) (st' := []) rfl (fun _ _ _ _ => rfl) rfl rfl (Nat.le_of_ble_eq_true rfl) (Nat.le_of_ble_eq_true rfl) (recvV A (a := 6) (Abs_ks A (i := 18) rfl).1) (t174 (by omega) A rl1 e1) (fun w1 r1 A1 => ?_)
  obtain ⟨u2, e2, e⟩ := ob e
  cases e
  exact hg_retI rfl (by decide) (fit_B (kB_e e2)) (kr _ _ rfl _ r1 A1)
def c175_j15  : Option (Int) :=
  some (-1)
theorem t175_j15 {d : Nat} (hd : 0 ≤ d)  {z1 : Option hO} {h : hS} {w : mmW} {o : Int} {Q : mmO → Prop}  (A : Abs h w) (e : c175_j15  = some o) (kr : ∀ v1 : Int, o = v1 → rg v1 → Q (some (.int (Int32.ofInt v1)), w)) : hG d 175 15 [some (vr 8), z1] [] w Q := by
  unfold c175_j15 at e
  refine hg_run 2 (pc' := 31) (ls' := [some (vr 8), z1]) (st' := [vI (-1)]) rfl ?_
  cases e
  exact hg_retI rfl (by decide) (fit_I _) (kr _ rfl (rgn (-1) rfl))
def c175 (l1 : Int) (h : hS) : Option (Int) :=
  if l1 < 0 then
  c175_j15 
  else
  if l1 < (hI h 48 4) then
  (aRs h 50 6 l1).bind (fun v3 =>
  (gI h v3 26 1).bind (fun v4 =>
  some v4))
  else
  c175_j15 
theorem t175 {d : Nat} (hd : 1 ≤ d) {l1 : Int} {h : hS} {w : mmW} {o : Int} (A : Abs h w) (rl1 : rg l1) (e : c175 l1 h = some o) : hEv d 175 [vR 8, vI l1] w (qIp o w) := by
  obtain ⟨d, rfl⟩ : ∃ d1, d = d1 + 1 := ⟨d - 1, by omega⟩
  have hd : 0 ≤ d := by omega
  refine hEv_start (args := [vr 8, vi l1]) (nl := 2) rfl (Nat.le_of_ble_eq_true rfl) ?_
  show hG d 175 0 [some (vr 8), some (vi l1)] [] w _
  have kr : ∀ v1 : Int, o = v1 → rg v1 → qIp o w (some (.int (Int32.ofInt v1)), w) := fun v1 q r => by cases q; exact ⟨rfl, r⟩
  unfold c175 at e
  refine hg_run 1 (pc' := 1) (ls' := [some (vr 8), some (vi l1)]) (st' := [vI l1]) rfl ?_
  rcases oi e with ⟨q1, e⟩ | ⟨q1, e⟩
  · refine hg_ifT (tgt := 15) rfl (by decide) rl1 q1 ?_
    exact t175_j15 hd  A e kr
  · refine hg_ifF (tgt := 15) rfl (by decide) rl1 q1 ?_
    refine hg_run 2 (pc' := 6) (ls' := [some (vr 8), some (vi l1)]) (st' := [vR 8, vI l1]) rfl ?_
    refine gs_8_6 rfl A ?_
    refine gs_48_4 rfl A ?_
    rcases oi e with ⟨q2, e⟩ | ⟨q2, e⟩
    · refine hg_icT (tgt := 19) rfl (by decide) rl1 (Abs_rg A 48 4) q2 ?_
      refine hg_run 1 (pc' := 20) (ls' := [some (vr 8), some (vi l1)]) (st' := [vR 8]) rfl ?_
      refine gs_8_6 rfl A ?_
      refine gs_48_3 rfl A ?_
      refine hg_run 1 (pc' := 27) (ls' := [some (vr 8), some (vi l1)]) (st' := [vI l1, vR 50]) rfl ?_
      obtain ⟨v3, e3, e⟩ := ob e
      refine hg_aRs 7 rfl (fun _ _ _ _ => rfl) A (Abs_ks A (i := 20) rfl) rfl (by decide) e3 ?_
      obtain ⟨v4, e4, e⟩ := ob e
      refine gd_12_1 rfl A e4 (fun r4 => ?_)
      cases e
      exact hg_retI rfl (by decide) (fit_I _) (kr _ rfl r4)
    · refine hg_icF (tgt := 19) rfl (by decide) rl1 (Abs_rg A 48 4) q2 ?_
      exact t175_j15 hd  A e kr
def c176 (l1 : Int) (h : hS) : Option (Int) :=
  if l1 < 0 ∨ 2 < l1 then
  some (-1)
  else
  if l1 = 0 then
  some (hI h 48 10)
  else
  if l1 = 1 then
  some (hI h 48 11)
  else
  if l1 = 2 then
  some (hI h 48 12)
  else
  none
theorem t176 {d : Nat} (hd : 1 ≤ d) {l1 : Int} {h : hS} {w : mmW} {o : Int} (A : Abs h w) (rl1 : rg l1) (e : c176 l1 h = some o) : hEv d 176 [vR 8, vI l1] w (qIp o w) := by
  obtain ⟨d, rfl⟩ : ∃ d1, d = d1 + 1 := ⟨d - 1, by omega⟩
  have hd : 0 ≤ d := by omega
  refine hEv_start (args := [vr 8, vi l1]) (nl := 2) rfl (Nat.le_of_ble_eq_true rfl) ?_
  show hG d 176 0 [some (vr 8), some (vi l1)] [] w _
  have kr : ∀ v1 : Int, o = v1 → rg v1 → qIp o w (some (.int (Int32.ofInt v1)), w) := fun v1 q r => by cases q; exact ⟨rfl, r⟩
  unfold c176 at e
  refine hg_run 1 (pc' := 1) (ls' := [some (vr 8), some (vi l1)]) (st' := [vI l1]) rfl ?_
  rcases oi e with ⟨q1, e⟩ | ⟨q1, e⟩
  · refine hg_tsD (tgt := 52) rfl rl1 q1 (by decide) ?_
    refine hg_run 1 (pc' := 53) (ls' := [some (vr 8), some (vi l1)]) (st' := [vI (-1)]) rfl ?_
    cases e
    exact hg_retI rfl (by decide) (fit_I _) (kr _ rfl (rgn (-1) rfl))
  · rcases oi e with ⟨q2, e⟩ | ⟨q2, e⟩
    · refine hg_tsC (tgt := 28) rfl rl1 q2 (by decide) rfl (by decide) ?_
      refine hg_run 1 (pc' := 29) (ls' := [some (vr 8), some (vi l1)]) (st' := [vR 8]) rfl ?_
      refine gs_8_6 rfl A ?_
      refine gs_48_10 rfl A ?_
      cases e
      exact hg_retI rfl (by decide) (fit_I _) (kr _ rfl (Abs_rg A 48 10))
    · rcases oi e with ⟨q3, e⟩ | ⟨q3, e⟩
      · refine hg_tsC (tgt := 36) rfl rl1 q3 (by decide) rfl (by decide) ?_
        refine hg_run 1 (pc' := 37) (ls' := [some (vr 8), some (vi l1)]) (st' := [vR 8]) rfl ?_
        refine gs_8_6 rfl A ?_
        refine gs_48_11 rfl A ?_
        cases e
        exact hg_retI rfl (by decide) (fit_I _) (kr _ rfl (Abs_rg A 48 11))
      · rcases oi e with ⟨q4, e⟩ | ⟨q4, e⟩
        · refine hg_tsC (tgt := 44) rfl rl1 q4 (by decide) rfl (by decide) ?_
          refine hg_run 1 (pc' := 45) (ls' := [some (vr 8), some (vi l1)]) (st' := [vR 8]) rfl ?_
          refine gs_8_6 rfl A ?_
          refine gs_48_12 rfl A ?_
          cases e
          exact hg_retI rfl (by decide) (fit_I _) (kr _ rfl (Abs_rg A 48 12))
        · cases e
def c178 (h : hS) : Option (Int) :=
  (hnul (hR h 48 7)).bind (fun b1 =>
  if b1 = true then
  some 0
  else
  (hnul (hR h 48 8)).bind (fun b2 =>
  if b2 = true then
  some 0
  else
  (hnul (hR h 48 5)).bind (fun b3 =>
  if b3 = true then
  some 1
  else
  some 0)))
theorem t178 {d : Nat} (hd : 1 ≤ d)  {h : hS} {w : mmW} {o : Int} (A : Abs h w)  (e : c178 h = some o) : hEv d 178 [vR 48] w (qIp o w) := by
  obtain ⟨d, rfl⟩ : ∃ d1, d = d1 + 1 := ⟨d - 1, by omega⟩
  have hd : 0 ≤ d := by omega
  refine hEv_start (args := [vr 48]) (nl := 1) rfl (Nat.le_of_ble_eq_true rfl) ?_
  show hG d 178 0 [some (vr 48)] [] w _
  have kr : ∀ v1 : Int, o = v1 → rg v1 → qIp o w (some (.int (Int32.ofInt v1)), w) := fun v1 q r => by cases q; exact ⟨rfl, r⟩
  unfold c178 at e
  refine hg_run 1 (pc' := 1) (ls' := [some (vr 48)]) (st' := [vR 48]) rfl ?_
  refine gs_48_7 rfl A ?_
  obtain ⟨b1, e1, e⟩ := ob e
  rcases oi e with ⟨q1, e⟩ | ⟨q1, e⟩
  · refine hg_nul (yes := true) (tgt := 25) (t2 := 25) rfl (fun _ _ _ _ => rfl) (by decide) (ebT e1 q1) rfl ?_
    refine hg_run 1 (pc' := 26) (ls' := [some (vr 48)]) (st' := [vI 0]) rfl ?_
    cases e
    exact hg_retI rfl (by decide) (fit_B (.inl rfl)) (kr _ rfl (rgn 0 rfl))
  · refine hg_nul (yes := true) (tgt := 25) (t2 := 7) rfl (fun _ _ _ _ => rfl) (by decide) (ebF e1 q1) rfl ?_
    refine hg_run 1 (pc' := 8) (ls' := [some (vr 48)]) (st' := [vR 48]) rfl ?_
    refine gs_48_8 rfl A ?_
    obtain ⟨b2, e2, e⟩ := ob e
    rcases oi e with ⟨q2, e⟩ | ⟨q2, e⟩
    · refine hg_nul (yes := true) (tgt := 25) (t2 := 25) rfl (fun _ _ _ _ => rfl) (by decide) (ebT e2 q2) rfl ?_
      refine hg_run 1 (pc' := 26) (ls' := [some (vr 48)]) (st' := [vI 0]) rfl ?_
      cases e
      exact hg_retI rfl (by decide) (fit_B (.inl rfl)) (kr _ rfl (rgn 0 rfl))
    · refine hg_nul (yes := true) (tgt := 25) (t2 := 14) rfl (fun _ _ _ _ => rfl) (by decide) (ebF e2 q2) rfl ?_
      refine hg_run 1 (pc' := 15) (ls' := [some (vr 48)]) (st' := [vR 48]) rfl ?_
      refine gs_48_5 rfl A ?_
      obtain ⟨b3, e3, e⟩ := ob e
      rcases oi e with ⟨q3, e⟩ | ⟨q3, e⟩
      · refine hg_nul (yes := false) (tgt := 25) (t2 := 21) rfl (fun _ _ _ _ => rfl) (by decide) (ebT e3 q3) rfl ?_
        refine hg_run 2 (pc' := 26) (ls' := [some (vr 48)]) (st' := [vI 1]) rfl ?_
        cases e
        exact hg_retI rfl (by decide) (fit_B (.inr rfl)) (kr _ rfl (rgn 1 rfl))
      · refine hg_nul (yes := false) (tgt := 25) (t2 := 25) rfl (fun _ _ _ _ => rfl) (by decide) (ebF e3 q3) rfl ?_
        refine hg_run 1 (pc' := 26) (ls' := [some (vr 48)]) (st' := [vI 0]) rfl ?_
        cases e
        exact hg_retI rfl (by decide) (fit_B (.inl rfl)) (kr _ rfl (rgn 0 rfl))
def c180_j75 (l6 : Int) (h : hS) : Option ((Int × hS) ⊕ (hS)) :=
  some (.inl ((wadd l6 1), h))
theorem t180_j75 {d : Nat} (hd : 3 ≤ d) {l6 : Int} {l1 : Nat} {l2 : Nat} {l3 : Nat} {l4 : Nat} {l5 : Nat} {z7 : Option hO} {h : hS} {w : mmW} {o : (Int × hS) ⊕ (hS)} {Q : mmO → Prop} (rl6 : rg l6) (A : Abs h w) (e : c180_j75 l6 h = some o) (kb : ∀ (s_0 : Int) (s_1 : hS), o = .inl (s_0, s_1) → ∀ w', ∀ (y7 : Option hO), rg s_0 → Abs s_1 w' → hG d 180 32 [some (vr 48), some (vr l1), some (vr l2), some (vr l3), some (vr l4), some (vr l5), some (vi s_0), y7] [] w' Q) (ke : ∀ (x_0 : hS), o = .inr (x_0) → ∀ w', ∀ (y6 y7 : Option hO), Abs x_0 w' → hG d 180 81 [some (vr 48), some (vr l1), some (vr l2), some (vr l3), some (vr l4), some (vr l5), y6, y7] [] w' Q) : hG d 180 75 [some (vr 48), some (vr l1), some (vr l2), some (vr l3), some (vr l4), some (vr l5), some (vi l6), z7] [] w Q := by
  unfold c180_j75 at e
  refine hg_run 2 (pc' := 32) (ls' := [some (vr 48), some (vr l1), some (vr l2), some (vr l3), some (vr l4), some (vr l5), some (vi (wadd l6 1)), z7]) (st' := []) rfl ?_
  cases e
  exact kb (wadd l6 1) h rfl _ _ (rg_add _ _) A
def c180_b32 (l3 : Nat) (l4 : Nat) (l5 : Nat) (l6 : Int) (h : hS) : Option ((Int × hS) ⊕ (hS)) :=
  (gI h l5 24 4).bind (fun v7 =>
  if v7 ≤ l6 then
  some (.inr (h))
  else
  (kT h l4 18).bind (fun u10 =>
  (c158 l4 l5 l6 l3 h).bind (fun v9 =>
  if v9 = (-1) then
  c180_j75 l6 h
  else
  (gR h l5 24 5).bind (fun v12 =>
  (aI h v12 1 l6).bind (fun v13 =>
  (wIs h 52 40 v9 v13).bind (fun h14 =>
  c180_j75 l6 h14))))))
theorem t180_b32 {d : Nat} (hd : 3 ≤ d) {l3 : Nat} {l4 : Nat} {l5 : Nat} {l6 : Int} {l1 : Nat} {l2 : Nat} {z7 : Option hO} {h : hS} {w : mmW} {o : (Int × hS) ⊕ (hS)} {Q : mmO → Prop} (rl6 : rg l6) (A : Abs h w) (e : c180_b32 l3 l4 l5 l6 h = some o) (kb : ∀ (s_0 : Int) (s_1 : hS), o = .inl (s_0, s_1) → ∀ w', ∀ (y7 : Option hO), rg s_0 → Abs s_1 w' → hG d 180 32 [some (vr 48), some (vr l1), some (vr l2), some (vr l3), some (vr l4), some (vr l5), some (vi s_0), y7] [] w' Q) (ke : ∀ (x_0 : hS), o = .inr (x_0) → ∀ w', ∀ (y6 y7 : Option hO), Abs x_0 w' → hG d 180 81 [some (vr 48), some (vr l1), some (vr l2), some (vr l3), some (vr l4), some (vr l5), y6, y7] [] w' Q) : hG d 180 32 [some (vr 48), some (vr l1), some (vr l2), some (vr l3), some (vr l4), some (vr l5), some (vi l6), z7] [] w Q := by
  unfold c180_b32 at e
  refine hg_run 2 (pc' := 36) (ls' := [some (vr 48), some (vr l1), some (vr l2), some (vr l3), some (vr l4), some (vr l5), some (vi l6), z7]) (st' := [vR l5, vI l6]) rfl ?_
  obtain ⟨v7, e7, e⟩ := ob e
  refine gd_11_4 rfl A e7 (fun r7 => ?_)
  rcases oi e with ⟨q8, e⟩ | ⟨q8, e⟩
  · refine hg_icT (tgt := 81) rfl (by decide) rl6 r7 q8 ?_
    cases e
    exact ke h rfl _ _ _  A
  · refine hg_icF (tgt := 81) rfl (by decide) rl6 r7 q8 ?_
    refine hg_run 4 (pc' := 49) (ls' := [some (vr 48), some (vr l1), some (vr l2), some (vr l3), some (vr l4), some (vr l5), some (vi l6), z7]) (st' := [vR l3, vI l6, vR l5, vR l4]) rfl ?_
    obtain ⟨u10, e10, e⟩ := ob e
    obtain ⟨v9, e9, e⟩ := ob e
    refine hg_cIp (as := [vR l4, vR l5, vI l6, vR l3]) (st' := []) rfl (fun _ _ _ _ => rfl) rfl rfl (Nat.le_of_ble_eq_true rfl) (Nat.le_of_ble_eq_true rfl) (recvV A (a := 8) (kT_e e10)) (t158 (by omega) A rl6 e9) (fun r9 => ?_)
    refine hg_run 3 (pc' := 57) (ls' := [some (vr 48), some (vr l1), some (vr l2), some (vr l3), some (vr l4), some (vr l5), some (vi l6), some (vi v9)]) (st' := [vI (-1), vI v9]) rfl ?_
    rcases oi e with ⟨q11, e⟩ | ⟨q11, e⟩
    · refine hg_icT (tgt := 75) rfl (by decide) r9 (rgn (-1) rfl) q11 ?_
      exact t180_j75 hd rl6 A e kb ke
    · refine hg_icF (tgt := 75) rfl (by decide) r9 (rgn (-1) rfl) q11 ?_
      refine hg_run 1 (pc' := 61) (ls' := [some (vr 48), some (vr l1), some (vr l2), some (vr l3), some (vr l4), some (vr l5), some (vi l6), some (vi v9)]) (st' := [vR 48]) rfl ?_
      refine gs_48_14 rfl A ?_
      refine hg_run 2 (pc' := 68) (ls' := [some (vr 48), some (vr l1), some (vr l2), some (vr l3), some (vr l4), some (vr l5), some (vi l6), some (vi v9)]) (st' := [vR l5, vI v9, vR 52]) rfl ?_
      obtain ⟨v12, e12, e⟩ := ob e
      refine gd_11_5 rfl A e12 ?_
      refine hg_run 1 (pc' := 73) (ls' := [some (vr 48), some (vr l1), some (vr l2), some (vr l3), some (vr l4), some (vr l5), some (vi l6), some (vi v9)]) (st' := [vI l6, vR v12, vI v9, vR 52]) rfl ?_
      obtain ⟨v13, e13, e⟩ := ob e
      refine hg_aId 0 rfl (fun _ _ _ _ => rfl) A rfl (by decide) e13 (fun r13 => ?_)
      obtain ⟨h14, e14, e⟩ := ob e
      refine hg_wIs rfl A (Abs_ks A (i := 22) rfl) (by decide) r13 e14 (fun w14 A14 => ?_)
      exact t180_j75 hd rl6 A14 e kb ke
theorem t180_l32 {d : Nat} (hd : 3 ≤ d) {l3 : Nat} {l4 : Nat} {l5 : Nat} {l1 : Nat} {l2 : Nat} {Q : mmO → Prop}  (n : Nat) {l6 : Int} {z7 : Option hO} {h : hS} {w : mmW} {r : hS} (rl6 : rg l6) (A : Abs h w) (e : lp (fun s => c180_b32 l3 l4 l5 s.1 s.2) n (l6, h) = some r) (ke : ∀ (x_0 : hS), r = (x_0) → ∀ w', ∀ (y6 y7 : Option hO), Abs x_0 w' → hG d 180 81 [some (vr 48), some (vr l1), some (vr l2), some (vr l3), some (vr l4), some (vr l5), y6, y7] [] w' Q) : hG d 180 32 [some (vr 48), some (vr l1), some (vr l2), some (vr l3), some (vr l4), some (vr l5), some (vi l6), z7] [] w Q := by
  induction n generalizing l6 z7 h w with
  | zero => cases e
  | succ n ih =>
    rcases lp_succ e with ⟨s1, e1, e2⟩ | e1
    · exact t180_b32 hd rl6 A e1 (fun s_0 s_1 q w1 y7 rl6 A1 => by cases q; exact ih rl6 A1 e2) (fun x_0 q => by cases q)
    · exact t180_b32 hd rl6 A e1 (fun s_0 s_1 q => by cases q) (fun x_0 q => by cases q; exact ke _ rfl)
def c180_b24 (l3 : Nat) (l4 : Nat) (l5 : Nat) (h : hS) : Option ((Nat × hS) ⊕ (hS)) :=
  (hnul l5).bind (fun b6 =>
  if b6 = true then
  some (.inr (h))
  else
  (lp (fun s => c180_b32 l3 l4 l5 s.1 s.2) hF0 (0, h)).bind (fun r15 =>
  (gR r15 l5 24 1).bind (fun v16 =>
  some (.inl (v16, r15)))))
theorem t180_b24 {d : Nat} (hd : 3 ≤ d) {l3 : Nat} {l4 : Nat} {l5 : Nat} {l1 : Nat} {l2 : Nat} {z6 : Option hO} {z7 : Option hO} {h : hS} {w : mmW} {o : (Nat × hS) ⊕ (hS)} {Q : mmO → Prop}  (A : Abs h w) (e : c180_b24 l3 l4 l5 h = some o) (kb : ∀ (s_0 : Nat) (s_1 : hS), o = .inl (s_0, s_1) → ∀ w', ∀ (y6 y7 : Option hO), Abs s_1 w' → hG d 180 24 [some (vr 48), some (vr l1), some (vr l2), some (vr l3), some (vr l4), some (vr s_0), y6, y7] [] w' Q) (ke : ∀ (x_0 : hS), o = .inr (x_0) → ∀ w', ∀ (y5 y6 y7 : Option hO), Abs x_0 w' → hG d 180 91 [some (vr 48), some (vr l1), some (vr l2), some (vr l3), some (vr l4), y5, y6, y7] [] w' Q) : hG d 180 24 [some (vr 48), some (vr l1), some (vr l2), some (vr l3), some (vr l4), some (vr l5), z6, z7] [] w Q := by
  unfold c180_b24 at e
  refine hg_run 1 (pc' := 26) (ls' := [some (vr 48), some (vr l1), some (vr l2), some (vr l3), some (vr l4), some (vr l5), z6, z7]) (st' := [vR l5]) rfl ?_
  obtain ⟨b6, e6, e⟩ := ob e
  rcases oi e with ⟨q6, e⟩ | ⟨q6, e⟩
  · refine hg_nul (yes := true) (tgt := 91) (t2 := 91) rfl (fun _ _ _ _ => rfl) (by decide) (ebT e6 q6) rfl ?_
    cases e
    exact ke h rfl _ _ _ _  A
  · refine hg_nul (yes := true) (tgt := 91) (t2 := 29) rfl (fun _ _ _ _ => rfl) (by decide) (ebF e6 q6) rfl ?_
    refine hg_run 2 (pc' := 32) (ls' := [some (vr 48), some (vr l1), some (vr l2), some (vr l3), some (vr l4), some (vr l5), some (vi 0), z7]) (st' := []) rfl ?_
    obtain ⟨r15, e15, e⟩ := ob e
    refine t180_l32 hd  _ (rgn 0 rfl) A e15 ?_
    intro x15_0 qq15 w15 z15_6 z15_7 A15
    subst qq15
    refine hg_run 1 (pc' := 83) (ls' := [some (vr 48), some (vr l1), some (vr l2), some (vr l3), some (vr l4), some (vr l5), z15_6, z15_7]) (st' := [vR l5]) rfl ?_
    obtain ⟨v16, e16, e⟩ := ob e
    refine gd_11_1 rfl A15 e16 ?_
    refine hg_run 2 (pc' := 24) (ls' := [some (vr 48), some (vr l1), some (vr l2), some (vr l3), some (vr l4), some (vr v16), z15_6, z15_7]) (st' := []) rfl ?_
    cases e
    exact kb v16 r15 rfl _ _ _  A15
theorem t180_l24 {d : Nat} (hd : 3 ≤ d) {l3 : Nat} {l4 : Nat} {l1 : Nat} {l2 : Nat} {Q : mmO → Prop}  (n : Nat) {l5 : Nat} {z6 z7 : Option hO} {h : hS} {w : mmW} {r : hS}  (A : Abs h w) (e : lp (fun s => c180_b24 l3 l4 s.1 s.2) n (l5, h) = some r) (ke : ∀ (x_0 : hS), r = (x_0) → ∀ w', ∀ (y5 y6 y7 : Option hO), Abs x_0 w' → hG d 180 91 [some (vr 48), some (vr l1), some (vr l2), some (vr l3), some (vr l4), y5, y6, y7] [] w' Q) : hG d 180 24 [some (vr 48), some (vr l1), some (vr l2), some (vr l3), some (vr l4), some (vr l5), z6, z7] [] w Q := by
  induction n generalizing l5 z6 z7 h w with
  | zero => cases e
  | succ n ih =>
    rcases lp_succ e with ⟨s1, e1, e2⟩ | e1
    · exact t180_b24 hd  A e1 (fun s_0 s_1 q w1 y6 y7 A1 => by cases q; exact ih  A1 e2) (fun x_0 q => by cases q)
    · exact t180_b24 hd  A e1 (fun s_0 s_1 q => by cases q) (fun x_0 q => by cases q; exact ke _ rfl)
def c180_j190 (l6 : Int) (h : hS) : Option ((Int × hS) ⊕ (hS)) :=
  some (.inl ((wadd l6 1), h))
theorem t180_j190 {d : Nat} (hd : 3 ≤ d) {l6 : Int} {l1 : Nat} {l2 : Nat} {z3 : Option hO} {z4 : Option hO} {l5 : Nat} {z7 : Option hO} {h : hS} {w : mmW} {o : (Int × hS) ⊕ (hS)} {Q : mmO → Prop} (rl6 : rg l6) (A : Abs h w) (e : c180_j190 l6 h = some o) (kb : ∀ (s_0 : Int) (s_1 : hS), o = .inl (s_0, s_1) → ∀ w', ∀ (y7 : Option hO), rg s_0 → Abs s_1 w' → hG d 180 102 [some (vr 48), some (vr l1), some (vr l2), z3, z4, some (vr l5), some (vi s_0), y7] [] w' Q) (ke : ∀ (x_0 : hS), o = .inr (x_0) → ∀ w', ∀ (y6 y7 : Option hO), Abs x_0 w' → hG d 180 196 [some (vr 48), some (vr l1), some (vr l2), z3, z4, some (vr l5), y6, y7] [] w' Q) : hG d 180 190 [some (vr 48), some (vr l1), some (vr l2), z3, z4, some (vr l5), some (vi l6), z7] [] w Q := by
  unfold c180_j190 at e
  refine hg_run 2 (pc' := 102) (ls' := [some (vr 48), some (vr l1), some (vr l2), z3, z4, some (vr l5), some (vi (wadd l6 1)), z7]) (st' := []) rfl ?_
  cases e
  exact kb (wadd l6 1) h rfl _ _ (rg_add _ _) A
def c180_j189 (s0 : Nat) (s1 : Int) (s2 : Int) (l6 : Int) (h : hS) : Option ((Int × hS) ⊕ (hS)) :=
  (wI h s0 1 s1 s2).bind (fun h31 =>
  c180_j190 l6 h31)
theorem t180_j189 {d : Nat} (hd : 3 ≤ d) {s0 : Nat} {s1 : Int} {s2 : Int} {l6 : Int} {l1 : Nat} {l2 : Nat} {z3 : Option hO} {z4 : Option hO} {l5 : Nat} {z7 : Option hO} {h : hS} {w : mmW} {o : (Int × hS) ⊕ (hS)} {Q : mmO → Prop} (rs1 : rg s1) (rs2 : rg s2) (rl6 : rg l6) (A : Abs h w) (e : c180_j189 s0 s1 s2 l6 h = some o) (kb : ∀ (s_0 : Int) (s_1 : hS), o = .inl (s_0, s_1) → ∀ w', ∀ (y7 : Option hO), rg s_0 → Abs s_1 w' → hG d 180 102 [some (vr 48), some (vr l1), some (vr l2), z3, z4, some (vr l5), some (vi s_0), y7] [] w' Q) (ke : ∀ (x_0 : hS), o = .inr (x_0) → ∀ w', ∀ (y6 y7 : Option hO), Abs x_0 w' → hG d 180 196 [some (vr 48), some (vr l1), some (vr l2), z3, z4, some (vr l5), y6, y7] [] w' Q) : hG d 180 189 [some (vr 48), some (vr l1), some (vr l2), z3, z4, some (vr l5), some (vi l6), z7] [vI s2, vI s1, vR s0] w Q := by
  unfold c180_j189 at e
  obtain ⟨h31, e31, e⟩ := ob e
  refine hg_wId rfl A rs2 e31 (fun w31 A31 => ?_)
  exact t180_j190 hd rl6 A31 e kb ke
def c180_b102 (l1 : Nat) (l2 : Nat) (l5 : Nat) (l6 : Int) (h : hS) : Option ((Int × hS) ⊕ (hS)) :=
  (gI h l5 24 4).bind (fun v19 =>
  if v19 ≤ l6 then
  some (.inr (h))
  else
  (gR h l5 24 5).bind (fun v21 =>
  (aI h v21 1 l6).bind (fun v22 =>
  (aIs h 52 40 v22).bind (fun v23 =>
  if v23 = (-1) then
  (gR h l2 16 3).bind (fun v25 =>
  (gR h l1 16 4).bind (fun v26 =>
  (aI h v26 3 v22).bind (fun v27 =>
  if v27 = 0 then
  (gR h l5 24 6).bind (fun v29 =>
  (aI h v29 1 l6).bind (fun v30 =>
  c180_j189 v25 v22 v30 l6 h))
  else
  (gR h l1 16 5).bind (fun v32 =>
  (aI h v32 1 v22).bind (fun v33 =>
  c180_j189 v25 v22 v33 l6 h)))))
  else
  (gR h l2 16 3).bind (fun v34 =>
  (gR h l1 16 3).bind (fun v35 =>
  (aIs h 52 40 v22).bind (fun v36 =>
  (aI h v35 1 v36).bind (fun v37 =>
  (wI h v34 1 v22 v37).bind (fun h38 =>
  c180_j190 l6 h38)))))))))
theorem t180_b102 {d : Nat} (hd : 3 ≤ d) {l1 : Nat} {l2 : Nat} {l5 : Nat} {l6 : Int} {z3 : Option hO} {z4 : Option hO} {z7 : Option hO} {h : hS} {w : mmW} {o : (Int × hS) ⊕ (hS)} {Q : mmO → Prop} (rl6 : rg l6) (A : Abs h w) (e : c180_b102 l1 l2 l5 l6 h = some o) (kb : ∀ (s_0 : Int) (s_1 : hS), o = .inl (s_0, s_1) → ∀ w', ∀ (y7 : Option hO), rg s_0 → Abs s_1 w' → hG d 180 102 [some (vr 48), some (vr l1), some (vr l2), z3, z4, some (vr l5), some (vi s_0), y7] [] w' Q) (ke : ∀ (x_0 : hS), o = .inr (x_0) → ∀ w', ∀ (y6 y7 : Option hO), Abs x_0 w' → hG d 180 196 [some (vr 48), some (vr l1), some (vr l2), z3, z4, some (vr l5), y6, y7] [] w' Q) : hG d 180 102 [some (vr 48), some (vr l1), some (vr l2), z3, z4, some (vr l5), some (vi l6), z7] [] w Q := by
  unfold c180_b102 at e
  refine hg_run 2 (pc' := 106) (ls' := [some (vr 48), some (vr l1), some (vr l2), z3, z4, some (vr l5), some (vi l6), z7]) (st' := [vR l5, vI l6]) rfl ?_
  obtain ⟨v19, e19, e⟩ := ob e
  refine gd_11_4 rfl A e19 (fun r19 => ?_)
  rcases oi e with ⟨q20, e⟩ | ⟨q20, e⟩
  · refine hg_icT (tgt := 196) rfl (by decide) rl6 r19 q20 ?_
    cases e
    exact ke h rfl _ _ _  A
  · refine hg_icF (tgt := 196) rfl (by decide) rl6 r19 q20 ?_
    refine hg_run 1 (pc' := 114) (ls' := [some (vr 48), some (vr l1), some (vr l2), z3, z4, some (vr l5), some (vi l6), z7]) (st' := [vR l5]) rfl ?_
    obtain ⟨v21, e21, e⟩ := ob e
    refine gd_11_5 rfl A e21 ?_
    refine hg_run 1 (pc' := 119) (ls' := [some (vr 48), some (vr l1), some (vr l2), z3, z4, some (vr l5), some (vi l6), z7]) (st' := [vI l6, vR v21]) rfl ?_
    obtain ⟨v22, e22, e⟩ := ob e
    refine hg_aId 0 rfl (fun _ _ _ _ => rfl) A rfl (by decide) e22 (fun r22 => ?_)
    refine hg_run 2 (pc' := 123) (ls' := [some (vr 48), some (vr l1), some (vr l2), z3, z4, some (vr l5), some (vi l6), some (vi v22)]) (st' := [vR 48]) rfl ?_
    refine gs_48_14 rfl A ?_
    refine hg_run 1 (pc' := 128) (ls' := [some (vr 48), some (vr l1), some (vr l2), z3, z4, some (vr l5), some (vi l6), some (vi v22)]) (st' := [vI v22, vR 52]) rfl ?_
    obtain ⟨v23, e23, e⟩ := ob e
    refine hg_aIs 0 rfl (fun _ _ _ _ => rfl) A (Abs_ks A (i := 22) rfl) rfl (by decide) e23 (fun r23 => ?_)
    refine hg_run 1 (pc' := 130) (ls' := [some (vr 48), some (vr l1), some (vr l2), z3, z4, some (vr l5), some (vi l6), some (vi v22)]) (st' := [vI (-1), vI v23]) rfl ?_
    rcases oi e with ⟨q24, e⟩ | ⟨q24, e⟩
    · refine hg_icT (tgt := 155) rfl (by decide) r23 (rgn (-1) rfl) q24 ?_
      refine hg_run 1 (pc' := 156) (ls' := [some (vr 48), some (vr l1), some (vr l2), z3, z4, some (vr l5), some (vi l6), some (vi v22)]) (st' := [vR l2]) rfl ?_
      obtain ⟨v25, e25, e⟩ := ob e
      refine gd_7_3 rfl A e25 ?_
      refine hg_run 2 (pc' := 162) (ls' := [some (vr 48), some (vr l1), some (vr l2), z3, z4, some (vr l5), some (vi l6), some (vi v22)]) (st' := [vR l1, vI v22, vR v25]) rfl ?_
      obtain ⟨v26, e26, e⟩ := ob e
      refine gd_7_4 rfl A e26 ?_
      refine hg_run 1 (pc' := 167) (ls' := [some (vr 48), some (vr l1), some (vr l2), z3, z4, some (vr l5), some (vi l6), some (vi v22)]) (st' := [vI v22, vR v26, vI v22, vR v25]) rfl ?_
      obtain ⟨v27, e27, e⟩ := ob e
      refine hg_aId 1 rfl (fun _ _ _ _ => rfl) A rfl (by decide) e27 (fun r27 => ?_)
      rcases oi e with ⟨q28, e⟩ | ⟨q28, e⟩
      · refine hg_ifT (tgt := 181) rfl (by decide) r27 q28 ?_
        refine hg_run 1 (pc' := 183) (ls' := [some (vr 48), some (vr l1), some (vr l2), z3, z4, some (vr l5), some (vi l6), some (vi v22)]) (st' := [vR l5, vI v22, vR v25]) rfl ?_
        obtain ⟨v29, e29, e⟩ := ob e
        refine gd_11_6 rfl A e29 ?_
        refine hg_run 1 (pc' := 188) (ls' := [some (vr 48), some (vr l1), some (vr l2), z3, z4, some (vr l5), some (vi l6), some (vi v22)]) (st' := [vI l6, vR v29, vI v22, vR v25]) rfl ?_
        obtain ⟨v30, e30, e⟩ := ob e
        refine hg_aId 0 rfl (fun _ _ _ _ => rfl) A rfl (by decide) e30 (fun r30 => ?_)
        exact t180_j189 hd r22 r30 rl6 A e kb ke
      · refine hg_ifF (tgt := 181) rfl (by decide) r27 q28 ?_
        refine hg_run 1 (pc' := 172) (ls' := [some (vr 48), some (vr l1), some (vr l2), z3, z4, some (vr l5), some (vi l6), some (vi v22)]) (st' := [vR l1, vI v22, vR v25]) rfl ?_
        obtain ⟨v32, e32, e⟩ := ob e
        refine gd_7_5 rfl A e32 ?_
        refine hg_run 1 (pc' := 177) (ls' := [some (vr 48), some (vr l1), some (vr l2), z3, z4, some (vr l5), some (vi l6), some (vi v22)]) (st' := [vI v22, vR v32, vI v22, vR v25]) rfl ?_
        obtain ⟨v33, e33, e⟩ := ob e
        refine hg_aId 0 rfl (fun _ _ _ _ => rfl) A rfl (by decide) e33 (fun r33 => ?_)
        refine hg_run 1 (pc' := 189) (ls' := [some (vr 48), some (vr l1), some (vr l2), z3, z4, some (vr l5), some (vi l6), some (vi v22)]) (st' := [vI v33, vI v22, vR v25]) rfl ?_
        exact t180_j189 hd r22 r33 rl6 A e kb ke
    · refine hg_icF (tgt := 155) rfl (by decide) r23 (rgn (-1) rfl) q24 ?_
      refine hg_run 1 (pc' := 134) (ls' := [some (vr 48), some (vr l1), some (vr l2), z3, z4, some (vr l5), some (vi l6), some (vi v22)]) (st' := [vR l2]) rfl ?_
      obtain ⟨v34, e34, e⟩ := ob e
      refine gd_7_3 rfl A e34 ?_
      refine hg_run 2 (pc' := 140) (ls' := [some (vr 48), some (vr l1), some (vr l2), z3, z4, some (vr l5), some (vi l6), some (vi v22)]) (st' := [vR l1, vI v22, vR v34]) rfl ?_
      obtain ⟨v35, e35, e⟩ := ob e
      refine gd_7_3 rfl A e35 ?_
      refine hg_run 1 (pc' := 144) (ls' := [some (vr 48), some (vr l1), some (vr l2), z3, z4, some (vr l5), some (vi l6), some (vi v22)]) (st' := [vR 48, vR v35, vI v22, vR v34]) rfl ?_
      refine gs_48_14 rfl A ?_
      refine hg_run 1 (pc' := 149) (ls' := [some (vr 48), some (vr l1), some (vr l2), z3, z4, some (vr l5), some (vi l6), some (vi v22)]) (st' := [vI v22, vR 52, vR v35, vI v22, vR v34]) rfl ?_
      obtain ⟨v36, e36, e⟩ := ob e
      refine hg_aIs 0 rfl (fun _ _ _ _ => rfl) A (Abs_ks A (i := 22) rfl) rfl (by decide) e36 (fun r36 => ?_)
      obtain ⟨v37, e37, e⟩ := ob e
      refine hg_aId 0 rfl (fun _ _ _ _ => rfl) A rfl (by decide) e37 (fun r37 => ?_)
      obtain ⟨h38, e38, e⟩ := ob e
      refine hg_wId rfl A r37 e38 (fun w38 A38 => ?_)
      refine hg_run 1 (pc' := 190) (ls' := [some (vr 48), some (vr l1), some (vr l2), z3, z4, some (vr l5), some (vi l6), some (vi v22)]) (st' := []) rfl ?_
      exact t180_j190 hd rl6 A38 e kb ke
theorem t180_l102 {d : Nat} (hd : 3 ≤ d) {l1 : Nat} {l2 : Nat} {l5 : Nat} {z3 : Option hO} {z4 : Option hO} {Q : mmO → Prop}  (n : Nat) {l6 : Int} {z7 : Option hO} {h : hS} {w : mmW} {r : hS} (rl6 : rg l6) (A : Abs h w) (e : lp (fun s => c180_b102 l1 l2 l5 s.1 s.2) n (l6, h) = some r) (ke : ∀ (x_0 : hS), r = (x_0) → ∀ w', ∀ (y6 y7 : Option hO), Abs x_0 w' → hG d 180 196 [some (vr 48), some (vr l1), some (vr l2), z3, z4, some (vr l5), y6, y7] [] w' Q) : hG d 180 102 [some (vr 48), some (vr l1), some (vr l2), z3, z4, some (vr l5), some (vi l6), z7] [] w Q := by
  induction n generalizing l6 z7 h w with
  | zero => cases e
  | succ n ih =>
    rcases lp_succ e with ⟨s1, e1, e2⟩ | e1
    · exact t180_b102 hd rl6 A e1 (fun s_0 s_1 q w1 y7 rl6 A1 => by cases q; exact ih rl6 A1 e2) (fun x_0 q => by cases q)
    · exact t180_b102 hd rl6 A e1 (fun s_0 s_1 q => by cases q) (fun x_0 q => by cases q; exact ke _ rfl)
def c180_b94 (l1 : Nat) (l2 : Nat) (l5 : Nat) (h : hS) : Option ((Nat × hS) ⊕ (hS)) :=
  (hnul l5).bind (fun b18 =>
  if b18 = true then
  some (.inr (h))
  else
  (lp (fun s => c180_b102 l1 l2 l5 s.1 s.2) hF0 (0, h)).bind (fun r39 =>
  (gR r39 l5 24 1).bind (fun v40 =>
  some (.inl (v40, r39)))))
theorem t180_b94 {d : Nat} (hd : 3 ≤ d) {l1 : Nat} {l2 : Nat} {l5 : Nat} {z3 : Option hO} {z4 : Option hO} {z6 : Option hO} {z7 : Option hO} {h : hS} {w : mmW} {o : (Nat × hS) ⊕ (hS)} {Q : mmO → Prop}  (A : Abs h w) (e : c180_b94 l1 l2 l5 h = some o) (kb : ∀ (s_0 : Nat) (s_1 : hS), o = .inl (s_0, s_1) → ∀ w', ∀ (y6 y7 : Option hO), Abs s_1 w' → hG d 180 94 [some (vr 48), some (vr l1), some (vr l2), z3, z4, some (vr s_0), y6, y7] [] w' Q) (ke : ∀ (x_0 : hS), o = .inr (x_0) → ∀ w', ∀ (y5 y6 y7 : Option hO), Abs x_0 w' → hG d 180 206 [some (vr 48), some (vr l1), some (vr l2), z3, z4, y5, y6, y7] [] w' Q) : hG d 180 94 [some (vr 48), some (vr l1), some (vr l2), z3, z4, some (vr l5), z6, z7] [] w Q := by
  unfold c180_b94 at e
  refine hg_run 1 (pc' := 96) (ls' := [some (vr 48), some (vr l1), some (vr l2), z3, z4, some (vr l5), z6, z7]) (st' := [vR l5]) rfl ?_
  obtain ⟨b18, e18, e⟩ := ob e
  rcases oi e with ⟨q18, e⟩ | ⟨q18, e⟩
  · refine hg_nul (yes := true) (tgt := 206) (t2 := 206) rfl (fun _ _ _ _ => rfl) (by decide) (ebT e18 q18) rfl ?_
    cases e
    exact ke h rfl _ _ _ _  A
  · refine hg_nul (yes := true) (tgt := 206) (t2 := 99) rfl (fun _ _ _ _ => rfl) (by decide) (ebF e18 q18) rfl ?_
    refine hg_run 2 (pc' := 102) (ls' := [some (vr 48), some (vr l1), some (vr l2), z3, z4, some (vr l5), some (vi 0), z7]) (st' := []) rfl ?_
    obtain ⟨r39, e39, e⟩ := ob e
    refine t180_l102 hd  _ (rgn 0 rfl) A e39 ?_
    intro x39_0 qq39 w39 z39_6 z39_7 A39
    subst qq39
    refine hg_run 1 (pc' := 198) (ls' := [some (vr 48), some (vr l1), some (vr l2), z3, z4, some (vr l5), z39_6, z39_7]) (st' := [vR l5]) rfl ?_
    obtain ⟨v40, e40, e⟩ := ob e
    refine gd_11_1 rfl A39 e40 ?_
    refine hg_run 2 (pc' := 94) (ls' := [some (vr 48), some (vr l1), some (vr l2), z3, z4, some (vr v40), z39_6, z39_7]) (st' := []) rfl ?_
    cases e
    exact kb v40 r39 rfl _ _ _  A39
theorem t180_l94 {d : Nat} (hd : 3 ≤ d) {l1 : Nat} {l2 : Nat} {z3 : Option hO} {z4 : Option hO} {Q : mmO → Prop}  (n : Nat) {l5 : Nat} {z6 z7 : Option hO} {h : hS} {w : mmW} {r : hS}  (A : Abs h w) (e : lp (fun s => c180_b94 l1 l2 s.1 s.2) n (l5, h) = some r) (ke : ∀ (x_0 : hS), r = (x_0) → ∀ w', ∀ (y5 y6 y7 : Option hO), Abs x_0 w' → hG d 180 206 [some (vr 48), some (vr l1), some (vr l2), z3, z4, y5, y6, y7] [] w' Q) : hG d 180 94 [some (vr 48), some (vr l1), some (vr l2), z3, z4, some (vr l5), z6, z7] [] w Q := by
  induction n generalizing l5 z6 z7 h w with
  | zero => cases e
  | succ n ih =>
    rcases lp_succ e with ⟨s1, e1, e2⟩ | e1
    · exact t180_b94 hd  A e1 (fun s_0 s_1 q w1 y6 y7 A1 => by cases q; exact ih  A1 e2) (fun x_0 q => by cases q)
    · exact t180_b94 hd  A e1 (fun s_0 s_1 q => by cases q) (fun x_0 q => by cases q; exact ke _ rfl)
def c180 (l1 : Nat) (l2 : Nat) (l3 : Nat) (l4 : Nat) (h : hS) : Option (hS) :=
  (kT h l2 16).bind (fun u2 =>
  (c154 l2 l1 h).bind (fun h1 =>
  (pR h1 l2 16 2 l3).bind (fun h3 =>
  (c156 52 (-1) h3).bind (fun h4 =>
  (gR h4 l1 16 2).bind (fun v5 =>
  (lp (fun s => c180_b24 l3 l4 s.1 s.2) hF0 (v5, h4)).bind (fun r17 =>
  (lp (fun s => c180_b94 l1 l2 s.1 s.2) hF0 (l3, r17)).bind (fun r41 =>
  (kT r41 l1 16).bind (fun u43 =>
  (c154 l1 l2 r41).bind (fun h42 =>
  some h42)))))))))
theorem t180 {d : Nat} (hd : 4 ≤ d) {l1 : Nat} {l2 : Nat} {l3 : Nat} {l4 : Nat} {h : hS} {w : mmW} {o : hS} (A : Abs h w)  (e : c180 l1 l2 l3 l4 h = some o) : hEv d 180 [vR 48, vR l1, vR l2, vR l3, vR l4] w (qV o) := by
  obtain ⟨d, rfl⟩ : ∃ d1, d = d1 + 1 := ⟨d - 1, by omega⟩
  have hd : 3 ≤ d := by omega
  refine hEv_start (args := [vr 48, vr l1, vr l2, vr l3, vr l4]) (nl := 8) rfl (Nat.le_of_ble_eq_true rfl) ?_
  show hG d 180 0 [some (vr 48), some (vr l1), some (vr l2), some (vr l3), some (vr l4), none, none, none] [] w _
  have kr : ∀ h1 : hS, o = h1 → ∀ w', Abs h1 w' → qV o (none, w') := fun h1 q w' A' => by cases q; exact ⟨rfl, A'⟩
  unfold c180 at e
  refine hg_run 2 (pc' := 2) (ls' := [some (vr 48), some (vr l1), some (vr l2), some (vr l3), some (vr l4), none, none, none]) (st' := [vR l1, vR l2]) rfl ?_
  obtain ⟨u2, e2, e⟩ := ob e
  obtain ⟨h1, e1, e⟩ := ob e
  refine hg_cV (as := [vR l2, vR l1]) (st' := []) rfl (fun _ _ _ _ => rfl) rfl rfl (Nat.le_of_ble_eq_true rfl) (Nat.le_of_ble_eq_true rfl) (recvV A (a := 7) (kT_e e2)) (t154 (by omega) A  e1) (fun w1 A1 => ?_)
  refine hg_run 2 (pc' := 7) (ls' := [some (vr 48), some (vr l1), some (vr l2), some (vr l3), some (vr l4), none, none, none]) (st' := [vR l3, vR l2]) rfl ?_
  obtain ⟨h3, e3, e⟩ := ob e
  refine pd_7_2 rfl A1 e3 (fun w3 A3 => ?_)
  refine hg_run 1 (pc' := 11) (ls' := [some (vr 48), some (vr l1), some (vr l2), some (vr l3), some (vr l4), none, none, none]) (st' := [vR 48]) rfl ?_
  refine gs_48_14 rfl A3 ?_
  refine hg_run 1 (pc' := 15) (ls' := [some (vr 48), some (vr l1), some (vr l2), some (vr l3), some (vr l4), none, none, none]) (st' := [vI (-1), vR 52]) rfl ?_
  obtain ⟨h4, e4, e⟩ := ob e
  refine hg_cV (as := [vR 52, vI (-1)]) (st' := []) rfl (fun _ _ _ _ => rfl) rfl rfl (Nat.le_of_ble_eq_true rfl) (Nat.le_of_ble_eq_true rfl) recv0 (t156 (by omega) A3 (rgn (-1) rfl) e4) (fun w4 A4 => ?_)
  refine hg_run 1 (pc' := 19) (ls' := [some (vr 48), some (vr l1), some (vr l2), some (vr l3), some (vr l4), none, none, none]) (st' := [vR l1]) rfl ?_
  obtain ⟨v5, e5, e⟩ := ob e
  refine gd_7_2 rfl A4 e5 ?_
  refine hg_run 1 (pc' := 24) (ls' := [some (vr 48), some (vr l1), some (vr l2), some (vr l3), some (vr l4), some (vr v5), none, none]) (st' := []) rfl ?_
  obtain ⟨r17, e17, e⟩ := ob e
  refine t180_l24 hd  _  A4 e17 ?_
  intro x17_0 qq17 w17 z17_5 z17_6 z17_7 A17
  subst qq17
  refine hg_run 2 (pc' := 94) (ls' := [some (vr 48), some (vr l1), some (vr l2), some (vr l3), some (vr l4), some (vr l3), z17_6, z17_7]) (st' := []) rfl ?_
  obtain ⟨r41, e41, e⟩ := ob e
  refine t180_l94 hd  _  A17 e41 ?_
  intro x41_0 qq41 w41 z41_5 z41_6 z41_7 A41
  subst qq41
  refine hg_run 2 (pc' := 208) (ls' := [some (vr 48), some (vr l1), some (vr l2), some (vr l3), some (vr l4), z41_5, z41_6, z41_7]) (st' := [vR l2, vR l1]) rfl ?_
  obtain ⟨u43, e43, e⟩ := ob e
  obtain ⟨h42, e42, e⟩ := ob e
  refine hg_cV (as := [vR l1, vR l2]) (st' := []) rfl (fun _ _ _ _ => rfl) rfl rfl (Nat.le_of_ble_eq_true rfl) (Nat.le_of_ble_eq_true rfl) (recvV A41 (a := 7) (kT_e e43)) (t154 (by omega) A41  e42) (fun w42 A42 => ?_)
  cases e
  exact hg_retV rfl (kr _ rfl _ A42)
def c179_j106 (l3 : Int) (h : hS) : Option ((Int × hS) ⊕ (hS)) :=
  some (.inl ((wadd l3 1), h))
theorem t179_j106 {d : Nat} (hd : 4 ≤ d) {l3 : Int} {l1 : Nat} {l2 : Nat} {z4 : Option hO} {z5 : Option hO} {h : hS} {w : mmW} {o : (Int × hS) ⊕ (hS)} {Q : mmO → Prop} (rl3 : rg l3) (A : Abs h w) (e : c179_j106 l3 h = some o) (kb : ∀ (s_0 : Int) (s_1 : hS), o = .inl (s_0, s_1) → ∀ w', ∀ (y4 y5 : Option hO), rg s_0 → Abs s_1 w' → hG d 179 12 [some (vr 48), some (vr l1), some (vr l2), some (vi s_0), y4, y5] [] w' Q) (ke : ∀ (x_0 : hS), o = .inr (x_0) → ∀ w', ∀ (y3 y4 y5 : Option hO), Abs x_0 w' → hG d 179 112 [some (vr 48), some (vr l1), some (vr l2), y3, y4, y5] [] w' Q) : hG d 179 106 [some (vr 48), some (vr l1), some (vr l2), some (vi l3), z4, z5] [] w Q := by
  unfold c179_j106 at e
  refine hg_run 2 (pc' := 12) (ls' := [some (vr 48), some (vr l1), some (vr l2), some (vi (wadd l3 1)), z4, z5]) (st' := []) rfl ?_
  cases e
  exact kb (wadd l3 1) h rfl _ _ _ (rg_add _ _) A
def c179_j50 (s0 : Nat) (l1 : Nat) (l3 : Int) (l4 : Nat) (h : hS) : Option ((Int × hS) ⊕ (hS)) :=
  (hnul s0).bind (fun b7 =>
  if b7 = true then
  (pI h l4 16 1 0).bind (fun h14 =>
  c179_j106 l3 h14)
  else
  (gR h l4 16 2).bind (fun v8 =>
  (gI h v8 24 2).bind (fun v9 =>
  if v9 = (hI h 48 9) then
  (aRs h 49 40 l3).bind (fun v12 =>
  (c180 l4 v12 s0 l1 h).bind (fun h13 =>
  c179_j106 l3 h13))
  else
  (pR h l4 16 2 s0).bind (fun h11 =>
  c179_j106 l3 h11))))
theorem t179_j50 {d : Nat} (hd : 4 ≤ d) {s0 : Nat} {l1 : Nat} {l3 : Int} {l4 : Nat} {l2 : Nat} {z5 : Option hO} {h : hS} {w : mmW} {o : (Int × hS) ⊕ (hS)} {Q : mmO → Prop} (rl3 : rg l3) (A : Abs h w) (e : c179_j50 s0 l1 l3 l4 h = some o) (kb : ∀ (s_0 : Int) (s_1 : hS), o = .inl (s_0, s_1) → ∀ w', ∀ (y4 y5 : Option hO), rg s_0 → Abs s_1 w' → hG d 179 12 [some (vr 48), some (vr l1), some (vr l2), some (vi s_0), y4, y5] [] w' Q) (ke : ∀ (x_0 : hS), o = .inr (x_0) → ∀ w', ∀ (y3 y4 y5 : Option hO), Abs x_0 w' → hG d 179 112 [some (vr 48), some (vr l1), some (vr l2), y3, y4, y5] [] w' Q) : hG d 179 50 [some (vr 48), some (vr l1), some (vr l2), some (vi l3), some (vr l4), z5] [vR s0] w Q := by
  unfold c179_j50 at e
  refine hg_run 2 (pc' := 54) (ls' := [some (vr 48), some (vr l1), some (vr l2), some (vi l3), some (vr l4), some (vr s0)]) (st' := [vR s0]) rfl ?_
  obtain ⟨b7, e7, e⟩ := ob e
  rcases oi e with ⟨q7, e⟩ | ⟨q7, e⟩
  · refine hg_nul (yes := false) (tgt := 66) (t2 := 57) rfl (fun _ _ _ _ => rfl) (by decide) (ebT e7 q7) rfl ?_
    refine hg_run 2 (pc' := 60) (ls' := [some (vr 48), some (vr l1), some (vr l2), some (vi l3), some (vr l4), some (vr s0)]) (st' := [vI 0, vR l4]) rfl ?_
    obtain ⟨h14, e14, e⟩ := ob e
    refine pd_7_1 rfl A (rgn 0 rfl) (.inl rfl) e14 (fun w14 A14 => ?_)
    refine hg_run 1 (pc' := 106) (ls' := [some (vr 48), some (vr l1), some (vr l2), some (vi l3), some (vr l4), some (vr s0)]) (st' := []) rfl ?_
    exact t179_j106 hd rl3 A14 e kb ke
  · refine hg_nul (yes := false) (tgt := 66) (t2 := 66) rfl (fun _ _ _ _ => rfl) (by decide) (ebF e7 q7) rfl ?_
    refine hg_run 1 (pc' := 68) (ls' := [some (vr 48), some (vr l1), some (vr l2), some (vi l3), some (vr l4), some (vr s0)]) (st' := [vR l4]) rfl ?_
    obtain ⟨v8, e8, e⟩ := ob e
    refine gd_7_2 rfl A e8 ?_
    obtain ⟨v9, e9, e⟩ := ob e
    refine gd_11_2 rfl A e9 (fun r9 => ?_)
    refine hg_run 1 (pc' := 75) (ls' := [some (vr 48), some (vr l1), some (vr l2), some (vi l3), some (vr l4), some (vr s0)]) (st' := [vR 48, vI v9]) rfl ?_
    refine gs_48_9 rfl A ?_
    rcases oi e with ⟨q10, e⟩ | ⟨q10, e⟩
    · refine hg_icF (tgt := 99) rfl (by decide) r9 (Abs_rg A 48 9) (show ¬ ¬ (v9 = (hI h 48 9)) from fun f => f q10) ?_
      refine hg_run 3 (pc' := 85) (ls' := [some (vr 48), some (vr l1), some (vr l2), some (vi l3), some (vr l4), some (vr s0)]) (st' := [vR 48, vR l4, vR 48]) rfl ?_
      refine gs_48_2 rfl A ?_
      refine hg_run 1 (pc' := 89) (ls' := [some (vr 48), some (vr l1), some (vr l2), some (vi l3), some (vr l4), some (vr s0)]) (st' := [vI l3, vR 49, vR l4, vR 48]) rfl ?_
      obtain ⟨v12, e12, e⟩ := ob e
      refine hg_aRs 4 rfl (fun _ _ _ _ => rfl) A (Abs_ks A (i := 19) rfl) rfl (by decide) e12 ?_
      refine hg_run 2 (pc' := 93) (ls' := [some (vr 48), some (vr l1), some (vr l2), some (vi l3), some (vr l4), some (vr s0)]) (st' := [vR l1, vR s0, vR v12, vR l4, vR 48]) rfl ?_
      obtain ⟨h13, e13, e⟩ := ob e
      refine hg_cV (as := [vR 48, vR l4, vR v12, vR s0, vR l1]) (st' := []) rfl (fun _ _ _ _ => rfl) rfl rfl (Nat.le_of_ble_eq_true rfl) (Nat.le_of_ble_eq_true rfl) (recvV A (a := 6) (Abs_ks A (i := 18) rfl).1) (t180 (by omega) A  e13) (fun w13 A13 => ?_)
      refine hg_run 1 (pc' := 106) (ls' := [some (vr 48), some (vr l1), some (vr l2), some (vi l3), some (vr l4), some (vr s0)]) (st' := []) rfl ?_
      exact t179_j106 hd rl3 A13 e kb ke
    · refine hg_icT (tgt := 99) rfl (by decide) r9 (Abs_rg A 48 9) (show ¬ (v9 = (hI h 48 9)) from q10) ?_
      refine hg_run 2 (pc' := 103) (ls' := [some (vr 48), some (vr l1), some (vr l2), some (vi l3), some (vr l4), some (vr s0)]) (st' := [vR s0, vR l4]) rfl ?_
      obtain ⟨h11, e11, e⟩ := ob e
      refine pd_7_2 rfl A e11 (fun w11 A11 => ?_)
      exact t179_j106 hd rl3 A11 e kb ke
def c179_b12 (l1 : Nat) (l2 : Nat) (l3 : Int) (h : hS) : Option ((Int × hS) ⊕ (hS)) :=
  if 40 ≤ l3 then
  some (.inr (h))
  else
  (aRs h 19 40 l3).bind (fun v4 =>
  (gI h v4 16 1).bind (fun v5 =>
  if v5 = 0 then
  c179_j50 0 l1 l3 v4 h
  else
  (gR h v4 16 2).bind (fun v15 =>
  (gI h v15 24 0).bind (fun v16 =>
  (kT h l2 18).bind (fun u18 =>
  (c47 l2 v16 h).bind (fun v17 =>
  c179_j50 v17 l1 l3 v4 h))))))
theorem t179_b12 {d : Nat} (hd : 4 ≤ d) {l1 : Nat} {l2 : Nat} {l3 : Int} {z4 : Option hO} {z5 : Option hO} {h : hS} {w : mmW} {o : (Int × hS) ⊕ (hS)} {Q : mmO → Prop} (rl3 : rg l3) (A : Abs h w) (e : c179_b12 l1 l2 l3 h = some o) (kb : ∀ (s_0 : Int) (s_1 : hS), o = .inl (s_0, s_1) → ∀ w', ∀ (y4 y5 : Option hO), rg s_0 → Abs s_1 w' → hG d 179 12 [some (vr 48), some (vr l1), some (vr l2), some (vi s_0), y4, y5] [] w' Q) (ke : ∀ (x_0 : hS), o = .inr (x_0) → ∀ w', ∀ (y3 y4 y5 : Option hO), Abs x_0 w' → hG d 179 112 [some (vr 48), some (vr l1), some (vr l2), y3, y4, y5] [] w' Q) : hG d 179 12 [some (vr 48), some (vr l1), some (vr l2), some (vi l3), z4, z5] [] w Q := by
  unfold c179_b12 at e
  refine hg_run 2 (pc' := 15) (ls' := [some (vr 48), some (vr l1), some (vr l2), some (vi l3), z4, z5]) (st' := [vI 40, vI l3]) rfl ?_
  rcases oi e with ⟨q3, e⟩ | ⟨q3, e⟩
  · refine hg_icT (tgt := 112) rfl (by decide) rl3 (rgn 40 rfl) q3 ?_
    cases e
    exact ke h rfl _ _ _ _  A
  · refine hg_icF (tgt := 112) rfl (by decide) rl3 (rgn 40 rfl) q3 ?_
    refine hg_run 1 (pc' := 19) (ls' := [some (vr 48), some (vr l1), some (vr l2), some (vi l3), z4, z5]) (st' := [vR 48]) rfl ?_
    refine gs_48_0 rfl A ?_
    refine hg_run 1 (pc' := 23) (ls' := [some (vr 48), some (vr l1), some (vr l2), some (vi l3), z4, z5]) (st' := [vI l3, vR 19]) rfl ?_
    obtain ⟨v4, e4, e⟩ := ob e
    refine hg_aRs 4 rfl (fun _ _ _ _ => rfl) A (Abs_ks A (i := 10) rfl) rfl (by decide) e4 ?_
    refine hg_run 2 (pc' := 28) (ls' := [some (vr 48), some (vr l1), some (vr l2), some (vi l3), some (vr v4), z5]) (st' := [vR v4]) rfl ?_
    obtain ⟨v5, e5, e⟩ := ob e
    refine gd_7_1 rfl A e5 (fun r5 => ?_)
    rcases oi e with ⟨q6, e⟩ | ⟨q6, e⟩
    · refine hg_ifT (tgt := 49) rfl (by decide) r5 q6 ?_
      refine hg_run 1 (pc' := 50) (ls' := [some (vr 48), some (vr l1), some (vr l2), some (vi l3), some (vr v4), z5]) (st' := [vR 0]) rfl ?_
      exact t179_j50 hd rl3 A e kb ke
    · refine hg_ifF (tgt := 49) rfl (by decide) r5 q6 ?_
      refine hg_run 2 (pc' := 37) (ls' := [some (vr 48), some (vr l1), some (vr l2), some (vi l3), some (vr v4), z5]) (st' := [vR v4, vR l2]) rfl ?_
      obtain ⟨v15, e15, e⟩ := ob e
      refine gd_7_2 rfl A e15 ?_
      obtain ⟨v16, e16, e⟩ := ob e
      refine gd_11_0 rfl A e16 (fun r16 => ?_)
      obtain ⟨u18, e18, e⟩ := ob e
      obtain ⟨v17, e17, e⟩ := ob e
      refine hg_cRp (as := [vR l2, vI v16]) (st' := []) rfl (fun _ _ _ _ => rfl) rfl rfl (Nat.le_of_ble_eq_true rfl) (Nat.le_of_ble_eq_true rfl) (recvV A (a := 8) (kT_e e18)) (t47 (by omega) A r16 e17) ?_
      refine hg_run 1 (pc' := 50) (ls' := [some (vr 48), some (vr l1), some (vr l2), some (vi l3), some (vr v4), z5]) (st' := [vR v17]) rfl ?_
      exact t179_j50 hd rl3 A e kb ke
theorem t179_l12 {d : Nat} (hd : 4 ≤ d) {l1 : Nat} {l2 : Nat}  {Q : mmO → Prop}  (n : Nat) {l3 : Int} {z4 z5 : Option hO} {h : hS} {w : mmW} {r : hS} (rl3 : rg l3) (A : Abs h w) (e : lp (fun s => c179_b12 l1 l2 s.1 s.2) n (l3, h) = some r) (ke : ∀ (x_0 : hS), r = (x_0) → ∀ w', ∀ (y3 y4 y5 : Option hO), Abs x_0 w' → hG d 179 112 [some (vr 48), some (vr l1), some (vr l2), y3, y4, y5] [] w' Q) : hG d 179 12 [some (vr 48), some (vr l1), some (vr l2), some (vi l3), z4, z5] [] w Q := by
  induction n generalizing l3 z4 z5 h w with
  | zero => cases e
  | succ n ih =>
    rcases lp_succ e with ⟨s1, e1, e2⟩ | e1
    · exact t179_b12 hd rl3 A e1 (fun s_0 s_1 q w1 y4 y5 rl3 A1 => by cases q; exact ih rl3 A1 e2) (fun x_0 q => by cases q)
    · exact t179_b12 hd rl3 A e1 (fun s_0 s_1 q => by cases q) (fun x_0 q => by cases q; exact ke _ rfl)
def c179 (l1 : Nat) (h : hS) : Option (Nat × hS) :=
  (kT h (hR h 48 8) 18).bind (fun u2 =>
  (c90 (hR h 48 8) l1 h).bind (fun h1 =>
  (lp (fun s => c179_b12 l1 (hR h 48 8) s.1 s.2) hF0 (0, h1)).bind (fun r19 =>
  (pI r19 (hR r19 48 7) 26 1 5).bind (fun h20 =>
  (some (sR h20 48 7 0)).bind (fun h21 =>
  (some (sR h21 48 8 0)).bind (fun h22 =>
  some ((hR h 48 8), h22)))))))
theorem t179 {d : Nat} (hd : 5 ≤ d) {l1 : Nat} {h : hS} {w : mmW} {o : Nat × hS} (A : Abs h w)  (e : c179 l1 h = some o) : hEv d 179 [vR 48, vR l1] w (qR o) := by
  obtain ⟨d, rfl⟩ : ∃ d1, d = d1 + 1 := ⟨d - 1, by omega⟩
  have hd : 4 ≤ d := by omega
  refine hEv_start (args := [vr 48, vr l1]) (nl := 6) rfl (Nat.le_of_ble_eq_true rfl) ?_
  show hG d 179 0 [some (vr 48), some (vr l1), none, none, none, none] [] w _
  have kr : ∀ (v1 : Nat) (h1 : hS), o = (v1, h1) → ∀ w', Abs h1 w' → qR o (some (rv v1), w') := fun v1 h1 q w' A' => by cases q; exact ⟨rfl, A'⟩
  unfold c179 at e
  refine hg_run 1 (pc' := 1) (ls' := [some (vr 48), some (vr l1), none, none, none, none]) (st' := [vR 48]) rfl ?_
  refine gs_48_8 rfl A ?_
  refine hg_run 3 (pc' := 7) (ls' := [some (vr 48), some (vr l1), some (vr (hR h 48 8)), none, none, none]) (st' := [vR l1, vR (hR h 48 8)]) rfl ?_
  obtain ⟨u2, e2, e⟩ := ob e
  obtain ⟨h1, e1, e⟩ := ob e
  refine hg_cV (as := [vR (hR h 48 8), vR l1]) (st' := []) rfl (fun _ _ _ _ => rfl) rfl rfl (Nat.le_of_ble_eq_true rfl) (Nat.le_of_ble_eq_true rfl) (recvV A (a := 8) (kT_e e2)) (t90 (by omega) A  e1) (fun w1 A1 => ?_)
  refine hg_run 2 (pc' := 12) (ls' := [some (vr 48), some (vr l1), some (vr (hR h 48 8)), some (vi 0), none, none]) (st' := []) rfl ?_
  obtain ⟨r19, e19, e⟩ := ob e
  refine t179_l12 hd  _ (rgn 0 rfl) A1 e19 ?_
  intro x19_0 qq19 w19 z19_3 z19_4 z19_5 A19
  subst qq19
  refine hg_run 1 (pc' := 113) (ls' := [some (vr 48), some (vr l1), some (vr (hR h 48 8)), z19_3, z19_4, z19_5]) (st' := [vR 48]) rfl ?_
  refine gs_48_7 rfl A19 ?_
  refine hg_run 1 (pc' := 117) (ls' := [some (vr 48), some (vr l1), some (vr (hR h 48 8)), z19_3, z19_4, z19_5]) (st' := [vI 5, vR (hR r19 48 7)]) rfl ?_
  obtain ⟨h20, e20, e⟩ := ob e
  refine pd_12_1 rfl A19 (rgn 5 rfl) e20 (fun w20 A20 => ?_)
  refine hg_run 2 (pc' := 122) (ls' := [some (vr 48), some (vr l1), some (vr (hR h 48 8)), z19_3, z19_4, z19_5]) (st' := [vR 0, vR 48]) rfl ?_
  obtain ⟨h21, e21, e⟩ := ob e
  refine ps_48_7 rfl A20 e21 (fun w21 A21 => ?_)
  refine hg_run 2 (pc' := 127) (ls' := [some (vr 48), some (vr l1), some (vr (hR h 48 8)), z19_3, z19_4, z19_5]) (st' := [vR 0, vR 48]) rfl ?_
  obtain ⟨h22, e22, e⟩ := ob e
  refine ps_48_8 rfl A21 e22 (fun w22 A22 => ?_)
  refine hg_run 1 (pc' := 131) (ls' := [some (vr 48), some (vr l1), some (vr (hR h 48 8)), z19_3, z19_4, z19_5]) (st' := [vR (hR h 48 8)]) rfl ?_
  cases e
  exact hg_retR rfl (kr _ _ rfl _ A22)
def c177 (h : hS) : Option (Int × hS) :=
  (c178  h).bind (fun v1 =>
  if v1 = 0 then
  some (0, h)
  else
  (c179 (hR h 8 7) h).bind (fun v3 =>
  (some (sR v3.2 8 7 v3.1)).bind (fun h4 =>
  (c165  h4).bind (fun h5 =>
  some (1, h5)))))
theorem t177 {d : Nat} (hd : 6 ≤ d)  {h : hS} {w : mmW} {o : Int × hS} (A : Abs h w)  (e : c177 h = some o) : hEv d 177 [vR 8] w (qI o) := by
  obtain ⟨d, rfl⟩ : ∃ d1, d = d1 + 1 := ⟨d - 1, by omega⟩
  have hd : 5 ≤ d := by omega
  refine hEv_start (args := [vr 8]) (nl := 1) rfl (Nat.le_of_ble_eq_true rfl) ?_
  show hG d 177 0 [some (vr 8)] [] w _
  have kr : ∀ (v1 : Int) (h1 : hS), o = (v1, h1) → ∀ w', rg v1 → Abs h1 w' → qI o (some (.int (Int32.ofInt v1)), w') := fun v1 h1 q w' r A' => by cases q; exact ⟨rfl, r, A'⟩
  unfold c177 at e
  refine hg_run 1 (pc' := 1) (ls' := [some (vr 8)]) (st' := [vR 8]) rfl ?_
  refine gs_8_6 rfl A ?_
  obtain ⟨v1, e1, e⟩ := ob e
  refine hg_cIp (as := [vR 48]) (st' := []) rfl (fun _ _ _ _ => rfl) rfl rfl (Nat.le_of_ble_eq_true rfl) (Nat.le_of_ble_eq_true rfl) (recvV A (a := 6) (Abs_ks A (i := 18) rfl).1) (t178 (by omega) A  e1) (fun r1 => ?_)
  rcases oi e with ⟨q2, e⟩ | ⟨q2, e⟩
  · refine hg_ifF (tgt := 12) rfl (by decide) r1 (show ¬ ¬ (v1 = 0) from fun f => f q2) ?_
    refine hg_run 1 (pc' := 11) (ls' := [some (vr 8)]) (st' := [vI 0]) rfl ?_
    cases e
    exact hg_retI rfl (by decide) (fit_B (.inl rfl)) (kr _ _ rfl _ (rgn 0 rfl) A)
  · refine hg_ifT (tgt := 12) rfl (by decide) r1 (show ¬ (v1 = 0) from q2) ?_
    refine hg_run 2 (pc' := 14) (ls' := [some (vr 8)]) (st' := [vR 8, vR 8]) rfl ?_
    refine gs_8_6 rfl A ?_
    refine hg_run 1 (pc' := 18) (ls' := [some (vr 8)]) (st' := [vR 8, vR 48, vR 8]) rfl ?_
    refine gs_8_7 rfl A ?_
    obtain ⟨v3, e3, e⟩ := ob e
    refine hg_cR (as := [vR 48, vR (hR h 8 7)]) (st' := [vR 8]) rfl (fun _ _ _ _ => rfl) rfl rfl (Nat.le_of_ble_eq_true rfl) (Nat.le_of_ble_eq_true rfl) (recvV A (a := 6) (Abs_ks A (i := 18) rfl).1) (t179 (by omega) A  e3) (fun w3 A3 => ?_)
    obtain ⟨h4, e4, e⟩ := ob e
    refine ps_8_7 rfl A3 e4 (fun w4 A4 => ?_)
    refine hg_run 1 (pc' := 28) (ls' := [some (vr 8)]) (st' := [vR 8]) rfl ?_
    obtain ⟨h5, e5, e⟩ := ob e
    refine hg_cV (as := [vR 8]) (st' := []) rfl (fun _ _ _ _ => rfl) rfl rfl (Nat.le_of_ble_eq_true rfl) (Nat.le_of_ble_eq_true rfl) (recvV A4 (a := 0) (Abs_ks A4 (i := 0) rfl).1) (t165 (by omega) A4  e5) (fun w5 A5 => ?_)
    refine hg_run 1 (pc' := 32) (ls' := [some (vr 8)]) (st' := [vI 1]) rfl ?_
    cases e
    exact hg_retI rfl (by decide) (fit_B (.inr rfl)) (kr _ _ rfl _ (rgn 1 rfl) A5)
