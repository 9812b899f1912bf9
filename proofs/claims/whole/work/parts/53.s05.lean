/-! read as functions: laid by wip/whole/shallow.py -/
def c174 (l1 : Int) (h : hS) : Option (Int × hS) :=
  if l1 < 0 then
  some (0, h)
  else
  if (hI h 48 4) ≤ l1 then
  some (0, h)
  else
  (hnul (hR h 48 5)).bind (fun b3 =>
  if b3 = true then
  (aRs h 50 6 l1).bind (fun v4 =>
  (some (sR h 48 5 v4)).bind (fun h5 =>
  (pI h5 (hR h5 48 5) 26 1 1).bind (fun h6 =>
  (some (sI h6 48 6 0)).bind (fun h7 =>
  some (1, h7)))))
  else
  some (0, h))
theorem t174 {d : Nat} (hd : 1 ≤ d) {l1 : Int} {h : hS} {w : mmW} {o : Int × hS} (A : Abs h w) (rl1 : rg l1) (e : c174 l1 h = some o) : hEv d 174 [vR 48, vI l1] w (qI o) := by
  obtain ⟨d, rfl⟩ : ∃ d1, d = d1 + 1 := ⟨d - 1, by omega⟩
  have hd : 0 ≤ d := by omega
  refine hEv_start (args := [vr 48, vi l1]) (nl := 2) rfl (Nat.le_of_ble_eq_true rfl) ?_
  show hG d 174 0 [some (vr 48), some (vi l1)] [] w _
  have kr : ∀ (v1 : Int) (h1 : hS), o = (v1, h1) → ∀ w', rg v1 → Abs h1 w' → qI o (some (.int (Int32.ofInt v1)), w') := fun v1 h1 q w' r A' => by cases q; exact ⟨rfl, r, A'⟩
  unfold c174 at e
  refine hg_run 1 (pc' := 1) (ls' := [some (vr 48), some (vi l1)]) (st' := [vI l1]) rfl ?_
  rcases oi e with ⟨q1, e⟩ | ⟨q1, e⟩
  · refine hg_ifT (tgt := 19) rfl (by decide) rl1 q1 ?_
    refine hg_run 1 (pc' := 20) (ls' := [some (vr 48), some (vi l1)]) (st' := [vI 0]) rfl ?_
    cases e
    exact hg_retI rfl (by decide) (fit_B (.inl rfl)) (kr _ _ rfl _ (rgn 0 rfl) A)
  · refine hg_ifF (tgt := 19) rfl (by decide) rl1 q1 ?_
    refine hg_run 2 (pc' := 6) (ls' := [some (vr 48), some (vi l1)]) (st' := [vR 48, vI l1]) rfl ?_
    refine gs_48_4 rfl A ?_
    rcases oi e with ⟨q2, e⟩ | ⟨q2, e⟩
    · refine hg_icT (tgt := 19) rfl (by decide) rl1 (Abs_rg A 48 4) q2 ?_
      refine hg_run 1 (pc' := 20) (ls' := [some (vr 48), some (vi l1)]) (st' := [vI 0]) rfl ?_
      cases e
      exact hg_retI rfl (by decide) (fit_B (.inl rfl)) (kr _ _ rfl _ (rgn 0 rfl) A)
    · refine hg_icF (tgt := 19) rfl (by decide) rl1 (Abs_rg A 48 4) q2 ?_
      refine hg_run 1 (pc' := 13) (ls' := [some (vr 48), some (vi l1)]) (st' := [vR 48]) rfl ?_
      refine gs_48_5 rfl A ?_
      obtain ⟨b3, e3, e⟩ := ob e
      rcases oi e with ⟨q3, e⟩ | ⟨q3, e⟩
      · refine hg_nul (yes := true) (tgt := 21) (t2 := 21) rfl (fun _ _ _ _ => rfl) (by decide) (ebT e3 q3) rfl ?_
        refine hg_run 2 (pc' := 23) (ls' := [some (vr 48), some (vi l1)]) (st' := [vR 48, vR 48]) rfl ?_
        refine gs_48_3 rfl A ?_
        refine hg_run 1 (pc' := 27) (ls' := [some (vr 48), some (vi l1)]) (st' := [vI l1, vR 50, vR 48]) rfl ?_
        obtain ⟨v4, e4, e⟩ := ob e
        refine hg_aRs 7 rfl (fun _ _ _ _ => rfl) A (Abs_ks A (i := 20) rfl) rfl (by decide) e4 ?_
        obtain ⟨h5, e5, e⟩ := ob e
        refine ps_48_5 rfl A e5 (fun w5 A5 => ?_)
        refine hg_run 1 (pc' := 32) (ls' := [some (vr 48), some (vi l1)]) (st' := [vR 48]) rfl ?_
        refine gs_48_5 rfl A5 ?_
        refine hg_run 1 (pc' := 36) (ls' := [some (vr 48), some (vi l1)]) (st' := [vI 1, vR (hR h5 48 5)]) rfl ?_
        obtain ⟨h6, e6, e⟩ := ob e
        refine pd_12_1 rfl A5 (rgn 1 rfl) e6 (fun w6 A6 => ?_)
        refine hg_run 2 (pc' := 41) (ls' := [some (vr 48), some (vi l1)]) (st' := [vI 0, vR 48]) rfl ?_
        obtain ⟨h7, e7, e⟩ := ob e
        refine ps_48_6 rfl A6 (rgn 0 rfl) e7 (fun w7 A7 => ?_)
        refine hg_run 1 (pc' := 45) (ls' := [some (vr 48), some (vi l1)]) (st' := [vI 1]) rfl ?_
        cases e
        exact hg_retI rfl (by decide) (fit_B (.inr rfl)) (kr _ _ rfl _ (rgn 1 rfl) A7)
      · refine hg_nul (yes := true) (tgt := 21) (t2 := 19) rfl (fun _ _ _ _ => rfl) (by decide) (ebF e3 q3) rfl ?_
        refine hg_run 1 (pc' := 20) (ls' := [some (vr 48), some (vi l1)]) (st' := [vI 0]) rfl ?_
        cases e
        exact hg_retI rfl (by decide) (fit_B (.inl rfl)) (kr _ _ rfl _ (rgn 0 rfl) A)
def c173 (l1 : Int) (h : hS) : Option (Int × hS) :=
  (c174 l1 h).bind (fun v1 =>
  (kB v1.1).bind (fun u2 =>
  some (v1.1, v1.2)))
theorem t173 {d : Nat} (hd : 2 ≤ d) {l1 : Int} {h : hS} {w : mmW} {o : Int × hS} (A : Abs h w) (rl1 : rg l1) (e : c173 l1 h = some o) : hEv d 173 [vR 8, vI l1] w (qI o) := by
  obtain ⟨d, rfl⟩ : ∃ d1, d = d1 + 1 := ⟨d - 1, by omega⟩
  have hd : 1 ≤ d := by omega
  refine hEv_start (args := [vr 8, vi l1]) (nl := 2) rfl (Nat.le_of_ble_eq_true rfl) ?_
  show hG d 173 0 [some (vr 8), some (vi l1)] [] w _
  have kr : ∀ (v1 : Int) (h1 : hS), o = (v1, h1) → ∀ w', rg v1 → Abs h1 w' → qI o (some (.int (Int32.ofInt v1)), w') := fun v1 h1 q w' r A' => by cases q; exact ⟨rfl, r, A'⟩
  unfold c173 at e
  refine hg_run 1 (pc' := 1) (ls' := [some (vr 8), some (vi l1)]) (st' := [vR 8]) rfl ?_
  refine gs_8_6 rfl A ?_
  refine hg_run 1 (pc' := 5) (ls' := [some (vr 8), some (vi l1)]) (st' := [vI l1, vR 48]) rfl ?_
  obtain ⟨v1, e1, e⟩ := ob e
  refine hg_cI (as := [vR 48, vI l1]) (st' := []) rfl (fun _ _ _ _ => rfl) rfl rfl (Nat.le_of_ble_eq_true rfl) (Nat.le_of_ble_eq_true rfl) (recvV A (a := 6) (Abs_ks A (i := 18) rfl).1) (t174 (by omega) A rl1 e1) (fun w1 r1 A1 => ?_)
  obtain ⟨u2, e2, e⟩ := ob e
  cases e
  exact hg_retI rfl (by decide) (fit_B (kB_e e2)) (kr _ _ rfl _ r1 A1)
def c175_j15  : Option (Int) :=
  some (-1)
theorem t175_j15 {d : Nat} (hd : 0 ≤ d)  {z1 : Option hO} {h : hS} {w : mmW} {o : Int} {Q : mmO → Prop}  (A : Abs h w) (e : c175_j15  = some o) (kr : ∀ v1 : Int, o = v1 → rg v1 → Q (some (.int (Int32.ofInt v1)), w)) : hG d 175 15 [some (vr 8), z1] [] w Q := by
  unfold c175_j15 at e
  refine hg_run 2 (pc' := 31) (ls' := [some (vr 8), z1]) (st' := [vI (-1)]) rfl ?_
  cases e
  exact hg_retI rfl (by decide) (fit_I _) (kr _ rfl (rgn (-1) rfl))
def c175 (l1 : Int) (h : hS) : Option (Int) :=
  if l1 < 0 then
  c175_j15 
  else
  if l1 < (hI h 48 4) then
  (aRs h 50 6 l1).bind (fun v3 =>
  (gI h v3 26 1).bind (fun v4 =>
  some v4))
  else
  c175_j15 
theorem t175 {d : Nat} (hd : 1 ≤ d) {l1 : Int} {h : hS} {w : mmW} {o : Int} (A : Abs h w) (rl1 : rg l1) (e : c175 l1 h = some o) : hEv d 175 [vR 8, vI l1] w (qIp o w) := by
  obtain ⟨d, rfl⟩ : ∃ d1, d = d1 + 1 := ⟨d - 1, by omega⟩
  have hd : 0 ≤ d := by omega
  refine hEv_start (args := [vr 8, vi l1]) (nl := 2) rfl (Nat.le_of_ble_eq_true rfl) ?_
  show hG d 175 0 [some (vr 8), some (vi l1)] [] w _
  have kr : ∀ v1 : Int, o = v1 → rg v1 → qIp o w (some (.int (Int32.ofInt v1)), w) := fun v1 q r => by cases q; exact ⟨rfl, r⟩
  unfold c175 at e
  refine hg_run 1 (pc' := 1) (ls' := [some (vr 8), some (vi l1)]) (st' := [vI l1]) rfl ?_
  rcases oi e with ⟨q1, e⟩ | ⟨q1, e⟩
  · refine hg_ifT (tgt := 15) rfl (by decide) rl1 q1 ?_
    exact t175_j15 hd  A e kr
  · refine hg_ifF (tgt := 15) rfl (by decide) rl1 q1 ?_
    refine hg_run 2 (pc' := 6) (ls' := [some (vr 8), some (vi l1)]) (st' := [vR 8, vI l1]) rfl ?_
    refine gs_8_6 rfl A ?_
    refine gs_48_4 rfl A ?_
    rcases oi e with ⟨q2, e⟩ | ⟨q2, e⟩
    · refine hg_icT (tgt := 19) rfl (by decide) rl1 (Abs_rg A 48 4) q2 ?_
      refine hg_run 1 (pc' := 20) (ls' := [some (vr 8), some (vi l1)]) (st' := [vR 8]) rfl ?_
      refine gs_8_6 rfl A ?_
      refine gs_48_3 rfl A ?_
      refine hg_run 1 (pc' := 27) (ls' := [some (vr 8), some (vi l1)]) (st' := [vI l1, vR 50]) rfl ?_
      obtain ⟨v3, e3, e⟩ := ob e
      refine hg_aRs 7 rfl (fun _ _ _ _ => rfl) A (Abs_ks A (i := 20) rfl) rfl (by decide) e3 ?_
      obtain ⟨v4, e4, e⟩ := ob e
      refine gd_12_1 rfl A e4 (fun r4 => ?_)
      cases e
      exact hg_retI rfl (by decide) (fit_I _) (kr _ rfl r4)
    · refine hg_icF (tgt := 19) rfl (by decide) rl1 (Abs_rg A 48 4) q2 ?_
      exact t175_j15 hd  A e kr
def c176 (l1 : Int) (h : hS) : Option (Int) :=
  if l1 < 0 ∨ 2 < l1 then
  some (-1)
  else
  if l1 = 0 then
  some (hI h 48 10)
  else
  if l1 = 1 then
  some (hI h 48 11)
  else
  if l1 = 2 then
  some (hI h 48 12)
  else
  none
theorem t176 {d : Nat} (hd : 1 ≤ d) {l1 : Int} {h : hS} {w : mmW} {o : Int} (A : Abs h w) (rl1 : rg l1) (e : c176 l1 h = some o) : hEv d 176 [vR 8, vI l1] w (qIp o w) := by
  obtain ⟨d, rfl⟩ : ∃ d1, d = d1 + 1 := ⟨d - 1, by omega⟩
  have hd : 0 ≤ d := by omega
  refine hEv_start (args := [vr 8, vi l1]) (nl := 2) rfl (Nat.le_of_ble_eq_true rfl) ?_
  show hG d 176 0 [some (vr 8), some (vi l1)] [] w _
  have kr : ∀ v1 : Int, o = v1 → rg v1 → qIp o w (some (.int (Int32.ofInt v1)), w) := fun v1 q r => by cases q; exact ⟨rfl, r⟩
  unfold c176 at e
  refine hg_run 1 (pc' := 1) (ls' := [some (vr 8), some (vi l1)]) (st' := [vI l1]) rfl ?_
  rcases oi e with ⟨q1, e⟩ | ⟨q1, e⟩
  · refine hg_tsD (tgt := 52) rfl rl1 q1 (by decide) ?_
    refine hg_run 1 (pc' := 53) (ls' := [some (vr 8), some (vi l1)]) (st' := [vI (-1)]) rfl ?_
    cases e
    exact hg_retI rfl (by decide) (fit_I _) (kr _ rfl (rgn (-1) rfl))
  · rcases oi e with ⟨q2, e⟩ | ⟨q2, e⟩
    · refine hg_tsC (tgt := 28) rfl rl1 q2 (by decide) rfl (by decide) ?_
      refine hg_run 1 (pc' := 29) (ls' := [some (vr 8), some (vi l1)]) (st' := [vR 8]) rfl ?_
      refine gs_8_6 rfl A ?_
      refine gs_48_10 rfl A ?_
      cases e
      exact hg_retI rfl (by decide) (fit_I _) (kr _ rfl (Abs_rg A 48 10))
    · rcases oi e with ⟨q3, e⟩ | ⟨q3, e⟩
      · refine hg_tsC (tgt := 36) rfl rl1 q3 (by decide) rfl (by decide) ?_
        refine hg_run 1 (pc' := 37) (ls' := [some (vr 8), some (vi l1)]) (st' := [vR 8]) rfl ?_
        refine gs_8_6 rfl A ?_
        refine gs_48_11 rfl A ?_
        cases e
        exact hg_retI rfl (by decide) (fit_I _) (kr _ rfl (Abs_rg A 48 11))
      · rcases oi e with ⟨q4, e⟩ | ⟨q4, e⟩
        · refine hg_tsC (tgt := 44) rfl rl1 q4 (by decide) rfl (by decide) ?_
          refine hg_run 1 (pc' := 45) (ls' := [some (vr 8), some (vi l1)]) (st' := [vR 8]) rfl ?_
          refine gs_8_6 rfl A ?_
          refine gs_48_12 rfl A ?_
          cases e
          exact hg_retI rfl (by decide) (fit_I _) (kr _ rfl (Abs_rg A 48 12))
        · cases e
def c178 (h : hS) : Option (Int) :=
  (hnul (hR h 48 7)).bind (fun b1 =>
  if b1 = true then
  some 0
  else
  (hnul (hR h 48 8)).bind (fun b2 =>
  if b2 = true then
  some 0
  else
  (hnul (hR h 48 5)).bind (fun b3 =>
  if b3 = true then
  some 1
  else
  some 0)))
theorem t178 {d : Nat} (hd : 1 ≤ d)  {h : hS} {w : mmW} {o : Int} (A : Abs h w)  (e : c178 h = some o) : hEv d 178 [vR 48] w (qIp o w) := by
  obtain ⟨d, rfl⟩ : ∃ d1, d = d1 + 1 := ⟨d - 1, by omega⟩
  have hd : 0 ≤ d := by omega
  refine hEv_start (args := [vr 48]) (nl := 1) rfl (Nat.le_of_ble_eq_true rfl) ?_
  show hG d 178 0 [some (vr 48)] [] w _
  have kr : ∀ v1 : Int, o = v1 → rg v1 → qIp o w (some (.int (Int32.ofInt v1)), w) := fun v1 q r => by cases q; exact ⟨rfl, r⟩
  unfold c178 at e
  refine hg_run 1 (pc' := 1) (ls' := [some (vr 48)]) (st' := [vR 48]) rfl ?_
  refine gs_48_7 rfl A ?_
  obtain ⟨b1, e1, e⟩ := ob e
  rcases oi e with ⟨q1, e⟩ | ⟨q1, e⟩
  · refine hg_nul (yes := true) (tgt := 25) (t2 := 25) rfl (fun _ _ _ _ => rfl) (by decide) (ebT e1 q1) rfl ?_
    refine hg_run 1 (pc' := 26) (ls' := [some (vr 48)]) (st' := [vI 0]) rfl ?_
    cases e
    exact hg_retI rfl (by decide) (fit_B (.inl rfl)) (kr _ rfl (rgn 0 rfl))
  · refine hg_nul (yes := true) (tgt := 25) (t2 := 7) rfl (fun _ _ _ _ => rfl) (by decide) (ebF e1 q1) rfl ?_
    refine hg_run 1 (pc' := 8) (ls' := [some (vr 48)]) (st' := [vR 48]) rfl ?_
    refine gs_48_8 rfl A ?_
    obtain ⟨b2, e2, e⟩ := ob e
    rcases oi e with ⟨q2, e⟩ | ⟨q2, e⟩
    · refine hg_nul (yes := true) (tgt := 25) (t2 := 25) rfl (fun _ _ _ _ => rfl) (by decide) (ebT e2 q2) rfl ?_
      refine hg_run 1 (pc' := 26) (ls' := [some (vr 48)]) (st' := [vI 0]) rfl ?_
      cases e
      exact hg_retI rfl (by decide) (fit_B (.inl rfl)) (kr _ rfl (rgn 0 rfl))
    · refine hg_nul (yes := true) (tgt := 25) (t2 := 14) rfl (fun _ _ _ _ => rfl) (by decide) (ebF e2 q2) rfl ?_
      refine hg_run 1 (pc' := 15) (ls' := [some (vr 48)]) (st' := [vR 48]) rfl ?_
      refine gs_48_5 rfl A ?_
      obtain ⟨b3, e3, e⟩ := ob e
      rcases oi e with ⟨q3, e⟩ | ⟨q3, e⟩
      · refine hg_nul (yes := false) (tgt := 25) (t2 := 21) rfl (fun _ _ _ _ => rfl) (by decide) (ebT e3 q3) rfl ?_
        refine hg_run 2 (pc' := 26) (ls' := [some (vr 48)]) (st' := [vI 1]) rfl ?_
        cases e
        exact hg_retI rfl (by decide) (fit_B (.inr rfl)) (kr _ rfl (rgn 1 rfl))
      · refine hg_nul (yes := false) (tgt := 25) (t2 := 25) rfl (fun _ _ _ _ => rfl) (by decide) (ebF e3 q3) rfl ?_
        refine hg_run 1 (pc' := 26) (ls' := [some (vr 48)]) (st' := [vI 0]) rfl ?_
        cases e
        exact hg_retI rfl (by decide) (fit_B (.inl rfl)) (kr _ rfl (rgn 0 rfl))
def c180_j75 (l6 : Int) (h : hS) : Option ((Int × hS) ⊕ (hS)) :=
  some (.inl ((wadd l6 1), h))
set_option maxRecDepth 100000 in
theorem t180_j75 {d : Nat} (hd : 3 ≤ d) {l6 : Int} {l1 : Nat} {l2 : Nat} {l3 : Nat} {l4 : Nat} {l5 : Nat} {z7 : Option hO} {h : hS} {w : mmW} {o : (Int × hS) ⊕ (hS)} {Q : mmO → Prop} (rl6 : rg l6) (A : Abs h w) (e : c180_j75 l6 h = some o) (kb : ∀ (s_0 : Int) (s_1 : hS), o = .inl (s_0, s_1) → ∀ w', ∀ (y7 : Option hO), rg s_0 → Abs s_1 w' → hG d 180 32 [some (vr 48), some (vr l1), some (vr l2), some (vr l3), some (vr l4), some (vr l5), some (vi s_0), y7] [] w' Q) (ke : ∀ (x_0 : hS), o = .inr (x_0) → ∀ w', ∀ (y6 y7 : Option hO), Abs x_0 w' → hG d 180 81 [some (vr 48), some (vr l1), some (vr l2), some (vr l3), some (vr l4), some (vr l5), y6, y7] [] w' Q) : hG d 180 75 [some (vr 48), some (vr l1), some (vr l2), some (vr l3), some (vr l4), some (vr l5), some (vi l6), z7] [] w Q := by
  unfold c180_j75 at e
  refine hg_run 2 (pc' := 32) (ls' := [some (vr 48), some (vr l1), some (vr l2), some (vr l3), some (vr l4), some (vr l5), some (vi (wadd l6 1)), z7]) (st' := []) rfl ?_
  cases e
  exact kb (wadd l6 1) h rfl _ _ (rg_add _ _) A
def c180_b32 (l3 : Nat) (l4 : Nat) (l5 : Nat) (l6 : Int) (h : hS) : Option ((Int × hS) ⊕ (hS)) :=
  (gI h l5 24 4).bind (fun v7 =>
  if v7 ≤ l6 then
  some (.inr (h))
  else
  (kT h l4 18).bind (fun u10 =>
  (c158 l4 l5 l6 l3 h).bind (fun v9 =>
  if v9 = (-1) then
  c180_j75 l6 h
  else
  (gR h l5 24 5).bind (fun v12 =>
  (aI h v12 1 l6).bind (fun v13 =>
  (wIs h 52 40 v9 v13).bind (fun h14 =>
  c180_j75 l6 h14))))))
set_option maxRecDepth 100000 in
theorem t180_b32 {d : Nat} (hd : 3 ≤ d) {l3 : Nat} {l4 : Nat} {l5 : Nat} {l6 : Int} {l1 : Nat} {l2 : Nat} {z7 : Option hO} {h : hS} {w : mmW} {o : (Int × hS) ⊕ (hS)} {Q : mmO → Prop} (rl6 : rg l6) (A : Abs h w) (e : c180_b32 l3 l4 l5 l6 h = some o) (kb : ∀ (s_0 : Int) (s_1 : hS), o = .inl (s_0, s_1) → ∀ w', ∀ (y7 : Option hO), rg s_0 → Abs s_1 w' → hG d 180 32 [some (vr 48), some (vr l1), some (vr l2), some (vr l3), some (vr l4), some (vr l5), some (vi s_0), y7] [] w' Q) (ke : ∀ (x_0 : hS), o = .inr (x_0) → ∀ w', ∀ (y6 y7 : Option hO), Abs x_0 w' → hG d 180 81 [some (vr 48), some (vr l1), some (vr l2), some (vr l3), some (vr l4), some (vr l5), y6, y7] [] w' Q) : hG d 180 32 [some (vr 48), some (vr l1), some (vr l2), some (vr l3), some (vr l4), some (vr l5), some (vi l6), z7] [] w Q := by
  unfold c180_b32 at e
  refine hg_run 2 (pc' := 36) (ls' := [some (vr 48), some (vr l1), some (vr l2), some (vr l3), some (vr l4), some (vr l5), some (vi l6), z7]) (st' := [vR l5, vI l6]) rfl ?_
  obtain ⟨v7, e7, e⟩ := ob e
  refine gd_11_4 rfl A e7 (fun r7 => ?_)
  rcases oi e with ⟨q8, e⟩ | ⟨q8, e⟩
  · refine hg_icT (tgt := 81) rfl (by decide) rl6 r7 q8 ?_
    cases e
    exact ke h rfl _ _ _  A
  · refine hg_icF (tgt := 81) rfl (by decide) rl6 r7 q8 ?_
    refine hg_run 4 (pc' := 49) (ls' := [some (vr 48), some (vr l1), some (vr l2), some (vr l3), some (vr l4), some (vr l5), some (vi l6), z7]) (st' := [vR l3, vI l6, vR l5, vR l4]) rfl ?_
    obtain ⟨u10, e10, e⟩ := ob e
    obtain ⟨v9, e9, e⟩ := ob e
    refine hg_cIp (as := [vR l4, vR l5, vI l6, vR l3]) (st' := []) rfl (fun _ _ _ _ => rfl) rfl rfl (Nat.le_of_ble_eq_true rfl) (Nat.le_of_ble_eq_true rfl) (recvV A (a := 8) (kT_e e10)) (t158 (by omega) A rl6 e9) (fun r9 => ?_)
    refine hg_run 3 (pc' := 57) (ls' := [some (vr 48), some (vr l1), some (vr l2), some (vr l3), some (vr l4), some (vr l5), some (vi l6), some (vi v9)]) (st' := [vI (-1), vI v9]) rfl ?_
    rcases oi e with ⟨q11, e⟩ | ⟨q11, e⟩
    · refine hg_icT (tgt := 75) rfl (by decide) r9 (rgn (-1) rfl) q11 ?_
      exact t180_j75 hd rl6 A e kb ke
    · refine hg_icF (tgt := 75) rfl (by decide) r9 (rgn (-1) rfl) q11 ?_
      refine hg_run 1 (pc' := 61) (ls' := [some (vr 48), some (vr l1), some (vr l2), some (vr l3), some (vr l4), some (vr l5), some (vi l6), some (vi v9)]) (st' := [vR 48]) rfl ?_
      refine gs_48_14 rfl A ?_
      refine hg_run 2 (pc' := 68) (ls' := [some (vr 48), some (vr l1), some (vr l2), some (vr l3), some (vr l4), some (vr l5), some (vi l6), some (vi v9)]) (st' := [vR l5, vI v9, vR 52]) rfl ?_
      obtain ⟨v12, e12, e⟩ := ob e
      refine gd_11_5 rfl A e12 ?_
      refine hg_run 1 (pc' := 73) (ls' := [some (vr 48), some (vr l1), some (vr l2), some (vr l3), some (vr l4), some (vr l5), some (vi l6), some (vi v9)]) (st' := [vI l6, vR v12, vI v9, vR 52]) rfl ?_
      obtain ⟨v13, e13, e⟩ := ob e
      refine hg_aId 0 rfl (fun _ _ _ _ => rfl) A rfl (by decide) e13 (fun r13 => ?_)
      obtain ⟨h14, e14, e⟩ := ob e
      refine hg_wIs rfl A (Abs_ks A (i := 22) rfl) (by decide) r13 e14 (fun w14 A14 => ?_)
      exact t180_j75 hd rl6 A14 e kb ke
set_option maxRecDepth 100000 in
theorem t180_l32 {d : Nat} (hd : 3 ≤ d) {l3 : Nat} {l4 : Nat} {l5 : Nat} {l1 : Nat} {l2 : Nat} {Q : mmO → Prop}  (n : Nat) {l6 : Int} {z7 : Option hO} {h : hS} {w : mmW} {r : hS} (rl6 : rg l6) (A : Abs h w) (e : lp (fun s => c180_b32 l3 l4 l5 s.1 s.2) n (l6, h) = some r) (ke : ∀ (x_0 : hS), r = (x_0) → ∀ w', ∀ (y6 y7 : Option hO), Abs x_0 w' → hG d 180 81 [some (vr 48), some (vr l1), some (vr l2), some (vr l3), some (vr l4), some (vr l5), y6, y7] [] w' Q) : hG d 180 32 [some (vr 48), some (vr l1), some (vr l2), some (vr l3), some (vr l4), some (vr l5), some (vi l6), z7] [] w Q := by
  induction n generalizing l6 z7 h w with
  | zero => cases e
  | succ n ih =>
    rcases lp_succ e with ⟨s1, e1, e2⟩ | e1
    · exact t180_b32 hd rl6 A e1 (fun s_0 s_1 q w1 y7 rl6 A1 => by cases q; exact ih rl6 A1 e2) (fun x_0 q => by cases q)
    · exact t180_b32 hd rl6 A e1 (fun s_0 s_1 q => by cases q) (fun x_0 q => by cases q; exact ke _ rfl)
def c180_b24 (l3 : Nat) (l4 : Nat) (l5 : Nat) (h : hS) : Option ((Nat × hS) ⊕ (hS)) :=
  (hnul l5).bind (fun b6 =>
  if b6 = true then
  some (.inr (h))
  else
  (lp (fun s => c180_b32 l3 l4 l5 s.1 s.2) hF0 (0, h)).bind (fun r15 =>
  (gR r15 l5 24 1).bind (fun v16 =>
  some (.inl (v16, r15)))))
set_option maxRecDepth 100000 in
theorem t180_b24 {d : Nat} (hd : 3 ≤ d) {l3 : Nat} {l4 : Nat} {l5 : Nat} {l1 : Nat} {l2 : Nat} {z6 : Option hO} {z7 : Option hO} {h : hS} {w : mmW} {o : (Nat × hS) ⊕ (hS)} {Q : mmO → Prop}  (A : Abs h w) (e : c180_b24 l3 l4 l5 h = some o) (kb : ∀ (s_0 : Nat) (s_1 : hS), o = .inl (s_0, s_1) → ∀ w', ∀ (y6 y7 : Option hO), Abs s_1 w' → hG d 180 24 [some (vr 48), some (vr l1), some (vr l2), some (vr l3), some (vr l4), some (vr s_0), y6, y7] [] w' Q) (ke : ∀ (x_0 : hS), o = .inr (x_0) → ∀ w', ∀ (y5 y6 y7 : Option hO), Abs x_0 w' → hG d 180 91 [some (vr 48), some (vr l1), some (vr l2), some (vr l3), some (vr l4), y5, y6, y7] [] w' Q) : hG d 180 24 [some (vr 48), some (vr l1), some (vr l2), some (vr l3), some (vr l4), some (vr l5), z6, z7] [] w Q := by
  unfold c180_b24 at e
  refine hg_run 1 (pc' := 26) (ls' := [some (vr 48), some (vr l1), some (vr l2), some (vr l3), some (vr l4), some (vr l5), z6, z7]) (st' := [vR l5]) rfl ?_
  obtain ⟨b6, e6, e⟩ := ob e
  rcases oi e with ⟨q6, e⟩ | ⟨q6, e⟩
  · refine hg_nul (yes := true) (tgt := 91) (t2 := 91) rfl (fun _ _ _ _ => rfl) (by decide) (ebT e6 q6) rfl ?_
    cases e
    exact ke h rfl _ _ _ _  A
  · refine hg_nul (yes := true) (tgt := 91) (t2 := 29) rfl (fun _ _ _ _ => rfl) (by decide) (ebF e6 q6) rfl ?_
    refine hg_run 2 (pc' := 32) (ls' := [some (vr 48), some (vr l1), some (vr l2), some (vr l3), some (vr l4), some (vr l5), some (vi 0), z7]) (st' := []) rfl ?_
    obtain ⟨r15, e15, e⟩ := ob e
    refine t180_l32 hd  _ (rgn 0 rfl) A e15 ?_
    intro x15_0 qq15 w15 z15_6 z15_7 A15
    subst qq15
    refine hg_run 1 (pc' := 83) (ls' := [some (vr 48), some (vr l1), some (vr l2), some (vr l3), some (vr l4), some (vr l5), z15_6, z15_7]) (st' := [vR l5]) rfl ?_
    obtain ⟨v16, e16, e⟩ := ob e
    refine gd_11_1 rfl A15 e16 ?_
    refine hg_run 2 (pc' := 24) (ls' := [some (vr 48), some (vr l1), some (vr l2), some (vr l3), some (vr l4), some (vr v16), z15_6, z15_7]) (st' := []) rfl ?_
    cases e
    exact kb v16 r15 rfl _ _ _  A15
set_option maxRecDepth 100000 in
theorem t180_l24 {d : Nat} (hd : 3 ≤ d) {l3 : Nat} {l4 : Nat} {l1 : Nat} {l2 : Nat} {Q : mmO → Prop}  (n : Nat) {l5 : Nat} {z6 z7 : Option hO} {h : hS} {w : mmW} {r : hS}  (A : Abs h w) (e : lp (fun s => c180_b24 l3 l4 s.1 s.2) n (l5, h) = some r) (ke : ∀ (x_0 : hS), r = (x_0) → ∀ w', ∀ (y5 y6 y7 : Option hO), Abs x_0 w' → hG d 180 91 [some (vr 48), some (vr l1), some (vr l2), some (vr l3), some (vr l4), y5, y6, y7] [] w' Q) : hG d 180 24 [some (vr 48), some (vr l1), some (vr l2), some (vr l3), some (vr l4), some (vr l5), z6, z7] [] w Q := by
  induction n generalizing l5 z6 z7 h w with
  | zero => cases e
  | succ n ih =>
    rcases lp_succ e with ⟨s1, e1, e2⟩ | e1
    · exact t180_b24 hd  A e1 (fun s_0 s_1 q w1 y6 y7 A1 => by cases q; exact ih  A1 e2) (fun x_0 q => by cases q)
    · exact t180_b24 hd  A e1 (fun s_0 s_1 q => by cases q) (fun x_0 q => by cases q; exact ke _ rfl)
def c180_j190 (l6 : Int) (h : hS) : Option ((Int × hS) ⊕ (hS)) :=
  some (.inl ((wadd l6 1), h))
set_option maxRecDepth 100000 in
theorem t180_j190 {d : Nat} (hd : 3 ≤ d) {l6 : Int} {l1 : Nat} {l2 : Nat} {z3 : Option hO} {z4 : Option hO} {l5 : Nat} {z7 : Option hO} {h : hS} {w : mmW} {o : (Int × hS) ⊕ (hS)} {Q : mmO → Prop} (rl6 : rg l6) (A : Abs h w) (e : c180_j190 l6 h = some o) (kb : ∀ (s_0 : Int) (s_1 : hS), o = .inl (s_0, s_1) → ∀ w', ∀ (y7 : Option hO), rg s_0 → Abs s_1 w' → hG d 180 102 [some (vr 48), some (vr l1), some (vr l2), z3, z4, some (vr l5), some (vi s_0), y7] [] w' Q) (ke : ∀ (x_0 : hS), o = .inr (x_0) → ∀ w', ∀ (y6 y7 : Option hO), Abs x_0 w' → hG d 180 196 [some (vr 48), some (vr l1), some (vr l2), z3, z4, some (vr l5), y6, y7] [] w' Q) : hG d 180 190 [some (vr 48), some (vr l1), some (vr l2), z3, z4, some (vr l5), some (vi l6), z7] [] w Q := by
  unfold c180_j190 at e
  refine hg_run 2 (pc' := 102) (ls' := [some (vr 48), some (vr l1), some (vr l2), z3, z4, some (vr l5), some (vi (wadd l6 1)), z7]) (st' := []) rfl ?_
  cases e
  exact kb (wadd l6 1) h rfl _ _ (rg_add _ _) A
def c180_j189 (s0 : Nat) (s1 : Int) (s2 : Int) (l6 : Int) (h : hS) : Option ((Int × hS) ⊕ (hS)) :=
  (wI h s0 1 s1 s2).bind (fun h31 =>
  c180_j190 l6 h31)
set_option maxRecDepth 100000 in
theorem t180_j189 {d : Nat} (hd : 3 ≤ d) {s0 : Nat} {s1 : Int} {s2 : Int} {l6 : Int} {l1 : Nat} {l2 : Nat} {z3 : Option hO} {z4 : Option hO} {l5 : Nat} {z7 : Option hO} {h : hS} {w : mmW} {o : (Int × hS) ⊕ (hS)} {Q : mmO → Prop} (rs1 : rg s1) (rs2 : rg s2) (rl6 : rg l6) (A : Abs h w) (e : c180_j189 s0 s1 s2 l6 h = some o) (kb : ∀ (s_0 : Int) (s_1 : hS), o = .inl (s_0, s_1) → ∀ w', ∀ (y7 : Option hO), rg s_0 → Abs s_1 w' → hG d 180 102 [some (vr 48), some (vr l1), some (vr l2), z3, z4, some (vr l5), some (vi s_0), y7] [] w' Q) (ke : ∀ (x_0 : hS), o = .inr (x_0) → ∀ w', ∀ (y6 y7 : Option hO), Abs x_0 w' → hG d 180 196 [some (vr 48), some (vr l1), some (vr l2), z3, z4, some (vr l5), y6, y7] [] w' Q) : hG d 180 189 [some (vr 48), some (vr l1), some (vr l2), z3, z4, some (vr l5), some (vi l6), z7] [vI s2, vI s1, vR s0] w Q := by
  unfold c180_j189 at e
  obtain ⟨h31, e31, e⟩ := ob e
  refine hg_wId rfl A rs2 e31 (fun w31 A31 => ?_)
  exact t180_j190 hd rl6 A31 e kb ke
def c180_b102 (l1 : Nat) (l2 : Nat) (l5 : Nat) (l6 : Int) (h : hS) : Option ((Int × hS) ⊕ (hS)) :=
  (gI h l5 24 4).bind (fun v19 =>
  if v19 ≤ l6 then
  some (.inr (h))
  else
  (gR h l5 24 5).bind (fun v21 =>
  (aI h v21 1 l6).bind (fun v22 =>
  (aIs h 52 40 v22).bind (fun v23 =>
  if v23 = (-1) then
  (gR h l2 16 3).bind (fun v25 =>
  (gR h l1 16 4).bind (fun v26 =>
  (aI h v26 3 v22).bind (fun v27 =>
  if v27 = 0 then
  (gR h l5 24 6).bind (fun v29 =>
  (aI h v29 1 l6).bind (fun v30 =>
  c180_j189 v25 v22 v30 l6 h))
  else
  (gR h l1 16 5).bind (fun v32 =>
  (aI h v32 1 v22).bind (fun v33 =>
  c180_j189 v25 v22 v33 l6 h)))))
  else
  (gR h l2 16 3).bind (fun v34 =>
  (gR h l1 16 3).bind (fun v35 =>
  (aIs h 52 40 v22).bind (fun v36 =>
  (aI h v35 1 v36).bind (fun v37 =>
  (wI h v34 1 v22 v37).bind (fun h38 =>
  c180_j190 l6 h38)))))))))
set_option maxRecDepth 100000 in
theorem t180_b102 {d : Nat} (hd : 3 ≤ d) {l1 : Nat} {l2 : Nat} {l5 : Nat} {l6 : Int} {z3 : Option hO} {z4 : Option hO} {z7 : Option hO} {h : hS} {w : mmW} {o : (Int × hS) ⊕ (hS)} {Q : mmO → Prop} (rl6 : rg l6) (A : Abs h w) (e : c180_b102 l1 l2 l5 l6 h = some o) (kb : ∀ (s_0 : Int) (s_1 : hS), o = .inl (s_0, s_1) → ∀ w', ∀ (y7 : Option hO), rg s_0 → Abs s_1 w' → hG d 180 102 [some (vr 48), some (vr l1), some (vr l2), z3, z4, some (vr l5), some (vi s_0), y7] [] w' Q) (ke : ∀ (x_0 : hS), o = .inr (x_0) → ∀ w', ∀ (y6 y7 : Option hO), Abs x_0 w' → hG d 180 196 [some (vr 48), some (vr l1), some (vr l2), z3, z4, some (vr l5), y6, y7] [] w' Q) : hG d 180 102 [some (vr 48), some (vr l1), some (vr l2), z3, z4, some (vr l5), some (vi l6), z7] [] w Q := by
  unfold c180_b102 at e
  refine hg_run 2 (pc' := 106) (ls' := [some (vr 48), some (vr l1), some (vr l2), z3, z4, some (vr l5), some (vi l6), z7]) (st' := [vR l5, vI l6]) rfl ?_
  obtain ⟨v19, e19, e⟩ := ob e
  refine gd_11_4 rfl A e19 (fun r19 => ?_)
  rcases oi e with ⟨q20, e⟩ | ⟨q20, e⟩
  · refine hg_icT (tgt := 196) rfl (by decide) rl6 r19 q20 ?_
    cases e
    exact ke h rfl _ _ _  A
  · refine hg_icF (tgt := 196) rfl (by decide) rl6 r19 q20 ?_
    refine hg_run 1 (pc' := 114) (ls' := [some (vr 48), some (vr l1), some (vr l2), z3, z4, some (vr l5), some (vi l6), z7]) (st' := [vR l5]) rfl ?_
    obtain ⟨v21, e21, e⟩ := ob e
    refine gd_11_5 rfl A e21 ?_
    refine hg_run 1 (pc' := 119) (ls' := [some (vr 48), some (vr l1), some (vr l2), z3, z4, some (vr l5), some (vi l6), z7]) (st' := [vI l6, vR v21]) rfl ?_
    obtain ⟨v22, e22, e⟩ := ob e
    refine hg_aId 0 rfl (fun _ _ _ _ => rfl) A rfl (by decide) e22 (fun r22 => ?_)
    refine hg_run 2 (pc' := 123) (ls' := [some (vr 48), some (vr l1), some (vr l2), z3, z4, some (vr l5), some (vi l6), some (vi v22)]) (st' := [vR 48]) rfl ?_
    refine gs_48_14 rfl A ?_
    refine hg_run 1 (pc' := 128) (ls' := [some (vr 48), some (vr l1), some (vr l2), z3, z4, some (vr l5), some (vi l6), some (vi v22)]) (st' := [vI v22, vR 52]) rfl ?_
    obtain ⟨v23, e23, e⟩ := ob e
    refine hg_aIs 0 rfl (fun _ _ _ _ => rfl) A (Abs_ks A (i := 22) rfl) rfl (by decide) e23 (fun r23 => ?_)
    refine hg_run 1 (pc' := 130) (ls' := [some (vr 48), some (vr l1), some (vr l2), z3, z4, some (vr l5), some (vi l6), some (vi v22)]) (st' := [vI (-1), vI v23]) rfl ?_
    rcases oi e with ⟨q24, e⟩ | ⟨q24, e⟩
    · refine hg_icT (tgt := 155) rfl (by decide) r23 (rgn (-1) rfl) q24 ?_
      refine hg_run 1 (pc' := 156) (ls' := [some (vr 48), some (vr l1), some (vr l2), z3, z4, some (vr l5), some (vi l6), some (vi v22)]) (st' := [vR l2]) rfl ?_
      obtain ⟨v25, e25, e⟩ := ob e
      refine gd_7_3 rfl A e25 ?_
      refine hg_run 2 (pc' := 162) (ls' := [some (vr 48), some (vr l1), some (vr l2), z3, z4, some (vr l5), some (vi l6), some (vi v22)]) (st' := [vR l1, vI v22, vR v25]) rfl ?_
      obtain ⟨v26, e26, e⟩ := ob e
      refine gd_7_4 rfl A e26 ?_
      refine hg_run 1 (pc' := 167) (ls' := [some (vr 48), some (vr l1), some (vr l2), z3, z4, some (vr l5), some (vi l6), some (vi v22)]) (st' := [vI v22, vR v26, vI v22, vR v25]) rfl ?_
      obtain ⟨v27, e27, e⟩ := ob e
      refine hg_aId 1 rfl (fun _ _ _ _ => rfl) A rfl (by decide) e27 (fun r27 => ?_)
      rcases oi e with ⟨q28, e⟩ | ⟨q28, e⟩
      · refine hg_ifT (tgt := 181) rfl (by decide) r27 q28 ?_
        refine hg_run 1 (pc' := 183) (ls' := [some (vr 48), some (vr l1), some (vr l2), z3, z4, some (vr l5), some (vi l6), some (vi v22)]) (st' := [vR l5, vI v22, vR v25]) rfl ?_
        obtain ⟨v29, e29, e⟩ := ob e
        refine gd_11_6 rfl A e29 ?_
        refine hg_run 1 (pc' := 188) (ls' := [some (vr 48), some (vr l1), some (vr l2), z3, z4, some (vr l5), some (vi l6), some (vi v22)]) (st' := [vI l6, vR v29, vI v22, vR v25]) rfl ?_
        obtain ⟨v30, e30, e⟩ := ob e
        refine hg_aId 0 rfl (fun _ _ _ _ => rfl) A rfl (by decide) e30 (fun r30 => ?_)
        exact t180_j189 hd r22 r30 rl6 A e kb ke
      · refine hg_ifF (tgt := 181) rfl (by decide) r27 q28 ?_
        refine hg_run 1 (pc' := 172) (ls' := [some (vr 48), some (vr l1), some (vr l2), z3, z4, some (vr l5), some (vi l6), some (vi v22)]) (st' := [vR l1, vI v22, vR v25]) rfl ?_
        obtain ⟨v32, e32, e⟩ := ob e
        refine gd_7_5 rfl A e32 ?_
        refine hg_run 1 (pc' := 177) (ls' := [some (vr 48), some (vr l1), some (vr l2), z3, z4, some (vr l5), some (vi l6), some (vi v22)]) (st' := [vI v22, vR v32, vI v22, vR v25]) rfl ?_
        obtain ⟨v33, e33, e⟩ := ob e
        refine hg_aId 0 rfl (fun _ _ _ _ => rfl) A rfl (by decide) e33 (fun r33 => ?_)
        refine hg_run 1 (pc' := 189) (ls' := [some (vr 48), some (vr l1), some (vr l2), z3, z4, some (vr l5), some (vi l6), some (vi v22)]) (st' := [vI v33, vI v22, vR v25]) rfl ?_
        exact t180_j189 hd r22 r33 rl6 A e kb ke
    · refine hg_icF (tgt := 155) rfl (by decide) r23 (rgn (-1) rfl) q24 ?_
      refine hg_run 1 (pc' := 134) (ls' := [some (vr 48), some (vr l1), some (vr l2), z3, z4, some (vr l5), some (vi l6), some (vi v22)]) (st' := [vR l2]) rfl ?_
      obtain ⟨v34, e34, e⟩ := ob e
      refine gd_7_3 rfl A e34 ?_
      refine hg_run 2 (pc' := 140) (ls' := [some (vr 48), some (vr l1), some (vr l2), z3, z4, some (vr l5), some (vi l6), some (vi v22)]) (st' := [vR l1, vI v22, vR v34]) rfl ?_
      obtain ⟨v35, e35, e⟩ := ob e
      refine gd_7_3 rfl A e35 ?_
      refine hg_run 1 (pc' := 144) (ls' := [some (vr 48), some (vr l1), some (vr l2), z3, z4, some (vr l5), some (vi l6), some (vi v22)]) (st' := [vR 48, vR v35, vI v22, vR v34]) rfl ?_
      refine gs_48_14 rfl A ?_
      refine hg_run 1 (pc' := 149) (ls' := [some (vr 48), some (vr l1), some (vr l2), z3, z4, some (vr l5), some (vi l6), some (vi v22)]) (st' := [vI v22, vR 52, vR v35, vI v22, vR v34]) rfl ?_
      obtain ⟨v36, e36, e⟩ := ob e
      refine hg_aIs 0 rfl (fun _ _ _ _ => rfl) A (Abs_ks A (i := 22) rfl) rfl (by decide) e36 (fun r36 => ?_)
      obtain ⟨v37, e37, e⟩ := ob e
      refine hg_aId 0 rfl (fun _ _ _ _ => rfl) A rfl (by decide) e37 (fun r37 => ?_)
      obtain ⟨h38, e38, e⟩ := ob e
      refine hg_wId rfl A r37 e38 (fun w38 A38 => ?_)
      refine hg_run 1 (pc' := 190) (ls' := [some (vr 48), some (vr l1), some (vr l2), z3, z4, some (vr l5), some (vi l6), some (vi v22)]) (st' := []) rfl ?_
      exact t180_j190 hd rl6 A38 e kb ke
set_option maxRecDepth 100000 in
theorem t180_l102 {d : Nat} (hd : 3 ≤ d) {l1 : Nat} {l2 : Nat} {l5 : Nat} {z3 : Option hO} {z4 : Option hO} {Q : mmO → Prop}  (n : Nat) {l6 : Int} {z7 : Option hO} {h : hS} {w : mmW} {r : hS} (rl6 : rg l6) (A : Abs h w) (e : lp (fun s => c180_b102 l1 l2 l5 s.1 s.2) n (l6, h) = some r) (ke : ∀ (x_0 : hS), r = (x_0) → ∀ w', ∀ (y6 y7 : Option hO), Abs x_0 w' → hG d 180 196 [some (vr 48), some (vr l1), some (vr l2), z3, z4, some (vr l5), y6, y7] [] w' Q) : hG d 180 102 [some (vr 48), some (vr l1), some (vr l2), z3, z4, some (vr l5), some (vi l6), z7] [] w Q := by
  induction n generalizing l6 z7 h w with
  | zero => cases e
  | succ n ih =>
    rcases lp_succ e with ⟨s1, e1, e2⟩ | e1
    · exact t180_b102 hd rl6 A e1 (fun s_0 s_1 q w1 y7 rl6 A1 => by cases q; exact ih rl6 A1 e2) (fun x_0 q => by cases q)
    · exact t180_b102 hd rl6 A e1 (fun s_0 s_1 q => by cases q) (fun x_0 q => by cases q; exact ke _ rfl)
def c180_b94 (l1 : Nat) (l2 : Nat) (l5 : Nat) (h : hS) : Option ((Nat × hS) ⊕ (hS)) :=
  (hnul l5).bind (fun b18 =>
  if b18 = true then
  some (.inr (h))
  else
  (lp (fun s => c180_b102 l1 l2 l5 s.1 s.2) hF0 (0, h)).bind (fun r39 =>
  (gR r39 l5 24 1).bind (fun v40 =>
  some (.inl (v40, r39)))))
set_option maxRecDepth 100000 in
theorem t180_b94 {d : Nat} (hd : 3 ≤ d) {l1 : Nat} {l2 : Nat} {l5 : Nat} {z3 : Option hO} {z4 : Option hO} {z6 : Option hO} {z7 : Option hO} {h : hS} {w : mmW} {o : (Nat × hS) ⊕ (hS)} {Q : mmO → Prop}  (A : Abs h w) (e : c180_b94 l1 l2 l5 h = some o) (kb : ∀ (s_0 : Nat) (s_1 : hS), o = .inl (s_0, s_1) → ∀ w', ∀ (y6 y7 : Option hO), Abs s_1 w' → hG d 180 94 [some (vr 48), some (vr l1), some (vr l2), z3, z4, some (vr s_0), y6, y7] [] w' Q) (ke : ∀ (x_0 : hS), o = .inr (x_0) → ∀ w', ∀ (y5 y6 y7 : Option hO), Abs x_0 w' → hG d 180 206 [some (vr 48), some (vr l1), some (vr l2), z3, z4, y5, y6, y7] [] w' Q) : hG d 180 94 [some (vr 48), some (vr l1), some (vr l2), z3, z4, some (vr l5), z6, z7] [] w Q := by
  unfold c180_b94 at e
  refine hg_run 1 (pc' := 96) (ls' := [some (vr 48), some (vr l1), some (vr l2), z3, z4, some (vr l5), z6, z7]) (st' := [vR l5]) rfl ?_
  obtain ⟨b18, e18, e⟩ := ob e
  rcases oi e with ⟨q18, e⟩ | ⟨q18, e⟩
  · refine hg_nul (yes := true) (tgt := 206) (t2 := 206) rfl (fun _ _ _ _ => rfl) (by decide) (ebT e18 q18) rfl ?_
    cases e
    exact ke h rfl _ _ _ _  A
  · refine hg_nul (yes := true) (tgt := 206) (t2 := 99) rfl (fun _ _ _ _ => rfl) (by decide) (ebF e18 q18) rfl ?_
    refine hg_run 2 (pc' := 102) (ls' := [some (vr 48), some (vr l1), some (vr l2), z3, z4, some (vr l5), some (vi 0), z7]) (st' := []) rfl ?_
    obtain ⟨r39, e39, e⟩ := ob e
    refine t180_l102 hd  _ (rgn 0 rfl) A e39 ?_
    intro x39_0 qq39 w39 z39_6 z39_7 A39
    subst qq39
    refine hg_run 1 (pc' := 198) (ls' := [some (vr 48), some (vr l1), some (vr l2), z3, z4, some (vr l5), z39_6, z39_7]) (st' := [vR l5]) rfl ?_
    obtain ⟨v40, e40, e⟩ := ob e
    refine gd_11_1 rfl A39 e40 ?_
    refine hg_run 2 (pc' := 94) (ls' := [some (vr 48), some (vr l1), some (vr l2), z3, z4, some (vr v40), z39_6, z39_7]) (st' := []) rfl ?_
    cases e
    exact kb v40 r39 rfl _ _ _  A39
set_option maxRecDepth 100000 in
theorem t180_l94 {d : Nat} (hd : 3 ≤ d) {l1 : Nat} {l2 : Nat} {z3 : Option hO} {z4 : Option hO} {Q : mmO → Prop}  (n : Nat) {l5 : Nat} {z6 z7 : Option hO} {h : hS} {w : mmW} {r : hS}  (A : Abs h w) (e : lp (fun s => c180_b94 l1 l2 s.1 s.2) n (l5, h) = some r) (ke : ∀ (x_0 : hS), r = (x_0) → ∀ w', ∀ (y5 y6 y7 : Option hO), Abs x_0 w' → hG d 180 206 [some (vr 48), some (vr l1), some (vr l2), z3, z4, y5, y6, y7] [] w' Q) : hG d 180 94 [some (vr 48), some (vr l1), some (vr l2), z3, z4, some (vr l5), z6, z7] [] w Q := by
  induction n generalizing l5 z6 z7 h w with
  | zero => cases e
  | succ n ih =>
    rcases lp_succ e with ⟨s1, e1, e2⟩ | e1
    · exact t180_b94 hd  A e1 (fun s_0 s_1 q w1 y6 y7 A1 => by cases q; exact ih  A1 e2) (fun x_0 q => by cases q)
    · exact t180_b94 hd  A e1 (fun s_0 s_1 q => by cases q) (fun x_0 q => by cases q; exact ke _ rfl)
def c180 (l1 : Nat) (l2 : Nat) (l3 : Nat) (l4 : Nat) (h : hS) : Option (hS) :=
  (kT h l2 16).bind (fun u2 =>
  (c154 l2 l1 h).bind (fun h1 =>
  (pR h1 l2 16 2 l3).bind (fun h3 =>
  (c156 52 (-1) h3).bind (fun h4 =>
  (gR h4 l1 16 2).bind (fun v5 =>
  (lp (fun s => c180_b24 l3 l4 s.1 s.2) hF0 (v5, h4)).bind (fun r17 =>
  (lp (fun s => c180_b94 l1 l2 s.1 s.2) hF0 (l3, r17)).bind (fun r41 =>
  (kT r41 l1 16).bind (fun u43 =>
  (c154 l1 l2 r41).bind (fun h42 =>
  some h42)))))))))
set_option maxRecDepth 100000 in
theorem t180 {d : Nat} (hd : 4 ≤ d) {l1 : Nat} {l2 : Nat} {l3 : Nat} {l4 : Nat} {h : hS} {w : mmW} {o : hS} (A : Abs h w)  (e : c180 l1 l2 l3 l4 h = some o) : hEv d 180 [vR 48, vR l1, vR l2, vR l3, vR l4] w (qV o) := by
  obtain ⟨d, rfl⟩ : ∃ d1, d = d1 + 1 := ⟨d - 1, by omega⟩
  have hd : 3 ≤ d := by omega
  refine hEv_start (args := [vr 48, vr l1, vr l2, vr l3, vr l4]) (nl := 8) rfl (Nat.le_of_ble_eq_true rfl) ?_
  show hG d 180 0 [some (vr 48), some (vr l1), some (vr l2), some (vr l3), some (vr l4), none, none, none] [] w _
  have kr : ∀ h1 : hS, o = h1 → ∀ w', Abs h1 w' → qV o (none, w') := fun h1 q w' A' => by cases q; exact ⟨rfl, A'⟩
  unfold c180 at e
  refine hg_run 2 (pc' := 2) (ls' := [some (vr 48), some (vr l1), some (vr l2), some (vr l3), some (vr l4), none, none, none]) (st' := [vR l1, vR l2]) rfl ?_
  obtain ⟨u2, e2, e⟩ := ob e
  obtain ⟨h1, e1, e⟩ := ob e
  refine hg_cV (as := [vR l2, vR l1]) (st' := []) rfl (fun _ _ _ _ => rfl) rfl rfl (Nat.le_of_ble_eq_true rfl) (Nat.le_of_ble_eq_true rfl) (recvV A (a := 7) (kT_e e2)) (t154 (by omega) A  e1) (fun w1 A1 => ?_)
  refine hg_run 2 (pc' := 7) (ls' := [some (vr 48), some (vr l1), some (vr l2), some (vr l3), some (vr l4), none, none, none]) (st' := [vR l3, vR l2]) rfl ?_
  obtain ⟨h3, e3, e⟩ := ob e
  refine pd_7_2 rfl A1 e3 (fun w3 A3 => ?_)
  refine hg_run 1 (pc' := 11) (ls' := [some (vr 48), some (vr l1), some (vr l2), some (vr l3), some (vr l4), none, none, none]) (st' := [vR 48]) rfl ?_
  refine gs_48_14 rfl A3 ?_
  refine hg_run 1 (pc' := 15) (ls' := [some (vr 48), some (vr l1), some (vr l2), some (vr l3), some (vr l4), none, none, none]) (st' := [vI (-1), vR 52]) rfl ?_
  obtain ⟨h4, e4, e⟩ := ob e
  refine hg_cV (as := [vR 52, vI (-1)]) (st' := []) rfl (fun _ _ _ _ => rfl) rfl rfl (Nat.le_of_ble_eq_true rfl) (Nat.le_of_ble_eq_true rfl) recv0 (t156 (by omega) A3 (rgn (-1) rfl) e4) (fun w4 A4 => ?_)
  refine hg_run 1 (pc' := 19) (ls' := [some (vr 48), some (vr l1), some (vr l2), some (vr l3), some (vr l4), none, none, none]) (st' := [vR l1]) rfl ?_
  obtain ⟨v5, e5, e⟩ := ob e
  refine gd_7_2 rfl A4 e5 ?_
  refine hg_run 1 (pc' := 24) (ls' := [some (vr 48), some (vr l1), some (vr l2), some (vr l3), some (vr l4), some (vr v5), none, none]) (st' := []) rfl ?_
  obtain ⟨r17, e17, e⟩ := ob e
  refine t180_l24 hd  _  A4 e17 ?_
  intro x17_0 qq17 w17 z17_5 z17_6 z17_7 A17
  subst qq17
  refine hg_run 2 (pc' := 94) (ls' := [some (vr 48), some (vr l1), some (vr l2), some (vr l3), some (vr l4), some (vr l3), z17_6, z17_7]) (st' := []) rfl ?_
  obtain ⟨r41, e41, e⟩ := ob e
  refine t180_l94 hd  _  A17 e41 ?_
  intro x41_0 qq41 w41 z41_5 z41_6 z41_7 A41
  subst qq41
  refine hg_run 2 (pc' := 208) (ls' := [some (vr 48), some (vr l1), some (vr l2), some (vr l3), some (vr l4), z41_5, z41_6, z41_7]) (st' := [vR l2, vR l1]) rfl ?_
  obtain ⟨u43, e43, e⟩ := ob e
  obtain ⟨h42, e42, e⟩ := ob e
  refine hg_cV (as := [vR l1, vR l2]) (st' := []) rfl (fun _ _ _ _ => rfl) rfl rfl (Nat.le_of_ble_eq_true rfl) (Nat.le_of_ble_eq_true rfl) (recvV A41 (a := 7) (kT_e e43)) (t154 (by omega) A41  e42) (fun w42 A42 => ?_)
  cases e
  exact hg_retV rfl (kr _ rfl _ A42)
def c179_j106 (l3 : Int) (h : hS) : Option ((Int × hS) ⊕ (hS)) :=
  some (.inl ((wadd l3 1), h))
theorem t179_j106 {d : Nat} (hd : 4 ≤ d) {l3 : Int} {l1 : Nat} {l2 : Nat} {z4 : Option hO} {z5 : Option hO} {h : hS} {w : mmW} {o : (Int × hS) ⊕ (hS)} {Q : mmO → Prop} (rl3 : rg l3) (A : Abs h w) (e : c179_j106 l3 h = some o) (kb : ∀ (s_0 : Int) (s_1 : hS), o = .inl (s_0, s_1) → ∀ w', ∀ (y4 y5 : Option hO), rg s_0 → Abs s_1 w' → hG d 179 12 [some (vr 48), some (vr l1), some (vr l2), some (vi s_0), y4, y5] [] w' Q) (ke : ∀ (x_0 : hS), o = .inr (x_0) → ∀ w', ∀ (y3 y4 y5 : Option hO), Abs x_0 w' → hG d 179 112 [some (vr 48), some (vr l1), some (vr l2), y3, y4, y5] [] w' Q) : hG d 179 106 [some (vr 48), some (vr l1), some (vr l2), some (vi l3), z4, z5] [] w Q := by
  unfold c179_j106 at e
  refine hg_run 2 (pc' := 12) (ls' := [some (vr 48), some (vr l1), some (vr l2), some (vi (wadd l3 1)), z4, z5]) (st' := []) rfl ?_
  cases e
  exact kb (wadd l3 1) h rfl _ _ _ (rg_add _ _) A
def c179_j50 (s0 : Nat) (l1 : Nat) (l3 : Int) (l4 : Nat) (h : hS) : Option ((Int × hS) ⊕ (hS)) :=
  (hnul s0).bind (fun b7 =>
  if b7 = true then
  (pI h l4 16 1 0).bind (fun h14 =>
  c179_j106 l3 h14)
  else
  (gR h l4 16 2).bind (fun v8 =>
  (gI h v8 24 2).bind (fun v9 =>
  if v9 = (hI h 48 9) then
  (aRs h 49 40 l3).bind (fun v12 =>
  (c180 l4 v12 s0 l1 h).bind (fun h13 =>
  c179_j106 l3 h13))
  else
  (pR h l4 16 2 s0).bind (fun h11 =>
  c179_j106 l3 h11))))
theorem t179_j50 {d : Nat} (hd : 4 ≤ d) {s0 : Nat} {l1 : Nat} {l3 : Int} {l4 : Nat} {l2 : Nat} {z5 : Option hO} {h : hS} {w : mmW} {o : (Int × hS) ⊕ (hS)} {Q : mmO → Prop} (rl3 : rg l3) (A : Abs h w) (e : c179_j50 s0 l1 l3 l4 h = some o) (kb : ∀ (s_0 : Int) (s_1 : hS), o = .inl (s_0, s_1) → ∀ w', ∀ (y4 y5 : Option hO), rg s_0 → Abs s_1 w' → hG d 179 12 [some (vr 48), some (vr l1), some (vr l2), some (vi s_0), y4, y5] [] w' Q) (ke : ∀ (x_0 : hS), o = .inr (x_0) → ∀ w', ∀ (y3 y4 y5 : Option hO), Abs x_0 w' → hG d 179 112 [some (vr 48), some (vr l1), some (vr l2), y3, y4, y5] [] w' Q) : hG d 179 50 [some (vr 48), some (vr l1), some (vr l2), some (vi l3), some (vr l4), z5] [vR s0] w Q := by
  unfold c179_j50 at e
  refine hg_run 2 (pc' := 54) (ls' := [some (vr 48), some (vr l1), some (vr l2), some (vi l3), some (vr l4), some (vr s0)]) (st' := [vR s0]) rfl ?_
  obtain ⟨b7, e7, e⟩ := ob e
  rcases oi e with ⟨q7, e⟩ | ⟨q7, e⟩
  · refine hg_nul (yes := false) (tgt := 66) (t2 := 57) rfl (fun _ _ _ _ => rfl) (by decide) (ebT e7 q7) rfl ?_
    refine hg_run 2 (pc' := 60) (ls' := [some (vr 48), some (vr l1), some (vr l2), some (vi l3), some (vr l4), some (vr s0)]) (st' := [vI 0, vR l4]) rfl ?_
    obtain ⟨h14, e14, e⟩ := ob e
    refine pd_7_1 rfl A (rgn 0 rfl) (.inl rfl) e14 (fun w14 A14 => ?_)
    refine hg_run 1 (pc' := 106) (ls' := [some (vr 48), some (vr l1), some (vr l2), some (vi l3), some (vr l4), some (vr s0)]) (st' := []) rfl ?_
    exact t179_j106 hd rl3 A14 e kb ke
  · refine hg_nul (yes := false) (tgt := 66) (t2 := 66) rfl (fun _ _ _ _ => rfl) (by decide) (ebF e7 q7) rfl ?_
    refine hg_run 1 (pc' := 68) (ls' := [some (vr 48), some (vr l1), some (vr l2), some (vi l3), some (vr l4), some (vr s0)]) (st' := [vR l4]) rfl ?_
    obtain ⟨v8, e8, e⟩ := ob e
    refine gd_7_2 rfl A e8 ?_
    obtain ⟨v9, e9, e⟩ := ob e
    refine gd_11_2 rfl A e9 (fun r9 => ?_)
    refine hg_run 1 (pc' := 75) (ls' := [some (vr 48), some (vr l1), some (vr l2), some (vi l3), some (vr l4), some (vr s0)]) (st' := [vR 48, vI v9]) rfl ?_
    refine gs_48_9 rfl A ?_
    rcases oi e with ⟨q10, e⟩ | ⟨q10, e⟩
    · refine hg_icF (tgt := 99) rfl (by decide) r9 (Abs_rg A 48 9) (show ¬ ¬ (v9 = (hI h 48 9)) from fun f => f q10) ?_
      refine hg_run 3 (pc' := 85) (ls' := [some (vr 48), some (vr l1), some (vr l2), some (vi l3), some (vr l4), some (vr s0)]) (st' := [vR 48, vR l4, vR 48]) rfl ?_
      refine gs_48_2 rfl A ?_
      refine hg_run 1 (pc' := 89) (ls' := [some (vr 48), some (vr l1), some (vr l2), some (vi l3), some (vr l4), some (vr s0)]) (st' := [vI l3, vR 49, vR l4, vR 48]) rfl ?_
      obtain ⟨v12, e12, e⟩ := ob e
      refine hg_aRs 4 rfl (fun _ _ _ _ => rfl) A (Abs_ks A (i := 19) rfl) rfl (by decide) e12 ?_
      refine hg_run 2 (pc' := 93) (ls' := [some (vr 48), some (vr l1), some (vr l2), some (vi l3), some (vr l4), some (vr s0)]) (st' := [vR l1, vR s0, vR v12, vR l4, vR 48]) rfl ?_
      obtain ⟨h13, e13, e⟩ := ob e
      refine hg_cV (as := [vR 48, vR l4, vR v12, vR s0, vR l1]) (st' := []) rfl (fun _ _ _ _ => rfl) rfl rfl (Nat.le_of_ble_eq_true rfl) (Nat.le_of_ble_eq_true rfl) (recvV A (a := 6) (Abs_ks A (i := 18) rfl).1) (t180 (by omega) A  e13) (fun w13 A13 => ?_)
      refine hg_run 1 (pc' := 106) (ls' := [some (vr 48), some (vr l1), some (vr l2), some (vi l3), some (vr l4), some (vr s0)]) (st' := []) rfl ?_
      exact t179_j106 hd rl3 A13 e kb ke
    · refine hg_icT (tgt := 99) rfl (by decide) r9 (Abs_rg A 48 9) (show ¬ (v9 = (hI h 48 9)) from q10) ?_
      refine hg_run 2 (pc' := 103) (ls' := [some (vr 48), some (vr l1), some (vr l2), some (vi l3), some (vr l4), some (vr s0)]) (st' := [vR s0, vR l4]) rfl ?_
      obtain ⟨h11, e11, e⟩ := ob e
      refine pd_7_2 rfl A e11 (fun w11 A11 => ?_)
      exact t179_j106 hd rl3 A11 e kb ke
def c179_b12 (l1 : Nat) (l2 : Nat) (l3 : Int) (h : hS) : Option ((Int × hS) ⊕ (hS)) :=
  if 40 ≤ l3 then
  some (.inr (h))
  else
  (aRs h 19 40 l3).bind (fun v4 =>
  (gI h v4 16 1).bind (fun v5 =>
  if v5 = 0 then
  c179_j50 0 l1 l3 v4 h
  else
  (gR h v4 16 2).bind (fun v15 =>
  (gI h v15 24 0).bind (fun v16 =>
  (kT h l2 18).bind (fun u18 =>
  (c47 l2 v16 h).bind (fun v17 =>
  c179_j50 v17 l1 l3 v4 h))))))
theorem t179_b12 {d : Nat} (hd : 4 ≤ d) {l1 : Nat} {l2 : Nat} {l3 : Int} {z4 : Option hO} {z5 : Option hO} {h : hS} {w : mmW} {o : (Int × hS) ⊕ (hS)} {Q : mmO → Prop} (rl3 : rg l3) (A : Abs h w) (e : c179_b12 l1 l2 l3 h = some o) (kb : ∀ (s_0 : Int) (s_1 : hS), o = .inl (s_0, s_1) → ∀ w', ∀ (y4 y5 : Option hO), rg s_0 → Abs s_1 w' → hG d 179 12 [some (vr 48), some (vr l1), some (vr l2), some (vi s_0), y4, y5] [] w' Q) (ke : ∀ (x_0 : hS), o = .inr (x_0) → ∀ w', ∀ (y3 y4 y5 : Option hO), Abs x_0 w' → hG d 179 112 [some (vr 48), some (vr l1), some (vr l2), y3, y4, y5] [] w' Q) : hG d 179 12 [some (vr 48), some (vr l1), some (vr l2), some (vi l3), z4, z5] [] w Q := by
  unfold c179_b12 at e
  refine hg_run 2 (pc' := 15) (ls' := [some (vr 48), some (vr l1), some (vr l2), some (vi l3), z4, z5]) (st' := [vI 40, vI l3]) rfl ?_
  rcases oi e with ⟨q3, e⟩ | ⟨q3, e⟩
  · refine hg_icT (tgt := 112) rfl (by decide) rl3 (rgn 40 rfl) q3 ?_
    cases e
    exact ke h rfl _ _ _ _  A
  · refine hg_icF (tgt := 112) rfl (by decide) rl3 (rgn 40 rfl) q3 ?_
    refine hg_run 1 (pc' := 19) (ls' := [some (vr 48), some (vr l1), some (vr l2), some (vi l3), z4, z5]) (st' := [vR 48]) rfl ?_
    refine gs_48_0 rfl A ?_
    refine hg_run 1 (pc' := 23) (ls' := [some (vr 48), some (vr l1), some (vr l2), some (vi l3), z4, z5]) (st' := [vI l3, vR 19]) rfl ?_
    obtain ⟨v4, e4, e⟩ := ob e
    refine hg_aRs 4 rfl (fun _ _ _ _ => rfl) A (Abs_ks A (i := 10) rfl) rfl (by decide) e4 ?_
    refine hg_run 2 (pc' := 28) (ls' := [some (vr 48), some (vr l1), some (vr l2), some (vi l3), some (vr v4), z5]) (st' := [vR v4]) rfl ?_
    obtain ⟨v5, e5, e⟩ := ob e
    refine gd_7_1 rfl A e5 (fun r5 => ?_)
    rcases oi e with ⟨q6, e⟩ | ⟨q6, e⟩
    · refine hg_ifT (tgt := 49) rfl (by decide) r5 q6 ?_
      refine hg_run 1 (pc' := 50) (ls' := [some (vr 48), some (vr l1), some (vr l2), some (vi l3), some (vr v4), z5]) (st' := [vR 0]) rfl ?_
      exact t179_j50 hd rl3 A e kb ke
    · refine hg_ifF (tgt := 49) rfl (by decide) r5 q6 ?_
      refine hg_run 2 (pc' := 37) (ls' := [some (vr 48), some (vr l1), some (vr l2), some (vi l3), some (vr v4), z5]) (st' := [vR v4, vR l2]) rfl ?_
      obtain ⟨v15, e15, e⟩ := ob e
      refine gd_7_2 rfl A e15 ?_
      obtain ⟨v16, e16, e⟩ := ob e
      refine gd_11_0 rfl A e16 (fun r16 => ?_)
      obtain ⟨u18, e18, e⟩ := ob e
      obtain ⟨v17, e17, e⟩ := ob e
      refine hg_cRp (as := [vR l2, vI v16]) (st' := []) rfl (fun _ _ _ _ => rfl) rfl rfl (Nat.le_of_ble_eq_true rfl) (Nat.le_of_ble_eq_true rfl) (recvV A (a := 8) (kT_e e18)) (t47 (by omega) A r16 e17) ?_
      refine hg_run 1 (pc' := 50) (ls' := [some (vr 48), some (vr l1), some (vr l2), some (vi l3), some (vr v4), z5]) (st' := [vR v17]) rfl ?_
      exact t179_j50 hd rl3 A e kb ke
theorem t179_l12 {d : Nat} (hd : 4 ≤ d) {l1 : Nat} {l2 : Nat}  {Q : mmO → Prop}  (n : Nat) {l3 : Int} {z4 z5 : Option hO} {h : hS} {w : mmW} {r : hS} (rl3 : rg l3) (A : Abs h w) (e : lp (fun s => c179_b12 l1 l2 s.1 s.2) n (l3, h) = some r) (ke : ∀ (x_0 : hS), r = (x_0) → ∀ w', ∀ (y3 y4 y5 : Option hO), Abs x_0 w' → hG d 179 112 [some (vr 48), some (vr l1), some (vr l2), y3, y4, y5] [] w' Q) : hG d 179 12 [some (vr 48), some (vr l1), some (vr l2), some (vi l3), z4, z5] [] w Q := by
  induction n generalizing l3 z4 z5 h w with
  | zero => cases e
  | succ n ih =>
    rcases lp_succ e with ⟨s1, e1, e2⟩ | e1
    · exact t179_b12 hd rl3 A e1 (fun s_0 s_1 q w1 y4 y5 rl3 A1 => by cases q; exact ih rl3 A1 e2) (fun x_0 q => by cases q)
    · exact t179_b12 hd rl3 A e1 (fun s_0 s_1 q => by cases q) (fun x_0 q => by cases q; exact ke _ rfl)
def c179 (l1 : Nat) (h : hS) : Option (Nat × hS) :=
  (kT h (hR h 48 8) 18).bind (fun u2 =>
  (c90 (hR h 48 8) l1 h).bind (fun h1 =>
  (lp (fun s => c179_b12 l1 (hR h 48 8) s.1 s.2) hF0 (0, h1)).bind (fun r19 =>
  (pI r19 (hR r19 48 7) 26 1 5).bind (fun h20 =>
  (some (sR h20 48 7 0)).bind (fun h21 =>
  (some (sR h21 48 8 0)).bind (fun h22 =>
  some ((hR h 48 8), h22)))))))
theorem t179 {d : Nat} (hd : 5 ≤ d) {l1 : Nat} {h : hS} {w : mmW} {o : Nat × hS} (A : Abs h w)  (e : c179 l1 h = some o) : hEv d 179 [vR 48, vR l1] w (qR o) := by
  obtain ⟨d, rfl⟩ : ∃ d1, d = d1 + 1 := ⟨d - 1, by omega⟩
  have hd : 4 ≤ d := by omega
  refine hEv_start (args := [vr 48, vr l1]) (nl := 6) rfl (Nat.le_of_ble_eq_true rfl) ?_
  show hG d 179 0 [some (vr 48), some (vr l1), none, none, none, none] [] w _
  have kr : ∀ (v1 : Nat) (h1 : hS), o = (v1, h1) → ∀ w', Abs h1 w' → qR o (some (rv v1), w') := fun v1 h1 q w' A' => by cases q; exact ⟨rfl, A'⟩
  unfold c179 at e
  refine hg_run 1 (pc' := 1) (ls' := [some (vr 48), some (vr l1), none, none, none, none]) (st' := [vR 48]) rfl ?_
  refine gs_48_8 rfl A ?_
  refine hg_run 3 (pc' := 7) (ls' := [some (vr 48), some (vr l1), some (vr (hR h 48 8)), none, none, none]) (st' := [vR l1, vR (hR h 48 8)]) rfl ?_
  obtain ⟨u2, e2, e⟩ := ob e
  obtain ⟨h1, e1, e⟩ := ob e
  refine hg_cV (as := [vR (hR h 48 8), vR l1]) (st' := []) rfl (fun _ _ _ _ => rfl) rfl rfl (Nat.le_of_ble_eq_true rfl) (Nat.le_of_ble_eq_true rfl) (recvV A (a := 8) (kT_e e2)) (t90 (by omega) A  e1) (fun w1 A1 => ?_)
  refine hg_run 2 (pc' := 12) (ls' := [some (vr 48), some (vr l1), some (vr (hR h 48 8)), some (vi 0), none, none]) (st' := []) rfl ?_
  obtain ⟨r19, e19, e⟩ := ob e
  refine t179_l12 hd  _ (rgn 0 rfl) A1 e19 ?_
  intro x19_0 qq19 w19 z19_3 z19_4 z19_5 A19
  subst qq19
  refine hg_run 1 (pc' := 113) (ls' := [some (vr 48), some (vr l1), some (vr (hR h 48 8)), z19_3, z19_4, z19_5]) (st' := [vR 48]) rfl ?_
  refine gs_48_7 rfl A19 ?_
  refine hg_run 1 (pc' := 117) (ls' := [some (vr 48), some (vr l1), some (vr (hR h 48 8)), z19_3, z19_4, z19_5]) (st' := [vI 5, vR (hR r19 48 7)]) rfl ?_
  obtain ⟨h20, e20, e⟩ := ob e
  refine pd_12_1 rfl A19 (rgn 5 rfl) e20 (fun w20 A20 => ?_)
  refine hg_run 2 (pc' := 122) (ls' := [some (vr 48), some (vr l1), some (vr (hR h 48 8)), z19_3, z19_4, z19_5]) (st' := [vR 0, vR 48]) rfl ?_
  obtain ⟨h21, e21, e⟩ := ob e
  refine ps_48_7 rfl A20 e21 (fun w21 A21 => ?_)
  refine hg_run 2 (pc' := 127) (ls' := [some (vr 48), some (vr l1), some (vr (hR h 48 8)), z19_3, z19_4, z19_5]) (st' := [vR 0, vR 48]) rfl ?_
  obtain ⟨h22, e22, e⟩ := ob e
  refine ps_48_8 rfl A21 e22 (fun w22 A22 => ?_)
  refine hg_run 1 (pc' := 131) (ls' := [some (vr 48), some (vr l1), some (vr (hR h 48 8)), z19_3, z19_4, z19_5]) (st' := [vR (hR h 48 8)]) rfl ?_
  cases e
  exact hg_retR rfl (kr _ _ rfl _ A22)
def c177 (h : hS) : Option (Int × hS) :=
  (c178  h).bind (fun v1 =>
  if v1 = 0 then
  some (0, h)
  else
  (c179 (hR h 8 7) h).bind (fun v3 =>
  (some (sR v3.2 8 7 v3.1)).bind (fun h4 =>
  (c165  h4).bind (fun h5 =>
  some (1, h5)))))
theorem t177 {d : Nat} (hd : 6 ≤ d)  {h : hS} {w : mmW} {o : Int × hS} (A : Abs h w)  (e : c177 h = some o) : hEv d 177 [vR 8] w (qI o) := by
  obtain ⟨d, rfl⟩ : ∃ d1, d = d1 + 1 := ⟨d - 1, by omega⟩
  have hd : 5 ≤ d := by omega
  refine hEv_start (args := [vr 8]) (nl := 1) rfl (Nat.le_of_ble_eq_true rfl) ?_
  show hG d 177 0 [some (vr 8)] [] w _
  have kr : ∀ (v1 : Int) (h1 : hS), o = (v1, h1) → ∀ w', rg v1 → Abs h1 w' → qI o (some (.int (Int32.ofInt v1)), w') := fun v1 h1 q w' r A' => by cases q; exact ⟨rfl, r, A'⟩
  unfold c177 at e
  refine hg_run 1 (pc' := 1) (ls' := [some (vr 8)]) (st' := [vR 8]) rfl ?_
  refine gs_8_6 rfl A ?_
  obtain ⟨v1, e1, e⟩ := ob e
  refine hg_cIp (as := [vR 48]) (st' := []) rfl (fun _ _ _ _ => rfl) rfl rfl (Nat.le_of_ble_eq_true rfl) (Nat.le_of_ble_eq_true rfl) (recvV A (a := 6) (Abs_ks A (i := 18) rfl).1) (t178 (by omega) A  e1) (fun r1 => ?_)
  rcases oi e with ⟨q2, e⟩ | ⟨q2, e⟩
  · refine hg_ifF (tgt := 12) rfl (by decide) r1 (show ¬ ¬ (v1 = 0) from fun f => f q2) ?_
    refine hg_run 1 (pc' := 11) (ls' := [some (vr 8)]) (st' := [vI 0]) rfl ?_
    cases e
    exact hg_retI rfl (by decide) (fit_B (.inl rfl)) (kr _ _ rfl _ (rgn 0 rfl) A)
  · refine hg_ifT (tgt := 12) rfl (by decide) r1 (show ¬ (v1 = 0) from q2) ?_
    refine hg_run 2 (pc' := 14) (ls' := [some (vr 8)]) (st' := [vR 8, vR 8]) rfl ?_
    refine gs_8_6 rfl A ?_
    refine hg_run 1 (pc' := 18) (ls' := [some (vr 8)]) (st' := [vR 8, vR 48, vR 8]) rfl ?_
    refine gs_8_7 rfl A ?_
    obtain ⟨v3, e3, e⟩ := ob e
    refine hg_cR (as := [vR 48, vR (hR h 8 7)]) (st' := [vR 8]) rfl (fun _ _ _ _ => rfl) rfl rfl (Nat.le_of_ble_eq_true rfl) (Nat.le_of_ble_eq_true rfl) (recvV A (a := 6) (Abs_ks A (i := 18) rfl).1) (t179 (by omega) A  e3) (fun w3 A3 => ?_)
    obtain ⟨h4, e4, e⟩ := ob e
    refine ps_8_7 rfl A3 e4 (fun w4 A4 => ?_)
    refine hg_run 1 (pc' := 28) (ls' := [some (vr 8)]) (st' := [vR 8]) rfl ?_
    obtain ⟨h5, e5, e⟩ := ob e
    refine hg_cV (as := [vR 8]) (st' := []) rfl (fun _ _ _ _ => rfl) rfl rfl (Nat.le_of_ble_eq_true rfl) (Nat.le_of_ble_eq_true rfl) (recvV A4 (a := 0) (Abs_ks A4 (i := 0) rfl).1) (t165 (by omega) A4  e5) (fun w5 A5 => ?_)
    refine hg_run 1 (pc' := 32) (ls' := [some (vr 8)]) (st' := [vI 1]) rfl ?_
    cases e
    exact hg_retI rfl (by decide) (fit_B (.inr rfl)) (kr _ _ rfl _ (rgn 1 rfl) A5)
def c181_b5 (l1 : Int) (h : hS) (l2 : Int64) (l4 : Int) : Option ((Int64 × Int) ⊕ Int64) :=
  if (hI h 8 8) ≤ l4 then some (.inr l2) else
  (c103 l4 h).bind (fun v1 =>
  if v1 = 0 then some (.inl (l2, wadd l4 1)) else
  (aRs h 19 40 l4).bind (fun v2 => (gR h v2 16 2).bind (fun v3 => (kT h v3 24).bind (fun _ => (c106 v3 l1 h).bind (fun v4 =>
  if v4 = 0 then some (.inl (l2, wadd l4 1)) else
  (aRs h 19 40 l4).bind (fun v5 => (gR h v5 16 3).bind (fun v6 => (aI h v6 1 l1).bind (fun v7 => some (.inl (l2 + wlng v7, wadd l4 1)))))))))) 
def c181 (l1 : Int) (h : hS) : Option Int64 := lp (fun s => c181_b5 l1 h s.1 s.2) hF0 (Int64.ofNat 0, 0)
theorem t181_l5 {d : Nat} (hd : 1 ≤ d) {l1 : Int} {h : hS} {w : mmW} {Q : mmO → Prop} (rl1 : rg l1) (n : Nat) {l2 : Int64} {l4 : Int} {r : Int64} (rl4 : rg l4) (A : Abs h w) (e : lp (fun s => c181_b5 l1 h s.1 s.2) n (l2, l4) = some r) (kr : Q (some (.long r), w)) : hK d 181 5 [some (.ref 0), some (.int (Int32.ofInt l1)), some (.long l2), none, some (.int (Int32.ofInt l4))] [] w Q := by
  induction n generalizing l2 l4 with
  | zero => cases e
  | succ n ih =>
    refine mt_runs 2 (f' := (8, [some (.ref 0), some (.int (Int32.ofInt l1)), some (.long l2), none, some (.int (Int32.ofInt l4))], [.ref 0, .int (Int32.ofInt l4)], w)) rfl ?_
    show hK d 181 8 [some (.ref 0), some (.int (Int32.ofInt l1)), some (.long l2), none, some (.int (Int32.ofInt l4))] [vR 8, vI l4] w _
    refine gs_8_8 rfl A ?_
    have e1 : Int32.ofInt l4 + 1 = Int32.ofInt (wadd l4 1) := by
      unfold wadd
      rw [Int32.ofInt_toInt]
      rfl
    have back : lp (fun s => c181_b5 l1 h s.1 s.2) n (l2, wadd l4 1) = some r → hK d 181 56 [some (.ref 0), some (.int (Int32.ofInt l1)), some (.long l2), none, some (.int (Int32.ofInt l4))] [] w Q := by
      intro ex
      refine mt_runs 2 (f' := (5, [some (.ref 0), some (.int (Int32.ofInt l1)), some (.long l2), none, some (.int (Int32.ofInt l4 + 1))], [], w)) rfl ?_
      rw [e1]
      exact ih (rg_add _ _) ex
    have back2 : ∀ (x : Int64), lp (fun s => c181_b5 l1 h s.1 s.2) n (l2 + x, wadd l4 1) = some r → hK d 181 54 [some (.ref 0), some (.int (Int32.ofInt l1)), some (.long l2), none, some (.int (Int32.ofInt l4))] [vJ x, vJ l2] w Q := by
      intro x ex
      refine mt_runs 4 (f' := (5, [some (.ref 0), some (.int (Int32.ofInt l1)), some (.long (l2 + x)), none, some (.int (Int32.ofInt l4 + 1))], [], w)) rfl ?_
      rw [e1]
      exact ih (rg_add _ _) ex
    clear e1
    rcases lp_succ e with ⟨s1, e1, e2⟩ | e1
    · unfold c181_b5 at e1
      dsimp only at e1
      rcases oi e1 with ⟨q, e1⟩ | ⟨q, e1⟩
      · cases e1
      · refine hg_icF (tgt := 62) rfl (by decide) rl4 (Abs_rg A 8 8) q ?_
        refine mt_runs 2 (f' := (17, [some (.ref 0), some (.int (Int32.ofInt l1)), some (.long l2), none, some (.int (Int32.ofInt l4))], [.int (Int32.ofInt l4), .ref 0], w)) rfl ?_
        show hK d 181 17 [some (.ref 0), some (.int (Int32.ofInt l1)), some (.long l2), none, some (.int (Int32.ofInt l4))] [vI l4, vR 8] w _
        obtain ⟨v1, e3, e1⟩ := ob e1
        refine hg_cIp (as := [vR 8, vI l4]) (st' := []) rfl (fun _ _ _ _ => rfl) rfl rfl (Nat.le_of_ble_eq_true rfl) (Nat.le_of_ble_eq_true rfl) (recvV A (a := 0) (Abs_ks A (i := 0) rfl).1) (t103 (by omega) A rl4 e3) (fun r3 => ?_)
        rcases oi e1 with ⟨q2, e1⟩ | ⟨q2, e1⟩
        · refine hg_ifT (tgt := 56) rfl (by decide) r3 q2 ?_
          cases e1
          exact back e2
        · refine hg_ifF (tgt := 56) rfl (by decide) r3 q2 ?_
          refine mt_runs 1 (f' := (24, [some (.ref 0), some (.int (Int32.ofInt l1)), some (.long l2), none, some (.int (Int32.ofInt l4))], [.ref 0], w)) rfl ?_
          show hK d 181 24 [some (.ref 0), some (.int (Int32.ofInt l1)), some (.long l2), none, some (.int (Int32.ofInt l4))] [vR 8] w _
          refine gs_8_2 rfl A ?_
          refine mt_runs 1 (f' := (29, [some (.ref 0), some (.int (Int32.ofInt l1)), some (.long l2), none, some (.int (Int32.ofInt l4))], [.int (Int32.ofInt l4), .ref 11], w)) rfl ?_
          show hK d 181 29 [some (.ref 0), some (.int (Int32.ofInt l1)), some (.long l2), none, some (.int (Int32.ofInt l4))] [vI l4, vR 19] w _
          obtain ⟨v2, e4, e1⟩ := ob e1
          refine hg_aRs 4 rfl (fun _ _ _ _ => rfl) A (Abs_ks A (i := 10) rfl) rfl (by decide) e4 ?_
          obtain ⟨v3, e5, e1⟩ := ob e1
          refine gd_7_2 rfl A e5 ?_
          refine mt_runs 1 (f' := (34, [some (.ref 0), some (.int (Int32.ofInt l1)), some (.long l2), none, some (.int (Int32.ofInt l4))], [.int (Int32.ofInt l1), rv v3], w)) rfl ?_
          show hK d 181 34 [some (.ref 0), some (.int (Int32.ofInt l1)), some (.long l2), none, some (.int (Int32.ofInt l4))] [vI l1, vR v3] w _
          obtain ⟨u, e6, e1⟩ := ob e1
          obtain ⟨v4, e7, e1⟩ := ob e1
          refine hg_cIp (as := [vR v3, vI l1]) (st' := []) rfl (fun _ _ _ _ => rfl) rfl rfl (Nat.le_of_ble_eq_true rfl) (Nat.le_of_ble_eq_true rfl) (recvV A (a := 11) (kT_e e6)) (t106 (by omega) A rl1 e7) (fun r4 => ?_)
          rcases oi e1 with ⟨q3, e1⟩ | ⟨q3, e1⟩
          · refine hg_ifT (tgt := 56) rfl (by decide) r4 q3 ?_
            cases e1
            exact back e2
          · refine hg_ifF (tgt := 56) rfl (by decide) r4 q3 ?_
            refine mt_runs 2 (f' := (42, [some (.ref 0), some (.int (Int32.ofInt l1)), some (.long l2), none, some (.int (Int32.ofInt l4))], [.ref 0, .long l2], w)) rfl ?_
            show hK d 181 42 [some (.ref 0), some (.int (Int32.ofInt l1)), some (.long l2), none, some (.int (Int32.ofInt l4))] [vR 8, vJ l2] w _
            refine gs_8_2 rfl A ?_
            refine mt_runs 1 (f' := (47, [some (.ref 0), some (.int (Int32.ofInt l1)), some (.long l2), none, some (.int (Int32.ofInt l4))], [.int (Int32.ofInt l4), .ref 11, .long l2], w)) rfl ?_
            show hK d 181 47 [some (.ref 0), some (.int (Int32.ofInt l1)), some (.long l2), none, some (.int (Int32.ofInt l4))] [vI l4, vR 19, vJ l2] w _
            obtain ⟨v5, e8, e1⟩ := ob e1
            refine hg_aRs 4 rfl (fun _ _ _ _ => rfl) A (Abs_ks A (i := 10) rfl) rfl (by decide) e8 ?_
            obtain ⟨v6, e9, e1⟩ := ob e1
            refine gd_7_3 rfl A e9 ?_
            refine mt_runs 1 (f' := (52, [some (.ref 0), some (.int (Int32.ofInt l1)), some (.long l2), none, some (.int (Int32.ofInt l4))], [.int (Int32.ofInt l1), rv v6, .long l2], w)) rfl ?_
            show hK d 181 52 [some (.ref 0), some (.int (Int32.ofInt l1)), some (.long l2), none, some (.int (Int32.ofInt l4))] [vI l1, vR v6, vJ l2] w _
            obtain ⟨v7, e10, e1⟩ := ob e1
            refine hg_aId 0 rfl (fun _ _ _ _ => rfl) A rfl (by decide) e10 (fun r5 => ?_)
            refine mt_runs 1 (f' := (54, [some (.ref 0), some (.int (Int32.ofInt l1)), some (.long l2), none, some (.int (Int32.ofInt l4))], [.long (wlng v7), .long l2], w)) rfl ?_
            cases e1
            exact back2 _ e2
    · unfold c181_b5 at e1
      dsimp only at e1
      rcases oi e1 with ⟨q, e1⟩ | ⟨q, e1⟩
      · refine hg_icT (tgt := 62) rfl (by decide) rl4 (Abs_rg A 8 8) q ?_
        refine mt_runs 1 (f' := (63, [some (.ref 0), some (.int (Int32.ofInt l1)), some (.long l2), none, some (.int (Int32.ofInt l4))], [.long l2], w)) rfl ?_
        show hK d 181 63 [some (.ref 0), some (.int (Int32.ofInt l1)), some (.long l2), none, some (.int (Int32.ofInt l4))] [vJ l2] w _
        cases e1
        exact hg_retJ rfl kr
      · exfalso
        obtain ⟨v1, e3, e1⟩ := ob e1
        rcases oi e1 with ⟨q2, e1⟩ | ⟨q2, e1⟩
        · cases e1
        · obtain ⟨v2, e4, e1⟩ := ob e1
          obtain ⟨v3, e5, e1⟩ := ob e1
          obtain ⟨u, e6, e1⟩ := ob e1
          obtain ⟨v4, e7, e1⟩ := ob e1
          rcases oi e1 with ⟨q3, e1⟩ | ⟨q3, e1⟩
          · cases e1
          · obtain ⟨v5, e8, e1⟩ := ob e1
            obtain ⟨v6, e9, e1⟩ := ob e1
            obtain ⟨v7, e10, e1⟩ := ob e1
            cases e1
theorem t181 {d : Nat} (hd : 2 ≤ d) {l1 : Int} {h : hS} {w : mmW} {o : Int64} (A : Abs h w) (rl1 : rg l1) (e : c181 l1 h = some o) : hEv d 181 [vR 8, vI l1] w (qJp o w) := by
  obtain ⟨d, rfl⟩ : ∃ d1, d = d1 + 1 := ⟨d - 1, by omega⟩
  unfold c181 at e
  obtain ⟨N, hN⟩ := mu_ev (P := mt_P0) (d := d) (a := 181) (as := [.ref 0, .int (Int32.ofInt l1)]) (w := w) (o0 := (some (.long o), w)) (Nat.le_of_ble_eq_true rfl) (by
    refine mt_runs 4 (f' := (5, [some (.ref 0), some (.int (Int32.ofInt l1)), some (.long (Int64.ofNat 0)), none, some (.int (Int32.ofInt 0))], [], w)) rfl ?_
    exact t181_l5 (by omega) rl1 _ (rgn 0 rfl) A e rfl)
  exact ⟨N, _, hN, rfl⟩

def c187 (l0 : Int64) (l2 : Int) (_ : hS) : Option Int64 := if l2 = 0 then some l0 else some (wlsh l0 6 ||| wlng (wsub l2 96))
theorem t187 {d : Nat} (hd : 1 ≤ d) {l0 : Int64} {l2 : Int} {h : hS} {w : mmW} {o : Int64} (_ : Abs h w) (rl2 : rg l2) (e : c187 l0 l2 h = some o) : hEv d 187 [vJ l0, vI l2] w (qJp o w) := by
  obtain ⟨d, rfl⟩ : ∃ d1, d = d1 + 1 := ⟨d - 1, by omega⟩
  unfold c187 at e
  obtain ⟨N, hN⟩ := mu_ev (P := mt_P0) (d := d) (a := 187) (as := [.long l0, .int (Int32.ofInt l2)]) (w := w) (o0 := (some (.long o), w)) (Nat.le_of_ble_eq_true rfl) (by
    refine mt_runs 1 (f' := (1, [some (.long l0), none, some (.int (Int32.ofInt l2))], [.int (Int32.ofInt l2)], w)) rfl ?_
    show hK d 187 1 [some (.long l0), none, some (.int (Int32.ofInt l2))] [vI l2] w _
    rcases oi e with ⟨q, e⟩ | ⟨q, e⟩
    · refine hg_ifF (tgt := 8) rfl (by decide) rl2 (show ¬ ¬ (l2 = 0) from fun f => f q) ?_
      refine mt_runs 2 (f' := (18, [some (.long l0), none, some (.int (Int32.ofInt l2))], [.long l0], w)) rfl ?_
      show hK d 187 18 [some (.long l0), none, some (.int (Int32.ofInt l2))] [vJ l0] w _
      cases e
      exact hg_retJ rfl rfl
    · refine hg_ifT (tgt := 8) rfl (by decide) rl2 (show ¬ (l2 = 0) from q) ?_
      refine mt_runs 8 (f' := (18, [some (.long l0), none, some (.int (Int32.ofInt l2))], [.long (l0 <<< ((6 : Int32).toInt64 &&& 63) ||| (Int32.ofInt l2 - 96).toInt64)], w)) rfl ?_
      have e1 : (Int32.ofInt l2 - 96).toInt64 = wlng (wsub l2 96) := by
        unfold wlng wsub
        rw [Int32.ofInt_toInt]
        rfl
      have e2 : l0 <<< ((6 : Int32).toInt64 &&& 63) = wlsh l0 6 := rfl
      rw [e1, e2]
      show hK d 187 18 [some (.long l0), none, some (.int (Int32.ofInt l2))] [vJ (wlsh l0 6 ||| wlng (wsub l2 96))] w _
      cases e
      exact hg_retJ rfl rfl)
  exact ⟨N, _, hN, rfl⟩

def c186 (l1 : Int) (l2 : Int) (l3 : Int) (l4 : Int) (l5 : Int) (l6 : Int) (l7 : Int) (h : hS) : Option (hS) :=
  (c187 (Int64.ofNat 0) l2 h).bind (fun v1 =>
  (c187 v1 l3 h).bind (fun v2 =>
  (c187 v2 l4 h).bind (fun v3 =>
  (c187 v3 l5 h).bind (fun v4 =>
  (c187 v4 l6 h).bind (fun v5 =>
  (c187 v5 l7 h).bind (fun v6 =>
  (wJs h 398 22 (wsub l1 100) v6).bind (fun h7 =>
  some h7)))))))
theorem t186 {d : Nat} (hd : 2 ≤ d) {l1 : Int} {l2 : Int} {l3 : Int} {l4 : Int} {l5 : Int} {l6 : Int} {l7 : Int} {h : hS} {w : mmW} {o : hS} (A : Abs h w) (rl1 : rg l1) (rl2 : rg l2) (rl3 : rg l3) (rl4 : rg l4) (rl5 : rg l5) (rl6 : rg l6) (rl7 : rg l7) (e : c186 l1 l2 l3 l4 l5 l6 l7 h = some o) : hEv d 186 [vR 395, vI l1, vI l2, vI l3, vI l4, vI l5, vI l6, vI l7] w (qV o) := by
  obtain ⟨d, rfl⟩ : ∃ d1, d = d1 + 1 := ⟨d - 1, by omega⟩
  have hd : 1 ≤ d := by omega
  refine hEv_start (args := [vr 395, vi l1, vi l2, vi l3, vi l4, vi l5, vi l6, vi l7]) (nl := 8) rfl (Nat.le_of_ble_eq_true rfl) ?_
  show hG d 186 0 [some (vr 395), some (vi l1), some (vi l2), some (vi l3), some (vi l4), some (vi l5), some (vi l6), some (vi l7)] [] w _
  have kr : ∀ h1 : hS, o = h1 → ∀ w', Abs h1 w' → qV o (none, w') := fun h1 q w' A' => by cases q; exact ⟨rfl, A'⟩
  unfold c186 at e
  refine hg_run 1 (pc' := 1) (ls' := [some (vr 395), some (vi l1), some (vi l2), some (vi l3), some (vi l4), some (vi l5), some (vi l6), some (vi l7)]) (st' := [vR 395]) rfl ?_
  refine gs_395_8 rfl A ?_
  refine hg_run 5 (pc' := 10) (ls' := [some (vr 395), some (vi l1), some (vi l2), some (vi l3), some (vi l4), some (vi l5), some (vi l6), some (vi l7)]) (st' := [vI l2, vJ (Int64.ofNat 0), vI (wsub l1 100), vR 398]) rfl ?_
  obtain ⟨v1, e1, e⟩ := ob e
  refine hg_cJp (as := [vJ (Int64.ofNat 0), vI l2]) (st' := [vI (wsub l1 100), vR 398]) rfl (fun _ _ _ _ => rfl) rfl rfl (Nat.le_of_ble_eq_true rfl) (Nat.le_of_ble_eq_true rfl) recv0 (t187 (by omega) A rl2 e1) ?_
  refine hg_run 1 (pc' := 14) (ls' := [some (vr 395), some (vi l1), some (vi l2), some (vi l3), some (vi l4), some (vi l5), some (vi l6), some (vi l7)]) (st' := [vI l3, vJ v1, vI (wsub l1 100), vR 398]) rfl ?_
  obtain ⟨v2, e2, e⟩ := ob e
  refine hg_cJp (as := [vJ v1, vI l3]) (st' := [vI (wsub l1 100), vR 398]) rfl (fun _ _ _ _ => rfl) rfl rfl (Nat.le_of_ble_eq_true rfl) (Nat.le_of_ble_eq_true rfl) recv0 (t187 (by omega) A rl3 e2) ?_
  refine hg_run 1 (pc' := 19) (ls' := [some (vr 395), some (vi l1), some (vi l2), some (vi l3), some (vi l4), some (vi l5), some (vi l6), some (vi l7)]) (st' := [vI l4, vJ v2, vI (wsub l1 100), vR 398]) rfl ?_
  obtain ⟨v3, e3, e⟩ := ob e
  refine hg_cJp (as := [vJ v2, vI l4]) (st' := [vI (wsub l1 100), vR 398]) rfl (fun _ _ _ _ => rfl) rfl rfl (Nat.le_of_ble_eq_true rfl) (Nat.le_of_ble_eq_true rfl) recv0 (t187 (by omega) A rl4 e3) ?_
  refine hg_run 1 (pc' := 24) (ls' := [some (vr 395), some (vi l1), some (vi l2), some (vi l3), some (vi l4), some (vi l5), some (vi l6), some (vi l7)]) (st' := [vI l5, vJ v3, vI (wsub l1 100), vR 398]) rfl ?_
  obtain ⟨v4, e4, e⟩ := ob e
  refine hg_cJp (as := [vJ v3, vI l5]) (st' := [vI (wsub l1 100), vR 398]) rfl (fun _ _ _ _ => rfl) rfl rfl (Nat.le_of_ble_eq_true rfl) (Nat.le_of_ble_eq_true rfl) recv0 (t187 (by omega) A rl5 e4) ?_
  refine hg_run 1 (pc' := 29) (ls' := [some (vr 395), some (vi l1), some (vi l2), some (vi l3), some (vi l4), some (vi l5), some (vi l6), some (vi l7)]) (st' := [vI l6, vJ v4, vI (wsub l1 100), vR 398]) rfl ?_
  obtain ⟨v5, e5, e⟩ := ob e
  refine hg_cJp (as := [vJ v4, vI l6]) (st' := [vI (wsub l1 100), vR 398]) rfl (fun _ _ _ _ => rfl) rfl rfl (Nat.le_of_ble_eq_true rfl) (Nat.le_of_ble_eq_true rfl) recv0 (t187 (by omega) A rl6 e5) ?_
  refine hg_run 1 (pc' := 34) (ls' := [some (vr 395), some (vi l1), some (vi l2), some (vi l3), some (vi l4), some (vi l5), some (vi l6), some (vi l7)]) (st' := [vI l7, vJ v5, vI (wsub l1 100), vR 398]) rfl ?_
  obtain ⟨v6, e6, e⟩ := ob e
  refine hg_cJp (as := [vJ v5, vI l7]) (st' := [vI (wsub l1 100), vR 398]) rfl (fun _ _ _ _ => rfl) rfl rfl (Nat.le_of_ble_eq_true rfl) (Nat.le_of_ble_eq_true rfl) recv0 (t187 (by omega) A rl7 e6) ?_
  obtain ⟨h7, e7, e⟩ := ob e
  refine hg_wJs rfl A (Abs_ks A (i := 26) rfl) (by decide) e7 (fun w7 A7 => ?_)
  cases e
  exact hg_retV rfl (kr _ rfl _ A7)
def c185 (h : hS) : Option (hS) :=
  if (hI h 395 9) = 0 then
  (some (sI h 395 9 1)).bind (fun h2 =>
  (c186 100 107 105 110 100 0 0 h2).bind (fun h3 =>
  (c186 101 117 110 100 101 114 0 h3).bind (fun h4 =>
  (c186 102 102 105 101 108 100 0 h4).bind (fun h5 =>
  (c186 103 108 105 110 107 0 0 h5).bind (fun h6 =>
  (c186 104 115 116 97 116 105 99 h6).bind (fun h7 =>
  (c186 105 97 99 116 0 0 0 h7).bind (fun h8 =>
  (c186 106 103 105 118 101 0 0 h8).bind (fun h9 =>
  (c186 107 102 97 105 108 0 0 h9).bind (fun h10 =>
  (c186 108 97 98 111 118 101 0 h10).bind (fun h11 =>
  (c186 109 100 111 0 0 0 0 h11).bind (fun h12 =>
  (c186 110 115 101 110 100 0 0 h12).bind (fun h13 =>
  (c186 111 114 101 115 116 0 0 h13).bind (fun h14 =>
  (c186 112 105 102 0 0 0 0 h14).bind (fun h15 =>
  (c186 113 101 108 115 101 0 0 h15).bind (fun h16 =>
  (c186 114 118 0 0 0 0 0 h16).bind (fun h17 =>
  (c186 115 108 97 115 116 0 0 h17).bind (fun h18 =>
  (c186 116 99 104 97 110 103 101 h18).bind (fun h19 =>
  (c186 117 100 114 111 112 0 0 h19).bind (fun h20 =>
  (c186 118 109 111 118 101 0 0 h20).bind (fun h21 =>
  (c186 119 114 101 110 97 109 101 h21).bind (fun h22 =>
  (c186 120 99 97 114 114 121 0 h22).bind (fun h23 =>
  (c186 121 99 104 101 99 107 0 h23).bind (fun h24 =>
  some h24)))))))))))))))))))))))
  else
  some h
set_option maxRecDepth 100000 in
theorem t185 {d : Nat} (hd : 3 ≤ d)  {h : hS} {w : mmW} {o : hS} (A : Abs h w)  (e : c185 h = some o) : hEv d 185 [vR 395] w (qV o) := by
  obtain ⟨d, rfl⟩ : ∃ d1, d = d1 + 1 := ⟨d - 1, by omega⟩
  have hd : 2 ≤ d := by omega
  refine hEv_start (args := [vr 395]) (nl := 1) rfl (Nat.le_of_ble_eq_true rfl) ?_
  show hG d 185 0 [some (vr 395)] [] w _
  have kr : ∀ h1 : hS, o = h1 → ∀ w', Abs h1 w' → qV o (none, w') := fun h1 q w' A' => by cases q; exact ⟨rfl, A'⟩
  unfold c185 at e
  refine hg_run 1 (pc' := 1) (ls' := [some (vr 395)]) (st' := [vR 395]) rfl ?_
  refine gs_395_9 rfl A ?_
  rcases oi e with ⟨q1, e⟩ | ⟨q1, e⟩
  · refine hg_ifT (tgt := 8) rfl (by decide) (Abs_rg A 395 9) q1 ?_
    refine hg_run 2 (pc' := 10) (ls' := [some (vr 395)]) (st' := [vI 1, vR 395]) rfl ?_
    obtain ⟨h2, e2, e⟩ := ob e
    refine ps_395_9 rfl A (rgn 1 rfl) (.inr rfl) e2 (fun w2 A2 => ?_)
    refine hg_run 8 (pc' := 26) (ls' := [some (vr 395)]) (st' := [vI 0, vI 0, vI 100, vI 110, vI 105, vI 107, vI 100, vR 395]) rfl ?_
    obtain ⟨h3, e3, e⟩ := ob e
    refine hg_cV (as := [vR 395, vI 100, vI 107, vI 105, vI 110, vI 100, vI 0, vI 0]) (st' := []) rfl (fun _ _ _ _ => rfl) rfl rfl (Nat.le_of_ble_eq_true rfl) (Nat.le_of_ble_eq_true rfl) (recvV A2 (a := 13) (Abs_ks A2 (i := 23) rfl).1) (t186 (by omega) A2 (rgn 100 rfl) (rgn 107 rfl) (rgn 105 rfl) (rgn 110 rfl) (rgn 100 rfl) (rgn 0 rfl) (rgn 0 rfl) e3) (fun w3 A3 => ?_)
    refine hg_run 8 (pc' := 43) (ls' := [some (vr 395)]) (st' := [vI 0, vI 114, vI 101, vI 100, vI 110, vI 117, vI 101, vR 395]) rfl ?_
    obtain ⟨h4, e4, e⟩ := ob e
    refine hg_cV (as := [vR 395, vI 101, vI 117, vI 110, vI 100, vI 101, vI 114, vI 0]) (st' := []) rfl (fun _ _ _ _ => rfl) rfl rfl (Nat.le_of_ble_eq_true rfl) (Nat.le_of_ble_eq_true rfl) (recvV A3 (a := 13) (Abs_ks A3 (i := 23) rfl).1) (t186 (by omega) A3 (rgn 101 rfl) (rgn 117 rfl) (rgn 110 rfl) (rgn 100 rfl) (rgn 101 rfl) (rgn 114 rfl) (rgn 0 rfl) e4) (fun w4 A4 => ?_)
    refine hg_run 8 (pc' := 60) (ls' := [some (vr 395)]) (st' := [vI 0, vI 100, vI 108, vI 101, vI 105, vI 102, vI 102, vR 395]) rfl ?_
    obtain ⟨h5, e5, e⟩ := ob e
    refine hg_cV (as := [vR 395, vI 102, vI 102, vI 105, vI 101, vI 108, vI 100, vI 0]) (st' := []) rfl (fun _ _ _ _ => rfl) rfl rfl (Nat.le_of_ble_eq_true rfl) (Nat.le_of_ble_eq_true rfl) (recvV A4 (a := 13) (Abs_ks A4 (i := 23) rfl).1) (t186 (by omega) A4 (rgn 102 rfl) (rgn 102 rfl) (rgn 105 rfl) (rgn 101 rfl) (rgn 108 rfl) (rgn 100 rfl) (rgn 0 rfl) e5) (fun w5 A5 => ?_)
    refine hg_run 8 (pc' := 76) (ls' := [some (vr 395)]) (st' := [vI 0, vI 0, vI 107, vI 110, vI 105, vI 108, vI 103, vR 395]) rfl ?_
    obtain ⟨h6, e6, e⟩ := ob e
    refine hg_cV (as := [vR 395, vI 103, vI 108, vI 105, vI 110, vI 107, vI 0, vI 0]) (st' := []) rfl (fun _ _ _ _ => rfl) rfl rfl (Nat.le_of_ble_eq_true rfl) (Nat.le_of_ble_eq_true rfl) (recvV A5 (a := 13) (Abs_ks A5 (i := 23) rfl).1) (t186 (by omega) A5 (rgn 103 rfl) (rgn 108 rfl) (rgn 105 rfl) (rgn 110 rfl) (rgn 107 rfl) (rgn 0 rfl) (rgn 0 rfl) e6) (fun w6 A6 => ?_)
    refine hg_run 8 (pc' := 94) (ls' := [some (vr 395)]) (st' := [vI 99, vI 105, vI 116, vI 97, vI 116, vI 115, vI 104, vR 395]) rfl ?_
    obtain ⟨h7, e7, e⟩ := ob e
    refine hg_cV (as := [vR 395, vI 104, vI 115, vI 116, vI 97, vI 116, vI 105, vI 99]) (st' := []) rfl (fun _ _ _ _ => rfl) rfl rfl (Nat.le_of_ble_eq_true rfl) (Nat.le_of_ble_eq_true rfl) (recvV A6 (a := 13) (Abs_ks A6 (i := 23) rfl).1) (t186 (by omega) A6 (rgn 104 rfl) (rgn 115 rfl) (rgn 116 rfl) (rgn 97 rfl) (rgn 116 rfl) (rgn 105 rfl) (rgn 99 rfl) e7) (fun w7 A7 => ?_)
    refine hg_run 8 (pc' := 109) (ls' := [some (vr 395)]) (st' := [vI 0, vI 0, vI 0, vI 116, vI 99, vI 97, vI 105, vR 395]) rfl ?_
    obtain ⟨h8, e8, e⟩ := ob e
    refine hg_cV (as := [vR 395, vI 105, vI 97, vI 99, vI 116, vI 0, vI 0, vI 0]) (st' := []) rfl (fun _ _ _ _ => rfl) rfl rfl (Nat.le_of_ble_eq_true rfl) (Nat.le_of_ble_eq_true rfl) (recvV A7 (a := 13) (Abs_ks A7 (i := 23) rfl).1) (t186 (by omega) A7 (rgn 105 rfl) (rgn 97 rfl) (rgn 99 rfl) (rgn 116 rfl) (rgn 0 rfl) (rgn 0 rfl) (rgn 0 rfl) e8) (fun w8 A8 => ?_)
    refine hg_run 8 (pc' := 125) (ls' := [some (vr 395)]) (st' := [vI 0, vI 0, vI 101, vI 118, vI 105, vI 103, vI 106, vR 395]) rfl ?_
    obtain ⟨h9, e9, e⟩ := ob e
    refine hg_cV (as := [vR 395, vI 106, vI 103, vI 105, vI 118, vI 101, vI 0, vI 0]) (st' := []) rfl (fun _ _ _ _ => rfl) rfl rfl (Nat.le_of_ble_eq_true rfl) (Nat.le_of_ble_eq_true rfl) (recvV A8 (a := 13) (Abs_ks A8 (i := 23) rfl).1) (t186 (by omega) A8 (rgn 106 rfl) (rgn 103 rfl) (rgn 105 rfl) (rgn 118 rfl) (rgn 101 rfl) (rgn 0 rfl) (rgn 0 rfl) e9) (fun w9 A9 => ?_)
    refine hg_run 8 (pc' := 141) (ls' := [some (vr 395)]) (st' := [vI 0, vI 0, vI 108, vI 105, vI 97, vI 102, vI 107, vR 395]) rfl ?_
    obtain ⟨h10, e10, e⟩ := ob e
    refine hg_cV (as := [vR 395, vI 107, vI 102, vI 97, vI 105, vI 108, vI 0, vI 0]) (st' := []) rfl (fun _ _ _ _ => rfl) rfl rfl (Nat.le_of_ble_eq_true rfl) (Nat.le_of_ble_eq_true rfl) (recvV A9 (a := 13) (Abs_ks A9 (i := 23) rfl).1) (t186 (by omega) A9 (rgn 107 rfl) (rgn 102 rfl) (rgn 97 rfl) (rgn 105 rfl) (rgn 108 rfl) (rgn 0 rfl) (rgn 0 rfl) e10) (fun w10 A10 => ?_)
    refine hg_run 8 (pc' := 158) (ls' := [some (vr 395)]) (st' := [vI 0, vI 101, vI 118, vI 111, vI 98, vI 97, vI 108, vR 395]) rfl ?_
    obtain ⟨h11, e11, e⟩ := ob e
    refine hg_cV (as := [vR 395, vI 108, vI 97, vI 98, vI 111, vI 118, vI 101, vI 0]) (st' := []) rfl (fun _ _ _ _ => rfl) rfl rfl (Nat.le_of_ble_eq_true rfl) (Nat.le_of_ble_eq_true rfl) (recvV A10 (a := 13) (Abs_ks A10 (i := 23) rfl).1) (t186 (by omega) A10 (rgn 108 rfl) (rgn 97 rfl) (rgn 98 rfl) (rgn 111 rfl) (rgn 118 rfl) (rgn 101 rfl) (rgn 0 rfl) e11) (fun w11 A11 => ?_)
    refine hg_run 8 (pc' := 172) (ls' := [some (vr 395)]) (st' := [vI 0, vI 0, vI 0, vI 0, vI 111, vI 100, vI 109, vR 395]) rfl ?_
    obtain ⟨h12, e12, e⟩ := ob e
    refine hg_cV (as := [vR 395, vI 109, vI 100, vI 111, vI 0, vI 0, vI 0, vI 0]) (st' := []) rfl (fun _ _ _ _ => rfl) rfl rfl (Nat.le_of_ble_eq_true rfl) (Nat.le_of_ble_eq_true rfl) (recvV A11 (a := 13) (Abs_ks A11 (i := 23) rfl).1) (t186 (by omega) A11 (rgn 109 rfl) (rgn 100 rfl) (rgn 111 rfl) (rgn 0 rfl) (rgn 0 rfl) (rgn 0 rfl) (rgn 0 rfl) e12) (fun w12 A12 => ?_)
    refine hg_run 8 (pc' := 188) (ls' := [some (vr 395)]) (st' := [vI 0, vI 0, vI 100, vI 110, vI 101, vI 115, vI 110, vR 395]) rfl ?_
    obtain ⟨h13, e13, e⟩ := ob e
    refine hg_cV (as := [vR 395, vI 110, vI 115, vI 101, vI 110, vI 100, vI 0, vI 0]) (st' := []) rfl (fun _ _ _ _ => rfl) rfl rfl (Nat.le_of_ble_eq_true rfl) (Nat.le_of_ble_eq_true rfl) (recvV A12 (a := 13) (Abs_ks A12 (i := 23) rfl).1) (t186 (by omega) A12 (rgn 110 rfl) (rgn 115 rfl) (rgn 101 rfl) (rgn 110 rfl) (rgn 100 rfl) (rgn 0 rfl) (rgn 0 rfl) e13) (fun w13 A13 => ?_)
    refine hg_run 8 (pc' := 204) (ls' := [some (vr 395)]) (st' := [vI 0, vI 0, vI 116, vI 115, vI 101, vI 114, vI 111, vR 395]) rfl ?_
    obtain ⟨h14, e14, e⟩ := ob e
    refine hg_cV (as := [vR 395, vI 111, vI 114, vI 101, vI 115, vI 116, vI 0, vI 0]) (st' := []) rfl (fun _ _ _ _ => rfl) rfl rfl (Nat.le_of_ble_eq_true rfl) (Nat.le_of_ble_eq_true rfl) (recvV A13 (a := 13) (Abs_ks A13 (i := 23) rfl).1) (t186 (by omega) A13 (rgn 111 rfl) (rgn 114 rfl) (rgn 101 rfl) (rgn 115 rfl) (rgn 116 rfl) (rgn 0 rfl) (rgn 0 rfl) e14) (fun w14 A14 => ?_)
    refine hg_run 8 (pc' := 218) (ls' := [some (vr 395)]) (st' := [vI 0, vI 0, vI 0, vI 0, vI 102, vI 105, vI 112, vR 395]) rfl ?_
    obtain ⟨h15, e15, e⟩ := ob e
    refine hg_cV (as := [vR 395, vI 112, vI 105, vI 102, vI 0, vI 0, vI 0, vI 0]) (st' := []) rfl (fun _ _ _ _ => rfl) rfl rfl (Nat.le_of_ble_eq_true rfl) (Nat.le_of_ble_eq_true rfl) (recvV A14 (a := 13) (Abs_ks A14 (i := 23) rfl).1) (t186 (by omega) A14 (rgn 112 rfl) (rgn 105 rfl) (rgn 102 rfl) (rgn 0 rfl) (rgn 0 rfl) (rgn 0 rfl) (rgn 0 rfl) e15) (fun w15 A15 => ?_)
    refine hg_run 8 (pc' := 234) (ls' := [some (vr 395)]) (st' := [vI 0, vI 0, vI 101, vI 115, vI 108, vI 101, vI 113, vR 395]) rfl ?_
    obtain ⟨h16, e16, e⟩ := ob e
    refine hg_cV (as := [vR 395, vI 113, vI 101, vI 108, vI 115, vI 101, vI 0, vI 0]) (st' := []) rfl (fun _ _ _ _ => rfl) rfl rfl (Nat.le_of_ble_eq_true rfl) (Nat.le_of_ble_eq_true rfl) (recvV A15 (a := 13) (Abs_ks A15 (i := 23) rfl).1) (t186 (by omega) A15 (rgn 113 rfl) (rgn 101 rfl) (rgn 108 rfl) (rgn 115 rfl) (rgn 101 rfl) (rgn 0 rfl) (rgn 0 rfl) e16) (fun w16 A16 => ?_)
    refine hg_run 8 (pc' := 247) (ls' := [some (vr 395)]) (st' := [vI 0, vI 0, vI 0, vI 0, vI 0, vI 118, vI 114, vR 395]) rfl ?_
    obtain ⟨h17, e17, e⟩ := ob e
    refine hg_cV (as := [vR 395, vI 114, vI 118, vI 0, vI 0, vI 0, vI 0, vI 0]) (st' := []) rfl (fun _ _ _ _ => rfl) rfl rfl (Nat.le_of_ble_eq_true rfl) (Nat.le_of_ble_eq_true rfl) (recvV A16 (a := 13) (Abs_ks A16 (i := 23) rfl).1) (t186 (by omega) A16 (rgn 114 rfl) (rgn 118 rfl) (rgn 0 rfl) (rgn 0 rfl) (rgn 0 rfl) (rgn 0 rfl) (rgn 0 rfl) e17) (fun w17 A17 => ?_)
    refine hg_run 8 (pc' := 263) (ls' := [some (vr 395)]) (st' := [vI 0, vI 0, vI 116, vI 115, vI 97, vI 108, vI 115, vR 395]) rfl ?_
    obtain ⟨h18, e18, e⟩ := ob e
    refine hg_cV (as := [vR 395, vI 115, vI 108, vI 97, vI 115, vI 116, vI 0, vI 0]) (st' := []) rfl (fun _ _ _ _ => rfl) rfl rfl (Nat.le_of_ble_eq_true rfl) (Nat.le_of_ble_eq_true rfl) (recvV A17 (a := 13) (Abs_ks A17 (i := 23) rfl).1) (t186 (by omega) A17 (rgn 115 rfl) (rgn 108 rfl) (rgn 97 rfl) (rgn 115 rfl) (rgn 116 rfl) (rgn 0 rfl) (rgn 0 rfl) e18) (fun w18 A18 => ?_)
    refine hg_run 8 (pc' := 281) (ls' := [some (vr 395)]) (st' := [vI 101, vI 103, vI 110, vI 97, vI 104, vI 99, vI 116, vR 395]) rfl ?_
    obtain ⟨h19, e19, e⟩ := ob e
    refine hg_cV (as := [vR 395, vI 116, vI 99, vI 104, vI 97, vI 110, vI 103, vI 101]) (st' := []) rfl (fun _ _ _ _ => rfl) rfl rfl (Nat.le_of_ble_eq_true rfl) (Nat.le_of_ble_eq_true rfl) (recvV A18 (a := 13) (Abs_ks A18 (i := 23) rfl).1) (t186 (by omega) A18 (rgn 116 rfl) (rgn 99 rfl) (rgn 104 rfl) (rgn 97 rfl) (rgn 110 rfl) (rgn 103 rfl) (rgn 101 rfl) e19) (fun w19 A19 => ?_)
    refine hg_run 8 (pc' := 297) (ls' := [some (vr 395)]) (st' := [vI 0, vI 0, vI 112, vI 111, vI 114, vI 100, vI 117, vR 395]) rfl ?_
    obtain ⟨h20, e20, e⟩ := ob e
    refine hg_cV (as := [vR 395, vI 117, vI 100, vI 114, vI 111, vI 112, vI 0, vI 0]) (st' := []) rfl (fun _ _ _ _ => rfl) rfl rfl (Nat.le_of_ble_eq_true rfl) (Nat.le_of_ble_eq_true rfl) (recvV A19 (a := 13) (Abs_ks A19 (i := 23) rfl).1) (t186 (by omega) A19 (rgn 117 rfl) (rgn 100 rfl) (rgn 114 rfl) (rgn 111 rfl) (rgn 112 rfl) (rgn 0 rfl) (rgn 0 rfl) e20) (fun w20 A20 => ?_)
    refine hg_run 8 (pc' := 313) (ls' := [some (vr 395)]) (st' := [vI 0, vI 0, vI 101, vI 118, vI 111, vI 109, vI 118, vR 395]) rfl ?_
    obtain ⟨h21, e21, e⟩ := ob e
    refine hg_cV (as := [vR 395, vI 118, vI 109, vI 111, vI 118, vI 101, vI 0, vI 0]) (st' := []) rfl (fun _ _ _ _ => rfl) rfl rfl (Nat.le_of_ble_eq_true rfl) (Nat.le_of_ble_eq_true rfl) (recvV A20 (a := 13) (Abs_ks A20 (i := 23) rfl).1) (t186 (by omega) A20 (rgn 118 rfl) (rgn 109 rfl) (rgn 111 rfl) (rgn 118 rfl) (rgn 101 rfl) (rgn 0 rfl) (rgn 0 rfl) e21) (fun w21 A21 => ?_)
    refine hg_run 8 (pc' := 331) (ls' := [some (vr 395)]) (st' := [vI 101, vI 109, vI 97, vI 110, vI 101, vI 114, vI 119, vR 395]) rfl ?_
    obtain ⟨h22, e22, e⟩ := ob e
    refine hg_cV (as := [vR 395, vI 119, vI 114, vI 101, vI 110, vI 97, vI 109, vI 101]) (st' := []) rfl (fun _ _ _ _ => rfl) rfl rfl (Nat.le_of_ble_eq_true rfl) (Nat.le_of_ble_eq_true rfl) (recvV A21 (a := 13) (Abs_ks A21 (i := 23) rfl).1) (t186 (by omega) A21 (rgn 119 rfl) (rgn 114 rfl) (rgn 101 rfl) (rgn 110 rfl) (rgn 97 rfl) (rgn 109 rfl) (rgn 101 rfl) e22) (fun w22 A22 => ?_)
    refine hg_run 8 (pc' := 348) (ls' := [some (vr 395)]) (st' := [vI 0, vI 121, vI 114, vI 114, vI 97, vI 99, vI 120, vR 395]) rfl ?_
    obtain ⟨h23, e23, e⟩ := ob e
    refine hg_cV (as := [vR 395, vI 120, vI 99, vI 97, vI 114, vI 114, vI 121, vI 0]) (st' := []) rfl (fun _ _ _ _ => rfl) rfl rfl (Nat.le_of_ble_eq_true rfl) (Nat.le_of_ble_eq_true rfl) (recvV A22 (a := 13) (Abs_ks A22 (i := 23) rfl).1) (t186 (by omega) A22 (rgn 120 rfl) (rgn 99 rfl) (rgn 97 rfl) (rgn 114 rfl) (rgn 114 rfl) (rgn 121 rfl) (rgn 0 rfl) e23) (fun w23 A23 => ?_)
    refine hg_run 8 (pc' := 365) (ls' := [some (vr 395)]) (st' := [vI 0, vI 107, vI 99, vI 101, vI 104, vI 99, vI 121, vR 395]) rfl ?_
    obtain ⟨h24, e24, e⟩ := ob e
    refine hg_cV (as := [vR 395, vI 121, vI 99, vI 104, vI 101, vI 99, vI 107, vI 0]) (st' := []) rfl (fun _ _ _ _ => rfl) rfl rfl (Nat.le_of_ble_eq_true rfl) (Nat.le_of_ble_eq_true rfl) (recvV A23 (a := 13) (Abs_ks A23 (i := 23) rfl).1) (t186 (by omega) A23 (rgn 121 rfl) (rgn 99 rfl) (rgn 104 rfl) (rgn 101 rfl) (rgn 99 rfl) (rgn 107 rfl) (rgn 0 rfl) e24) (fun w24 A24 => ?_)
    cases e
    exact hg_retV rfl (kr _ rfl _ A24)
  · refine hg_ifF (tgt := 8) rfl (by decide) (Abs_rg A 395 9) q1 ?_
    cases e
    exact hg_retV rfl (kr _ rfl _ A)
def c189 (l1 : Int) (h : hS) : Option (Int) :=
  if (hI h 395 1) ≤ l1 then
  some (-1)
  else
  (aIs h 396 1000 l1).bind (fun v2 =>
  some v2)
theorem t189 {d : Nat} (hd : 1 ≤ d) {l1 : Int} {h : hS} {w : mmW} {o : Int} (A : Abs h w) (rl1 : rg l1) (e : c189 l1 h = some o) : hEv d 189 [vR 395, vI l1] w (qIp o w) := by
  obtain ⟨d, rfl⟩ : ∃ d1, d = d1 + 1 := ⟨d - 1, by omega⟩
  have hd : 0 ≤ d := by omega
  refine hEv_start (args := [vr 395, vi l1]) (nl := 2) rfl (Nat.le_of_ble_eq_true rfl) ?_
  show hG d 189 0 [some (vr 395), some (vi l1)] [] w _
  have kr : ∀ v1 : Int, o = v1 → rg v1 → qIp o w (some (.int (Int32.ofInt v1)), w) := fun v1 q r => by cases q; exact ⟨rfl, r⟩
  unfold c189 at e
  refine hg_run 2 (pc' := 2) (ls' := [some (vr 395), some (vi l1)]) (st' := [vR 395, vI l1]) rfl ?_
  refine gs_395_1 rfl A ?_
  rcases oi e with ⟨q1, e⟩ | ⟨q1, e⟩
  · refine hg_icT (tgt := 17) rfl (by decide) rl1 (Abs_rg A 395 1) q1 ?_
    refine hg_run 1 (pc' := 18) (ls' := [some (vr 395), some (vi l1)]) (st' := [vI (-1)]) rfl ?_
    cases e
    exact hg_retI rfl (by decide) (fit_I _) (kr _ rfl (rgn (-1) rfl))
  · refine hg_icF (tgt := 17) rfl (by decide) rl1 (Abs_rg A 395 1) q1 ?_
    refine hg_run 1 (pc' := 9) (ls' := [some (vr 395), some (vi l1)]) (st' := [vR 395]) rfl ?_
    refine gs_395_0 rfl A ?_
    refine hg_run 1 (pc' := 13) (ls' := [some (vr 395), some (vi l1)]) (st' := [vI l1, vR 396]) rfl ?_
    obtain ⟨v2, e2, e⟩ := ob e
    refine hg_aIs 0 rfl (fun _ _ _ _ => rfl) A (Abs_ks A (i := 24) rfl) rfl (by decide) e2 (fun r2 => ?_)
    refine hg_run 1 (pc' := 18) (ls' := [some (vr 395), some (vi l1)]) (st' := [vI v2]) rfl ?_
    cases e
    exact hg_retI rfl (by decide) (fit_I _) (kr _ rfl r2)
def c191 (l0 : Int) (l1 : Int) (l2 : Int) (h : hS) : Option (Int) :=
  if l0 < l1 then
  some 0
  else
  if l2 < l0 then
  some 0
  else
  some 1
theorem t191 {d : Nat} (hd : 1 ≤ d) {l0 : Int} {l1 : Int} {l2 : Int} {h : hS} {w : mmW} {o : Int} (A : Abs h w) (rl0 : rg l0) (rl1 : rg l1) (rl2 : rg l2) (e : c191 l0 l1 l2 h = some o) : hEv d 191 [vI l0, vI l1, vI l2] w (qIp o w) := by
  obtain ⟨d, rfl⟩ : ∃ d1, d = d1 + 1 := ⟨d - 1, by omega⟩
  have hd : 0 ≤ d := by omega
  refine hEv_start (args := [vi l0, vi l1, vi l2]) (nl := 3) rfl (Nat.le_of_ble_eq_true rfl) ?_
  show hG d 191 0 [some (vi l0), some (vi l1), some (vi l2)] [] w _
  have kr : ∀ v1 : Int, o = v1 → rg v1 → qIp o w (some (.int (Int32.ofInt v1)), w) := fun v1 q r => by cases q; exact ⟨rfl, r⟩
  unfold c191 at e
  refine hg_run 2 (pc' := 2) (ls' := [some (vi l0), some (vi l1), some (vi l2)]) (st' := [vI l1, vI l0]) rfl ?_
  rcases oi e with ⟨q1, e⟩ | ⟨q1, e⟩
  · refine hg_icT (tgt := 14) rfl (by decide) rl0 rl1 q1 ?_
    refine hg_run 1 (pc' := 15) (ls' := [some (vi l0), some (vi l1), some (vi l2)]) (st' := [vI 0]) rfl ?_
    cases e
    exact hg_retI rfl (by decide) (fit_B (.inl rfl)) (kr _ rfl (rgn 0 rfl))
  · refine hg_icF (tgt := 14) rfl (by decide) rl0 rl1 q1 ?_
    refine hg_run 2 (pc' := 7) (ls' := [some (vi l0), some (vi l1), some (vi l2)]) (st' := [vI l2, vI l0]) rfl ?_
    rcases oi e with ⟨q2, e⟩ | ⟨q2, e⟩
    · refine hg_icT (tgt := 14) rfl (by decide) rl0 rl2 q2 ?_
      refine hg_run 1 (pc' := 15) (ls' := [some (vi l0), some (vi l1), some (vi l2)]) (st' := [vI 0]) rfl ?_
      cases e
      exact hg_retI rfl (by decide) (fit_B (.inl rfl)) (kr _ rfl (rgn 0 rfl))
    · refine hg_icF (tgt := 14) rfl (by decide) rl0 rl2 q2 ?_
      refine hg_run 2 (pc' := 15) (ls' := [some (vi l0), some (vi l1), some (vi l2)]) (st' := [vI 1]) rfl ?_
      cases e
      exact hg_retI rfl (by decide) (fit_B (.inr rfl)) (kr _ rfl (rgn 1 rfl))
def c190 (l0 : Int) (h : hS) : Option (Int) :=
  (c191 l0 97 122 h).bind (fun v1 =>
  (kB v1).bind (fun u2 =>
  some v1))
theorem t190 {d : Nat} (hd : 2 ≤ d) {l0 : Int} {h : hS} {w : mmW} {o : Int} (A : Abs h w) (rl0 : rg l0) (e : c190 l0 h = some o) : hEv d 190 [vI l0] w (qIp o w) := by
  obtain ⟨d, rfl⟩ : ∃ d1, d = d1 + 1 := ⟨d - 1, by omega⟩
  have hd : 1 ≤ d := by omega
  refine hEv_start (args := [vi l0]) (nl := 1) rfl (Nat.le_of_ble_eq_true rfl) ?_
  show hG d 190 0 [some (vi l0)] [] w _
  have kr : ∀ v1 : Int, o = v1 → rg v1 → qIp o w (some (.int (Int32.ofInt v1)), w) := fun v1 q r => by cases q; exact ⟨rfl, r⟩
  unfold c190 at e
  refine hg_run 3 (pc' := 5) (ls' := [some (vi l0)]) (st' := [vI 122, vI 97, vI l0]) rfl ?_
  obtain ⟨v1, e1, e⟩ := ob e
  refine hg_cIp (as := [vI l0, vI 97, vI 122]) (st' := []) rfl (fun _ _ _ _ => rfl) rfl rfl (Nat.le_of_ble_eq_true rfl) (Nat.le_of_ble_eq_true rfl) recv0 (t191 (by omega) A rl0 (rgn 97 rfl) (rgn 122 rfl) e1) (fun r1 => ?_)
  obtain ⟨u2, e2, e⟩ := ob e
  cases e
  exact hg_retI rfl (by decide) (fit_B (kB_e e2)) (kr _ rfl r1)
def c192_j22  : Option (Int) :=
  some 1
theorem t192_j22 {d : Nat} (hd : 1 ≤ d)  {z0 : Option hO} {h : hS} {w : mmW} {o : Int} {Q : mmO → Prop}  (A : Abs h w) (e : c192_j22  = some o) (kr : ∀ v1 : Int, o = v1 → rg v1 → Q (some (.int (Int32.ofInt v1)), w)) : hG d 192 22 [z0] [] w Q := by
  unfold c192_j22 at e
  refine hg_run 2 (pc' := 27) (ls' := [z0]) (st' := [vI 1]) rfl ?_
  cases e
  exact hg_retI rfl (by decide) (fit_B (.inr rfl)) (kr _ rfl (rgn 1 rfl))
def c192 (l0 : Int) (h : hS) : Option (Int) :=
  (c191 l0 97 122 h).bind (fun v1 =>
  if v1 = 0 then
  (c191 l0 65 90 h).bind (fun v3 =>
  if v3 = 0 then
  some 0
  else
  c192_j22 )
  else
  c192_j22 )
theorem t192 {d : Nat} (hd : 2 ≤ d) {l0 : Int} {h : hS} {w : mmW} {o : Int} (A : Abs h w) (rl0 : rg l0) (e : c192 l0 h = some o) : hEv d 192 [vI l0] w (qIp o w) := by
  obtain ⟨d, rfl⟩ : ∃ d1, d = d1 + 1 := ⟨d - 1, by omega⟩
  have hd : 1 ≤ d := by omega
  refine hEv_start (args := [vi l0]) (nl := 1) rfl (Nat.le_of_ble_eq_true rfl) ?_
  show hG d 192 0 [some (vi l0)] [] w _
  have kr : ∀ v1 : Int, o = v1 → rg v1 → qIp o w (some (.int (Int32.ofInt v1)), w) := fun v1 q r => by cases q; exact ⟨rfl, r⟩
  unfold c192 at e
  refine hg_run 3 (pc' := 5) (ls' := [some (vi l0)]) (st' := [vI 122, vI 97, vI l0]) rfl ?_
  obtain ⟨v1, e1, e⟩ := ob e
  refine hg_cIp (as := [vI l0, vI 97, vI 122]) (st' := []) rfl (fun _ _ _ _ => rfl) rfl rfl (Nat.le_of_ble_eq_true rfl) (Nat.le_of_ble_eq_true rfl) recv0 (t191 (by omega) A rl0 (rgn 97 rfl) (rgn 122 rfl) e1) (fun r1 => ?_)
  rcases oi e with ⟨q2, e⟩ | ⟨q2, e⟩
  · refine hg_ifF (tgt := 22) rfl (by decide) r1 (show ¬ ¬ (v1 = 0) from fun f => f q2) ?_
    refine hg_run 3 (pc' := 16) (ls' := [some (vi l0)]) (st' := [vI 90, vI 65, vI l0]) rfl ?_
    obtain ⟨v3, e3, e⟩ := ob e
    refine hg_cIp (as := [vI l0, vI 65, vI 90]) (st' := []) rfl (fun _ _ _ _ => rfl) rfl rfl (Nat.le_of_ble_eq_true rfl) (Nat.le_of_ble_eq_true rfl) recv0 (t191 (by omega) A rl0 (rgn 65 rfl) (rgn 90 rfl) e3) (fun r3 => ?_)
    rcases oi e with ⟨q4, e⟩ | ⟨q4, e⟩
    · refine hg_ifT (tgt := 26) rfl (by decide) r3 q4 ?_
      refine hg_run 1 (pc' := 27) (ls' := [some (vi l0)]) (st' := [vI 0]) rfl ?_
      cases e
      exact hg_retI rfl (by decide) (fit_B (.inl rfl)) (kr _ rfl (rgn 0 rfl))
    · refine hg_ifF (tgt := 26) rfl (by decide) r3 q4 ?_
      exact t192_j22 hd  A e kr
  · refine hg_ifT (tgt := 22) rfl (by decide) r1 (show ¬ (v1 = 0) from q2) ?_
    exact t192_j22 hd  A e kr
def c188_j26 (h : hS) : Option ((hS) ⊕ (hS)) :=
  (some (sI h 395 2 (wadd (hI h 395 2) 1))).bind (fun h3 =>
  some (.inl (h3)))
set_option maxRecDepth 100000 in
theorem t188_j26 {d : Nat} (hd : 2 ≤ d)  {z1 : Option hO} {z2 : Option hO} {z3 : Option hO} {h : hS} {w : mmW} {o : (hS) ⊕ (hS)} {Q : mmO → Prop}  (A : Abs h w) (e : c188_j26 h = some o) (kb : ∀ (s_0 : hS), o = .inl (s_0) → ∀ w', Abs s_0 w' → hG d 188 0 [some (vr 395), z1, z2, z3] [] w' Q) (ke : ∀ (x_0 : hS), o = .inr (x_0) → ∀ w', Abs x_0 w' → hG d 188 39 [some (vr 395), z1, z2, z3] [] w' Q) : hG d 188 26 [some (vr 395), z1, z2, z3] [] w Q := by
  unfold c188_j26 at e
  refine hg_run 2 (pc' := 28) (ls' := [some (vr 395), z1, z2, z3]) (st' := [vR 395, vR 395]) rfl ?_
  refine gs_395_2 rfl A ?_
  refine hg_run 2 (pc' := 33) (ls' := [some (vr 395), z1, z2, z3]) (st' := [vI (wadd (hI h 395 2) 1), vR 395]) rfl ?_
  obtain ⟨h3, e3, e⟩ := ob e
  refine ps_395_2 rfl A (rg_add _ _) e3 (fun w3 A3 => ?_)
  refine hg_run 1 (pc' := 0) (ls' := [some (vr 395), z1, z2, z3]) (st' := []) rfl ?_
  cases e
  exact kb h3 rfl _  A3
def c188_b0 (h : hS) : Option ((hS) ⊕ (hS)) :=
  (c189 (hI h 395 2) h).bind (fun v1 =>
  if v1 = 32 then
  c188_j26 h
  else
  (c189 (hI h 395 2) h).bind (fun v4 =>
  if v4 = 10 then
  c188_j26 h
  else
  some (.inr (h))))
set_option maxRecDepth 100000 in
theorem t188_b0 {d : Nat} (hd : 2 ≤ d)  {z1 : Option hO} {z2 : Option hO} {z3 : Option hO} {h : hS} {w : mmW} {o : (hS) ⊕ (hS)} {Q : mmO → Prop}  (A : Abs h w) (e : c188_b0 h = some o) (kb : ∀ (s_0 : hS), o = .inl (s_0) → ∀ w', Abs s_0 w' → hG d 188 0 [some (vr 395), z1, z2, z3] [] w' Q) (ke : ∀ (x_0 : hS), o = .inr (x_0) → ∀ w', Abs x_0 w' → hG d 188 39 [some (vr 395), z1, z2, z3] [] w' Q) : hG d 188 0 [some (vr 395), z1, z2, z3] [] w Q := by
  unfold c188_b0 at e
  refine hg_run 2 (pc' := 2) (ls' := [some (vr 395), z1, z2, z3]) (st' := [vR 395, vR 395]) rfl ?_
  refine gs_395_2 rfl A ?_
  obtain ⟨v1, e1, e⟩ := ob e
  refine hg_cIp (as := [vR 395, vI (hI h 395 2)]) (st' := []) rfl (fun _ _ _ _ => rfl) rfl rfl (Nat.le_of_ble_eq_true rfl) (Nat.le_of_ble_eq_true rfl) (recvV A (a := 13) (Abs_ks A (i := 23) rfl).1) (t189 (by omega) A (Abs_rg A 395 2) e1) (fun r1 => ?_)
  refine hg_run 1 (pc' := 10) (ls' := [some (vr 395), z1, z2, z3]) (st' := [vI 32, vI v1]) rfl ?_
  rcases oi e with ⟨q2, e⟩ | ⟨q2, e⟩
  · refine hg_icT (tgt := 26) rfl (by decide) r1 (rgn 32 rfl) q2 ?_
    exact t188_j26 hd  A e kb ke
  · refine hg_icF (tgt := 26) rfl (by decide) r1 (rgn 32 rfl) q2 ?_
    refine hg_run 2 (pc' := 15) (ls' := [some (vr 395), z1, z2, z3]) (st' := [vR 395, vR 395]) rfl ?_
    refine gs_395_2 rfl A ?_
    obtain ⟨v4, e4, e⟩ := ob e
    refine hg_cIp (as := [vR 395, vI (hI h 395 2)]) (st' := []) rfl (fun _ _ _ _ => rfl) rfl rfl (Nat.le_of_ble_eq_true rfl) (Nat.le_of_ble_eq_true rfl) (recvV A (a := 13) (Abs_ks A (i := 23) rfl).1) (t189 (by omega) A (Abs_rg A 395 2) e4) (fun r4 => ?_)
    refine hg_run 1 (pc' := 23) (ls' := [some (vr 395), z1, z2, z3]) (st' := [vI 10, vI v4]) rfl ?_
    rcases oi e with ⟨q5, e⟩ | ⟨q5, e⟩
    · refine hg_icF (tgt := 39) rfl (by decide) r4 (rgn 10 rfl) (show ¬ ¬ (v4 = 10) from fun f => f q5) ?_
      exact t188_j26 hd  A e kb ke
    · refine hg_icT (tgt := 39) rfl (by decide) r4 (rgn 10 rfl) (show ¬ (v4 = 10) from q5) ?_
      cases e
      exact ke h rfl _  A
set_option maxRecDepth 100000 in
theorem t188_l0 {d : Nat} (hd : 2 ≤ d)  {z1 : Option hO} {z2 : Option hO} {z3 : Option hO} {Q : mmO → Prop}  (n : Nat)   {h : hS} {w : mmW} {r : hS}  (A : Abs h w) (e : lp (fun s => c188_b0  s) n (h) = some r) (ke : ∀ (x_0 : hS), r = (x_0) → ∀ w', Abs x_0 w' → hG d 188 39 [some (vr 395), z1, z2, z3] [] w' Q) : hG d 188 0 [some (vr 395), z1, z2, z3] [] w Q := by
  induction n generalizing h w with
  | zero => cases e
  | succ n ih =>
    rcases lp_succ e with ⟨s1, e1, e2⟩ | e1
    · exact t188_b0 hd  A e1 (fun s_0 q w1 A1 => by cases q; exact ih  A1 e2) (fun x_0 q => by cases q)
    · exact t188_b0 hd  A e1 (fun s_0 q => by cases q) (fun x_0 q => by cases q; exact ke _ rfl)
def c188_j395 (l1 : Int) (h : hS) : Option (hS) :=
  (some (sI h 395 2 (wadd (hI h 395 2) 1))).bind (fun h17 =>
  if l1 = 61 then
  (c189 (hI h17 395 2) h17).bind (fun v19 =>
  if v19 = 61 then
  (some (sI h17 395 3 201)).bind (fun h21 =>
  (some (sI h21 395 2 (wadd (hI h21 395 2) 1))).bind (fun h22 =>
  some h22))
  else
  some h17)
  else
  some h17)
set_option maxRecDepth 100000 in
theorem t188_j395 {d : Nat} (hd : 2 ≤ d) {l1 : Int} {z2 : Option hO} {z3 : Option hO} {h : hS} {w : mmW} {o : hS} {Q : mmO → Prop} (rl1 : rg l1) (A : Abs h w) (e : c188_j395 l1 h = some o) (kr : ∀ h1 : hS, o = h1 → ∀ w', Abs h1 w' → Q (none, w')) : hG d 188 395 [some (vr 395), some (vi l1), z2, z3] [] w Q := by
  unfold c188_j395 at e
  refine hg_run 2 (pc' := 397) (ls' := [some (vr 395), some (vi l1), z2, z3]) (st' := [vR 395, vR 395]) rfl ?_
  refine gs_395_2 rfl A ?_
  refine hg_run 2 (pc' := 402) (ls' := [some (vr 395), some (vi l1), z2, z3]) (st' := [vI (wadd (hI h 395 2) 1), vR 395]) rfl ?_
  obtain ⟨h17, e17, e⟩ := ob e
  refine ps_395_2 rfl A (rg_add _ _) e17 (fun w17 A17 => ?_)
  refine hg_run 2 (pc' := 408) (ls' := [some (vr 395), some (vi l1), z2, z3]) (st' := [vI 61, vI l1]) rfl ?_
  rcases oi e with ⟨q18, e⟩ | ⟨q18, e⟩
  · refine hg_icF (tgt := 441) rfl (by decide) rl1 (rgn 61 rfl) (show ¬ ¬ (l1 = 61) from fun f => f q18) ?_
    refine hg_run 2 (pc' := 413) (ls' := [some (vr 395), some (vi l1), z2, z3]) (st' := [vR 395, vR 395]) rfl ?_
    refine gs_395_2 rfl A17 ?_
    obtain ⟨v19, e19, e⟩ := ob e
    refine hg_cIp (as := [vR 395, vI (hI h17 395 2)]) (st' := []) rfl (fun _ _ _ _ => rfl) rfl rfl (Nat.le_of_ble_eq_true rfl) (Nat.le_of_ble_eq_true rfl) (recvV A17 (a := 13) (Abs_ks A17 (i := 23) rfl).1) (t189 (by omega) A17 (Abs_rg A17 395 2) e19) (fun r19 => ?_)
    refine hg_run 1 (pc' := 421) (ls' := [some (vr 395), some (vi l1), z2, z3]) (st' := [vI 61, vI v19]) rfl ?_
    rcases oi e with ⟨q20, e⟩ | ⟨q20, e⟩
    · refine hg_icF (tgt := 441) rfl (by decide) r19 (rgn 61 rfl) (show ¬ ¬ (v19 = 61) from fun f => f q20) ?_
      refine hg_run 2 (pc' := 428) (ls' := [some (vr 395), some (vi l1), z2, z3]) (st' := [vI 201, vR 395]) rfl ?_
      obtain ⟨h21, e21, e⟩ := ob e
      refine ps_395_3 rfl A17 (rgn 201 rfl) e21 (fun w21 A21 => ?_)
      refine hg_run 2 (pc' := 433) (ls' := [some (vr 395), some (vi l1), z2, z3]) (st' := [vR 395, vR 395]) rfl ?_
      refine gs_395_2 rfl A21 ?_
      refine hg_run 2 (pc' := 438) (ls' := [some (vr 395), some (vi l1), z2, z3]) (st' := [vI (wadd (hI h21 395 2) 1), vR 395]) rfl ?_
      obtain ⟨h22, e22, e⟩ := ob e
      refine ps_395_2 rfl A21 (rg_add _ _) e22 (fun w22 A22 => ?_)
      cases e
      exact hg_retV rfl (kr _ rfl _ A22)
    · refine hg_icT (tgt := 441) rfl (by decide) r19 (rgn 61 rfl) (show ¬ (v19 = 61) from q20) ?_
      cases e
      exact hg_retV rfl (kr _ rfl _ A17)
  · refine hg_icT (tgt := 441) rfl (by decide) rl1 (rgn 61 rfl) (show ¬ (l1 = 61) from q18) ?_
    cases e
    exact hg_retV rfl (kr _ rfl _ A17)
def c188_j381 (s0 : Int) (l1 : Int) (h : hS) : Option (hS) :=
  if s0 = 0 then
  c188_j395 l1 h
  else
  (some (sI h 395 3 (wadd 200 l1))).bind (fun h23 =>
  c188_j395 l1 h23)
set_option maxRecDepth 100000 in
theorem t188_j381 {d : Nat} (hd : 2 ≤ d) {s0 : Int} {l1 : Int} {z2 : Option hO} {z3 : Option hO} {h : hS} {w : mmW} {o : hS} {Q : mmO → Prop} (rs0 : rg s0) (rl1 : rg l1) (A : Abs h w) (e : c188_j381 s0 l1 h = some o) (kr : ∀ h1 : hS, o = h1 → ∀ w', Abs h1 w' → Q (none, w')) : hG d 188 381 [some (vr 395), some (vi l1), z2, z3] [vI s0] w Q := by
  unfold c188_j381 at e
  refine hg_run 2 (pc' := 383) (ls' := [some (vr 395), some (vi l1), some (vi s0), z3]) (st' := [vI s0]) rfl ?_
  rcases oi e with ⟨q16, e⟩ | ⟨q16, e⟩
  · refine hg_ifT (tgt := 395) rfl (by decide) rs0 q16 ?_
    exact t188_j395 hd rl1 A e kr
  · refine hg_ifF (tgt := 395) rfl (by decide) rs0 q16 ?_
    refine hg_run 4 (pc' := 392) (ls' := [some (vr 395), some (vi l1), some (vi s0), z3]) (st' := [vI (wadd 200 l1), vR 395]) rfl ?_
    obtain ⟨h23, e23, e⟩ := ob e
    refine ps_395_3 rfl A (rg_add _ _) e23 (fun w23 A23 => ?_)
    exact t188_j395 hd rl1 A23 e kr
def c188_j376 (l1 : Int) (h : hS) : Option (hS) :=
  c188_j381 1 l1 h
set_option maxRecDepth 100000 in
theorem t188_j376 {d : Nat} (hd : 2 ≤ d) {l1 : Int} {z2 : Option hO} {z3 : Option hO} {h : hS} {w : mmW} {o : hS} {Q : mmO → Prop} (rl1 : rg l1) (A : Abs h w) (e : c188_j376 l1 h = some o) (kr : ∀ h1 : hS, o = h1 → ∀ w', Abs h1 w' → Q (none, w')) : hG d 188 376 [some (vr 395), some (vi l1), z2, z3] [] w Q := by
  unfold c188_j376 at e
  refine hg_run 2 (pc' := 381) (ls' := [some (vr 395), some (vi l1), z2, z3]) (st' := [vI 1]) rfl ?_
  exact t188_j381 hd (rgn 1 rfl) rl1 A e kr
def c188_j266 (l2 : Int) (h : hS) : Option ((Int × hS) ⊕ (Int × hS)) :=
  (some (sI h 395 2 (wadd (hI h 395 2) 1))).bind (fun h39 =>
  some (.inl ((wadd l2 1), h39)))
set_option maxRecDepth 100000 in
theorem t188_j266 {d : Nat} (hd : 2 ≤ d) {l2 : Int} {z1 : Option hO} {z3 : Option hO} {h : hS} {w : mmW} {o : (Int × hS) ⊕ (Int × hS)} {Q : mmO → Prop} (rl2 : rg l2) (A : Abs h w) (e : c188_j266 l2 h = some o) (kb : ∀ (s_0 : Int) (s_1 : hS), o = .inl (s_0, s_1) → ∀ w', rg s_0 → Abs s_1 w' → hG d 188 219 [some (vr 395), z1, some (vi s_0), z3] [] w' Q) (ke : ∀ (x_0 : Int) (x_1 : hS), o = .inr (x_0, x_1) → ∀ w', rg x_0 → Abs x_1 w' → hG d 188 282 [some (vr 395), z1, some (vi x_0), z3] [] w' Q) : hG d 188 266 [some (vr 395), z1, some (vi l2), z3] [] w Q := by
  unfold c188_j266 at e
  refine hg_run 3 (pc' := 271) (ls' := [some (vr 395), z1, some (vi (wadd l2 1)), z3]) (st' := [vR 395, vR 395]) rfl ?_
  refine gs_395_2 rfl A ?_
  refine hg_run 2 (pc' := 276) (ls' := [some (vr 395), z1, some (vi (wadd l2 1)), z3]) (st' := [vI (wadd (hI h 395 2) 1), vR 395]) rfl ?_
  obtain ⟨h39, e39, e⟩ := ob e
  refine ps_395_2 rfl A (rg_add _ _) e39 (fun w39 A39 => ?_)
  refine hg_run 1 (pc' := 219) (ls' := [some (vr 395), z1, some (vi (wadd l2 1)), z3]) (st' := []) rfl ?_
  cases e
  exact kb (wadd l2 1) h39 rfl _ (rg_add _ _) A39
def c188_b219 (l2 : Int) (h : hS) : Option ((Int × hS) ⊕ (Int × hS)) :=
  (c189 (hI h 395 2) h).bind (fun v35 =>
  (c191 v35 48 57 h).bind (fun v36 =>
  if v36 = 0 then
  some (.inr (l2, h))
  else
  if 6 ≤ l2 then
  c188_j266 l2 h
  else
  (c189 (hI h 395 2) h).bind (fun v40 =>
  (some (sI h 395 5 (wsub (wadd (wmul 10 (hI h 395 5)) v40) 48))).bind (fun h41 =>
  c188_j266 l2 h41))))
set_option maxRecDepth 100000 in
theorem t188_b219 {d : Nat} (hd : 2 ≤ d) {l2 : Int} {z1 : Option hO} {z3 : Option hO} {h : hS} {w : mmW} {o : (Int × hS) ⊕ (Int × hS)} {Q : mmO → Prop} (rl2 : rg l2) (A : Abs h w) (e : c188_b219 l2 h = some o) (kb : ∀ (s_0 : Int) (s_1 : hS), o = .inl (s_0, s_1) → ∀ w', rg s_0 → Abs s_1 w' → hG d 188 219 [some (vr 395), z1, some (vi s_0), z3] [] w' Q) (ke : ∀ (x_0 : Int) (x_1 : hS), o = .inr (x_0, x_1) → ∀ w', rg x_0 → Abs x_1 w' → hG d 188 282 [some (vr 395), z1, some (vi x_0), z3] [] w' Q) : hG d 188 219 [some (vr 395), z1, some (vi l2), z3] [] w Q := by
  unfold c188_b219 at e
  refine hg_run 2 (pc' := 221) (ls' := [some (vr 395), z1, some (vi l2), z3]) (st' := [vR 395, vR 395]) rfl ?_
  refine gs_395_2 rfl A ?_
  obtain ⟨v35, e35, e⟩ := ob e
  refine hg_cIp (as := [vR 395, vI (hI h 395 2)]) (st' := []) rfl (fun _ _ _ _ => rfl) rfl rfl (Nat.le_of_ble_eq_true rfl) (Nat.le_of_ble_eq_true rfl) (recvV A (a := 13) (Abs_ks A (i := 23) rfl).1) (t189 (by omega) A (Abs_rg A 395 2) e35) (fun r35 => ?_)
  refine hg_run 2 (pc' := 231) (ls' := [some (vr 395), z1, some (vi l2), z3]) (st' := [vI 57, vI 48, vI v35]) rfl ?_
  obtain ⟨v36, e36, e⟩ := ob e
  refine hg_cIp (as := [vI v35, vI 48, vI 57]) (st' := []) rfl (fun _ _ _ _ => rfl) rfl rfl (Nat.le_of_ble_eq_true rfl) (Nat.le_of_ble_eq_true rfl) recv0 (t191 (by omega) A r35 (rgn 48 rfl) (rgn 57 rfl) e36) (fun r36 => ?_)
  rcases oi e with ⟨q37, e⟩ | ⟨q37, e⟩
  · refine hg_ifT (tgt := 282) rfl (by decide) r36 q37 ?_
    cases e
    exact ke l2 h rfl _ rl2 A
  · refine hg_ifF (tgt := 282) rfl (by decide) r36 q37 ?_
    refine hg_run 2 (pc' := 240) (ls' := [some (vr 395), z1, some (vi l2), z3]) (st' := [vI 6, vI l2]) rfl ?_
    rcases oi e with ⟨q38, e⟩ | ⟨q38, e⟩
    · refine hg_icT (tgt := 266) rfl (by decide) rl2 (rgn 6 rfl) q38 ?_
      exact t188_j266 hd rl2 A e kb ke
    · refine hg_icF (tgt := 266) rfl (by decide) rl2 (rgn 6 rfl) q38 ?_
      refine hg_run 3 (pc' := 247) (ls' := [some (vr 395), z1, some (vi l2), z3]) (st' := [vR 395, vI 10, vR 395]) rfl ?_
      refine gs_395_5 rfl A ?_
      refine hg_run 3 (pc' := 253) (ls' := [some (vr 395), z1, some (vi l2), z3]) (st' := [vR 395, vR 395, vI (wmul 10 (hI h 395 5)), vR 395]) rfl ?_
      refine gs_395_2 rfl A ?_
      obtain ⟨v40, e40, e⟩ := ob e
      refine hg_cIp (as := [vR 395, vI (hI h 395 2)]) (st' := [vI (wmul 10 (hI h 395 5)), vR 395]) rfl (fun _ _ _ _ => rfl) rfl rfl (Nat.le_of_ble_eq_true rfl) (Nat.le_of_ble_eq_true rfl) (recvV A (a := 13) (Abs_ks A (i := 23) rfl).1) (t189 (by omega) A (Abs_rg A 395 2) e40) (fun r40 => ?_)
      refine hg_run 3 (pc' := 263) (ls' := [some (vr 395), z1, some (vi l2), z3]) (st' := [vI (wsub (wadd (wmul 10 (hI h 395 5)) v40) 48), vR 395]) rfl ?_
      obtain ⟨h41, e41, e⟩ := ob e
      refine ps_395_5 rfl A (rg_sub _ _) e41 (fun w41 A41 => ?_)
      exact t188_j266 hd rl2 A41 e kb ke
set_option maxRecDepth 100000 in
theorem t188_l219 {d : Nat} (hd : 2 ≤ d)  {z1 : Option hO} {z3 : Option hO} {Q : mmO → Prop}  (n : Nat) {l2 : Int}  {h : hS} {w : mmW} {r : Int × hS} (rl2 : rg l2) (A : Abs h w) (e : lp (fun s => c188_b219  s.1 s.2) n (l2, h) = some r) (ke : ∀ (x_0 : Int) (x_1 : hS), r = (x_0, x_1) → ∀ w', rg x_0 → Abs x_1 w' → hG d 188 282 [some (vr 395), z1, some (vi x_0), z3] [] w' Q) : hG d 188 219 [some (vr 395), z1, some (vi l2), z3] [] w Q := by
  induction n generalizing l2 h w with
  | zero => cases e
  | succ n ih =>
    rcases lp_succ e with ⟨s1, e1, e2⟩ | e1
    · exact t188_b219 hd rl2 A e1 (fun s_0 s_1 q w1 rl2 A1 => by cases q; exact ih rl2 A1 e2) (fun x_0 x_1 q => by cases q)
    · exact t188_b219 hd rl2 A e1 (fun s_0 s_1 q => by cases q) (fun x_0 x_1 q => by cases q; exact ke _ _ rfl)
def c188_j307 (h : hS) : Option (hS) :=
  some h
set_option maxRecDepth 100000 in
theorem t188_j307 {d : Nat} (hd : 2 ≤ d)  {z1 : Option hO} {z2 : Option hO} {z3 : Option hO} {h : hS} {w : mmW} {o : hS} {Q : mmO → Prop}  (A : Abs h w) (e : c188_j307 h = some o) (kr : ∀ h1 : hS, o = h1 → ∀ w', Abs h1 w' → Q (none, w')) : hG d 188 307 [some (vr 395), z1, z2, z3] [] w Q := by
  unfold c188_j307 at e
  refine hg_run 1 (pc' := 441) (ls' := [some (vr 395), z1, z2, z3]) (st' := []) rfl ?_
  cases e
  exact hg_retV rfl (kr _ rfl _ A)
def c188_j127 (l2 : Int) (h : hS) : Option ((Int × hS) ⊕ (Int × hS)) :=
  (some (sI h 395 2 (wadd (hI h 395 2) 1))).bind (fun h53 =>
  some (.inl ((wadd l2 1), h53)))
set_option maxRecDepth 100000 in
theorem t188_j127 {d : Nat} (hd : 2 ≤ d) {l2 : Int} {z1 : Option hO} {z3 : Option hO} {h : hS} {w : mmW} {o : (Int × hS) ⊕ (Int × hS)} {Q : mmO → Prop} (rl2 : rg l2) (A : Abs h w) (e : c188_j127 l2 h = some o) (kb : ∀ (s_0 : Int) (s_1 : hS), o = .inl (s_0, s_1) → ∀ w', rg s_0 → Abs s_1 w' → hG d 188 88 [some (vr 395), z1, some (vi s_0), z3] [] w' Q) (ke : ∀ (x_0 : Int) (x_1 : hS), o = .inr (x_0, x_1) → ∀ w', rg x_0 → Abs x_1 w' → hG d 188 143 [some (vr 395), z1, some (vi x_0), z3] [] w' Q) : hG d 188 127 [some (vr 395), z1, some (vi l2), z3] [] w Q := by
  unfold c188_j127 at e
  refine hg_run 3 (pc' := 132) (ls' := [some (vr 395), z1, some (vi (wadd l2 1)), z3]) (st' := [vR 395, vR 395]) rfl ?_
  refine gs_395_2 rfl A ?_
  refine hg_run 2 (pc' := 137) (ls' := [some (vr 395), z1, some (vi (wadd l2 1)), z3]) (st' := [vI (wadd (hI h 395 2) 1), vR 395]) rfl ?_
  obtain ⟨h53, e53, e⟩ := ob e
  refine ps_395_2 rfl A (rg_add _ _) e53 (fun w53 A53 => ?_)
  refine hg_run 1 (pc' := 88) (ls' := [some (vr 395), z1, some (vi (wadd l2 1)), z3]) (st' := []) rfl ?_
  cases e
  exact kb (wadd l2 1) h53 rfl _ (rg_add _ _) A53
def c188_b88 (l2 : Int) (h : hS) : Option ((Int × hS) ⊕ (Int × hS)) :=
  (c189 (hI h 395 2) h).bind (fun v49 =>
  (c190 v49 h).bind (fun v50 =>
  if v50 = 0 then
  some (.inr (l2, h))
  else
  if 7 ≤ l2 then
  c188_j127 l2 h
  else
  (c189 (hI h 395 2) h).bind (fun v54 =>
  (c187 (hJ h 395 10) v54 h).bind (fun v55 =>
  (some (sJ h 395 10 v55)).bind (fun h56 =>
  c188_j127 l2 h56)))))
set_option maxRecDepth 100000 in
theorem t188_b88 {d : Nat} (hd : 2 ≤ d) {l2 : Int} {z1 : Option hO} {z3 : Option hO} {h : hS} {w : mmW} {o : (Int × hS) ⊕ (Int × hS)} {Q : mmO → Prop} (rl2 : rg l2) (A : Abs h w) (e : c188_b88 l2 h = some o) (kb : ∀ (s_0 : Int) (s_1 : hS), o = .inl (s_0, s_1) → ∀ w', rg s_0 → Abs s_1 w' → hG d 188 88 [some (vr 395), z1, some (vi s_0), z3] [] w' Q) (ke : ∀ (x_0 : Int) (x_1 : hS), o = .inr (x_0, x_1) → ∀ w', rg x_0 → Abs x_1 w' → hG d 188 143 [some (vr 395), z1, some (vi x_0), z3] [] w' Q) : hG d 188 88 [some (vr 395), z1, some (vi l2), z3] [] w Q := by
  unfold c188_b88 at e
  refine hg_run 2 (pc' := 90) (ls' := [some (vr 395), z1, some (vi l2), z3]) (st' := [vR 395, vR 395]) rfl ?_
  refine gs_395_2 rfl A ?_
  obtain ⟨v49, e49, e⟩ := ob e
  refine hg_cIp (as := [vR 395, vI (hI h 395 2)]) (st' := []) rfl (fun _ _ _ _ => rfl) rfl rfl (Nat.le_of_ble_eq_true rfl) (Nat.le_of_ble_eq_true rfl) (recvV A (a := 13) (Abs_ks A (i := 23) rfl).1) (t189 (by omega) A (Abs_rg A 395 2) e49) (fun r49 => ?_)
  obtain ⟨v50, e50, e⟩ := ob e
  refine hg_cIp (as := [vI v49]) (st' := []) rfl (fun _ _ _ _ => rfl) rfl rfl (Nat.le_of_ble_eq_true rfl) (Nat.le_of_ble_eq_true rfl) recv0 (t190 (by omega) A r49 e50) (fun r50 => ?_)
  rcases oi e with ⟨q51, e⟩ | ⟨q51, e⟩
  · refine hg_ifT (tgt := 143) rfl (by decide) r50 q51 ?_
    cases e
    exact ke l2 h rfl _ rl2 A
  · refine hg_ifF (tgt := 143) rfl (by decide) r50 q51 ?_
    refine hg_run 2 (pc' := 105) (ls' := [some (vr 395), z1, some (vi l2), z3]) (st' := [vI 7, vI l2]) rfl ?_
    rcases oi e with ⟨q52, e⟩ | ⟨q52, e⟩
    · refine hg_icT (tgt := 127) rfl (by decide) rl2 (rgn 7 rfl) q52 ?_
      exact t188_j127 hd rl2 A e kb ke
    · refine hg_icF (tgt := 127) rfl (by decide) rl2 (rgn 7 rfl) q52 ?_
      refine hg_run 2 (pc' := 110) (ls' := [some (vr 395), z1, some (vi l2), z3]) (st' := [vR 395, vR 395]) rfl ?_
      refine gs_395_10 rfl A ?_
      refine hg_run 2 (pc' := 115) (ls' := [some (vr 395), z1, some (vi l2), z3]) (st' := [vR 395, vR 395, vJ (hJ h 395 10), vR 395]) rfl ?_
      refine gs_395_2 rfl A ?_
      obtain ⟨v54, e54, e⟩ := ob e
      refine hg_cIp (as := [vR 395, vI (hI h 395 2)]) (st' := [vJ (hJ h 395 10), vR 395]) rfl (fun _ _ _ _ => rfl) rfl rfl (Nat.le_of_ble_eq_true rfl) (Nat.le_of_ble_eq_true rfl) (recvV A (a := 13) (Abs_ks A (i := 23) rfl).1) (t189 (by omega) A (Abs_rg A 395 2) e54) (fun r54 => ?_)
      obtain ⟨v55, e55, e⟩ := ob e
      refine hg_cJp (as := [vJ (hJ h 395 10), vI v54]) (st' := [vR 395]) rfl (fun _ _ _ _ => rfl) rfl rfl (Nat.le_of_ble_eq_true rfl) (Nat.le_of_ble_eq_true rfl) recv0 (t187 (by omega) A r54 e55) ?_
      obtain ⟨h56, e56, e⟩ := ob e
      refine ps_395_10 rfl A e56 (fun w56 A56 => ?_)
      exact t188_j127 hd rl2 A56 e kb ke
set_option maxRecDepth 100000 in
theorem t188_l88 {d : Nat} (hd : 2 ≤ d)  {z1 : Option hO} {z3 : Option hO} {Q : mmO → Prop}  (n : Nat) {l2 : Int}  {h : hS} {w : mmW} {r : Int × hS} (rl2 : rg l2) (A : Abs h w) (e : lp (fun s => c188_b88  s.1 s.2) n (l2, h) = some r) (ke : ∀ (x_0 : Int) (x_1 : hS), r = (x_0, x_1) → ∀ w', rg x_0 → Abs x_1 w' → hG d 188 143 [some (vr 395), z1, some (vi x_0), z3] [] w' Q) : hG d 188 88 [some (vr 395), z1, some (vi l2), z3] [] w Q := by
  induction n generalizing l2 h w with
  | zero => cases e
  | succ n ih =>
    rcases lp_succ e with ⟨s1, e1, e2⟩ | e1
    · exact t188_b88 hd rl2 A e1 (fun s_0 s_1 q w1 rl2 A1 => by cases q; exact ih rl2 A1 e2) (fun x_0 x_1 q => by cases q)
    · exact t188_b88 hd rl2 A e1 (fun s_0 s_1 q => by cases q) (fun x_0 x_1 q => by cases q; exact ke _ _ rfl)
def c188_j189 (s1 : Int) (l3 : Int) (h : hS) : Option ((Int × hS) ⊕ (hS)) :=
  (some (sI h 395 3 s1)).bind (fun h63 =>
  some (.inl ((wadd l3 1), h63)))
set_option maxRecDepth 100000 in
theorem t188_j189 {d : Nat} (hd : 2 ≤ d) {s1 : Int} {l3 : Int} {z1 : Option hO} {z2 : Option hO} {h : hS} {w : mmW} {o : (Int × hS) ⊕ (hS)} {Q : mmO → Prop} (rs1 : rg s1) (rl3 : rg l3) (A : Abs h w) (e : c188_j189 s1 l3 h = some o) (kb : ∀ (s_0 : Int) (s_1 : hS), o = .inl (s_0, s_1) → ∀ w', rg s_0 → Abs s_1 w' → hG d 188 157 [some (vr 395), z1, z2, some (vi s_0)] [] w' Q) (ke : ∀ (x_0 : hS), o = .inr (x_0) → ∀ w', ∀ (y3 : Option hO), Abs x_0 w' → hG d 188 198 [some (vr 395), z1, z2, y3] [] w' Q) : hG d 188 189 [some (vr 395), z1, z2, some (vi l3)] [vI s1, vR 395] w Q := by
  unfold c188_j189 at e
  obtain ⟨h63, e63, e⟩ := ob e
  refine ps_395_3 rfl A rs1 e63 (fun w63 A63 => ?_)
  refine hg_run 2 (pc' := 157) (ls' := [some (vr 395), z1, z2, some (vi (wadd l3 1))]) (st' := []) rfl ?_
  cases e
  exact kb (wadd l3 1) h63 rfl _ (rg_add _ _) A63
def c188_b157 (l3 : Int) (h : hS) : Option ((Int × hS) ⊕ (hS)) :=
  if 22 ≤ l3 then
  some (.inr (h))
  else
  (aJs h 398 22 l3).bind (fun v61 =>
  if (wcmp v61 (hJ h 395 10)) = 0 then
  c188_j189 (wadd 100 l3) l3 h
  else
  c188_j189 (hI h 395 3) l3 h)
set_option maxRecDepth 100000 in
theorem t188_b157 {d : Nat} (hd : 2 ≤ d) {l3 : Int} {z1 : Option hO} {z2 : Option hO} {h : hS} {w : mmW} {o : (Int × hS) ⊕ (hS)} {Q : mmO → Prop} (rl3 : rg l3) (A : Abs h w) (e : c188_b157 l3 h = some o) (kb : ∀ (s_0 : Int) (s_1 : hS), o = .inl (s_0, s_1) → ∀ w', rg s_0 → Abs s_1 w' → hG d 188 157 [some (vr 395), z1, z2, some (vi s_0)] [] w' Q) (ke : ∀ (x_0 : hS), o = .inr (x_0) → ∀ w', ∀ (y3 : Option hO), Abs x_0 w' → hG d 188 198 [some (vr 395), z1, z2, y3] [] w' Q) : hG d 188 157 [some (vr 395), z1, z2, some (vi l3)] [] w Q := by
  unfold c188_b157 at e
  refine hg_run 2 (pc' := 160) (ls' := [some (vr 395), z1, z2, some (vi l3)]) (st' := [vI 22, vI l3]) rfl ?_
  rcases oi e with ⟨q60, e⟩ | ⟨q60, e⟩
  · refine hg_icT (tgt := 198) rfl (by decide) rl3 (rgn 22 rfl) q60 ?_
    cases e
    exact ke h rfl _ _  A
  · refine hg_icF (tgt := 198) rfl (by decide) rl3 (rgn 22 rfl) q60 ?_
    refine hg_run 2 (pc' := 165) (ls' := [some (vr 395), z1, z2, some (vi l3)]) (st' := [vR 395, vR 395]) rfl ?_
    refine gs_395_8 rfl A ?_
    refine hg_run 1 (pc' := 169) (ls' := [some (vr 395), z1, z2, some (vi l3)]) (st' := [vI l3, vR 398, vR 395]) rfl ?_
    obtain ⟨v61, e61, e⟩ := ob e
    refine hg_aJs rfl (fun _ _ _ _ => rfl) A (Abs_ks A (i := 26) rfl) rfl e61 ?_
    refine hg_run 1 (pc' := 171) (ls' := [some (vr 395), z1, z2, some (vi l3)]) (st' := [vR 395, vJ v61, vR 395]) rfl ?_
    refine gs_395_10 rfl A ?_
    refine hg_run 1 (pc' := 175) (ls' := [some (vr 395), z1, z2, some (vi l3)]) (st' := [vI (wcmp v61 (hJ h 395 10)), vR 395]) rfl ?_
    rcases oi e with ⟨q62, e⟩ | ⟨q62, e⟩
    · refine hg_ifF (tgt := 185) rfl (by decide) (rg_cmp _ _) (show ¬ ¬ ((wcmp v61 (hJ h 395 10)) = 0) from fun f => f q62) ?_
      refine hg_run 4 (pc' := 189) (ls' := [some (vr 395), z1, z2, some (vi l3)]) (st' := [vI (wadd 100 l3), vR 395]) rfl ?_
      exact t188_j189 hd (rg_add _ _) rl3 A e kb ke
    · refine hg_ifT (tgt := 185) rfl (by decide) (rg_cmp _ _) (show ¬ ((wcmp v61 (hJ h 395 10)) = 0) from q62) ?_
      refine hg_run 1 (pc' := 186) (ls' := [some (vr 395), z1, z2, some (vi l3)]) (st' := [vR 395, vR 395]) rfl ?_
      refine gs_395_3 rfl A ?_
      exact t188_j189 hd (Abs_rg A 395 3) rl3 A e kb ke
set_option maxRecDepth 100000 in
theorem t188_l157 {d : Nat} (hd : 2 ≤ d)  {z1 : Option hO} {z2 : Option hO} {Q : mmO → Prop}  (n : Nat) {l3 : Int}  {h : hS} {w : mmW} {r : hS} (rl3 : rg l3) (A : Abs h w) (e : lp (fun s => c188_b157  s.1 s.2) n (l3, h) = some r) (ke : ∀ (x_0 : hS), r = (x_0) → ∀ w', ∀ (y3 : Option hO), Abs x_0 w' → hG d 188 198 [some (vr 395), z1, z2, y3] [] w' Q) : hG d 188 157 [some (vr 395), z1, z2, some (vi l3)] [] w Q := by
  induction n generalizing l3 h w with
  | zero => cases e
  | succ n ih =>
    rcases lp_succ e with ⟨s1, e1, e2⟩ | e1
    · exact t188_b157 hd rl3 A e1 (fun s_0 s_1 q w1 rl3 A1 => by cases q; exact ih rl3 A1 e2) (fun x_0 q => by cases q)
    · exact t188_b157 hd rl3 A e1 (fun s_0 s_1 q => by cases q) (fun x_0 q => by cases q; exact ke _ rfl)
def c188 (h : hS) : Option (hS) :=
  (lp (fun s => c188_b0  s) hF0 (h)).bind (fun r6 =>
  (some (sI r6 395 4 (hI r6 395 2))).bind (fun h7 =>
  (c189 (hI h7 395 2) h7).bind (fun v8 =>
  (some (sI h7 395 3 1)).bind (fun h9 =>
  if v8 = (-1) then
  (some (sI h9 395 3 0)).bind (fun h65 =>
  some h65)
  else
  (c190 v8 h9).bind (fun v11 =>
  if v11 = 0 then
  (c191 v8 48 57 h9).bind (fun v13 =>
  if v13 = 0 then
  if v8 = 123 then
  c188_j376 v8 h9
  else
  if v8 = 125 then
  c188_j376 v8 h9
  else
  if v8 = 40 then
  c188_j376 v8 h9
  else
  if v8 = 41 then
  c188_j376 v8 h9
  else
  if v8 = 59 then
  c188_j376 v8 h9
  else
  if v8 = 61 then
  c188_j376 v8 h9
  else
  if v8 = 43 then
  c188_j376 v8 h9
  else
  if v8 = 45 then
  c188_j376 v8 h9
  else
  if v8 = 42 then
  c188_j376 v8 h9
  else
  if v8 = 47 then
  c188_j376 v8 h9
  else
  if v8 = 60 then
  c188_j376 v8 h9
  else
  c188_j381 0 v8 h9
  else
  (some (sI h9 395 5 0)).bind (fun h34 =>
  (lp (fun s => c188_b219  s.1 s.2) hF0 (0, h34)).bind (fun r42 =>
  if 6 < r42.1 then
  c188_j307 r42.2
  else
  (c189 (hI r42.2 395 2) r42.2).bind (fun v44 =>
  (c192 v44 r42.2).bind (fun v45 =>
  if v45 = 0 then
  (some (sI r42.2 395 3 3)).bind (fun h47 =>
  c188_j307 h47)
  else
  c188_j307 r42.2)))))
  else
  (some (sJ h9 395 10 (Int64.ofNat 0))).bind (fun h48 =>
  (lp (fun s => c188_b88  s.1 s.2) hF0 (0, h48)).bind (fun r57 =>
  if r57.1 ≤ 6 then
  (some (sI r57.2 395 3 2)).bind (fun h59 =>
  (lp (fun s => c188_b157  s.1 s.2) hF0 (0, h59)).bind (fun r64 =>
  some r64))
  else
  some r57.2)))))))
set_option maxRecDepth 100000 in
theorem t188 {d : Nat} (hd : 3 ≤ d)  {h : hS} {w : mmW} {o : hS} (A : Abs h w)  (e : c188 h = some o) : hEv d 188 [vR 395] w (qV o) := by
  obtain ⟨d, rfl⟩ : ∃ d1, d = d1 + 1 := ⟨d - 1, by omega⟩
  have hd : 2 ≤ d := by omega
  refine hEv_start (args := [vr 395]) (nl := 4) rfl (Nat.le_of_ble_eq_true rfl) ?_
  show hG d 188 0 [some (vr 395), none, none, none] [] w _
  have kr : ∀ h1 : hS, o = h1 → ∀ w', Abs h1 w' → qV o (none, w') := fun h1 q w' A' => by cases q; exact ⟨rfl, A'⟩
  unfold c188 at e
  obtain ⟨r6, e6, e⟩ := ob e
  refine t188_l0 hd  _  A e6 ?_
  intro x6_0 qq6 w6 A6
  subst qq6
  refine hg_run 2 (pc' := 41) (ls' := [some (vr 395), none, none, none]) (st' := [vR 395, vR 395]) rfl ?_
  refine gs_395_2 rfl A6 ?_
  obtain ⟨h7, e7, e⟩ := ob e
  refine ps_395_4 rfl A6 (Abs_rg A6 395 2) e7 (fun w7 A7 => ?_)
  refine hg_run 2 (pc' := 49) (ls' := [some (vr 395), none, none, none]) (st' := [vR 395, vR 395]) rfl ?_
  refine gs_395_2 rfl A7 ?_
  obtain ⟨v8, e8, e⟩ := ob e
  refine hg_cIp (as := [vR 395, vI (hI h7 395 2)]) (st' := []) rfl (fun _ _ _ _ => rfl) rfl rfl (Nat.le_of_ble_eq_true rfl) (Nat.le_of_ble_eq_true rfl) (recvV A7 (a := 13) (Abs_ks A7 (i := 23) rfl).1) (t189 (by omega) A7 (Abs_rg A7 395 2) e8) (fun r8 => ?_)
  refine hg_run 3 (pc' := 58) (ls' := [some (vr 395), some (vi v8), none, none]) (st' := [vI 1, vR 395]) rfl ?_
  obtain ⟨h9, e9, e⟩ := ob e
  refine ps_395_3 rfl A7 (rgn 1 rfl) e9 (fun w9 A9 => ?_)
  refine hg_run 2 (pc' := 63) (ls' := [some (vr 395), some (vi v8), none, none]) (st' := [vI (-1), vI v8]) rfl ?_
  rcases oi e with ⟨q10, e⟩ | ⟨q10, e⟩
  · refine hg_icF (tgt := 74) rfl (by decide) r8 (rgn (-1) rfl) (show ¬ ¬ (v8 = (-1)) from fun f => f q10) ?_
    refine hg_run 2 (pc' := 68) (ls' := [some (vr 395), some (vi v8), none, none]) (st' := [vI 0, vR 395]) rfl ?_
    obtain ⟨h65, e65, e⟩ := ob e
    refine ps_395_3 rfl A9 (rgn 0 rfl) e65 (fun w65 A65 => ?_)
    refine hg_run 1 (pc' := 441) (ls' := [some (vr 395), some (vi v8), none, none]) (st' := []) rfl ?_
    cases e
    exact hg_retV rfl (kr _ rfl _ A65)
  · refine hg_icT (tgt := 74) rfl (by decide) r8 (rgn (-1) rfl) (show ¬ (v8 = (-1)) from q10) ?_
    refine hg_run 1 (pc' := 75) (ls' := [some (vr 395), some (vi v8), none, none]) (st' := [vI v8]) rfl ?_
    obtain ⟨v11, e11, e⟩ := ob e
    refine hg_cIp (as := [vI v8]) (st' := []) rfl (fun _ _ _ _ => rfl) rfl rfl (Nat.le_of_ble_eq_true rfl) (Nat.le_of_ble_eq_true rfl) recv0 (t190 (by omega) A9 r8 e11) (fun r11 => ?_)
    rcases oi e with ⟨q12, e⟩ | ⟨q12, e⟩
    · refine hg_ifT (tgt := 201) rfl (by decide) r11 q12 ?_
      refine hg_run 3 (pc' := 206) (ls' := [some (vr 395), some (vi v8), none, none]) (st' := [vI 57, vI 48, vI v8]) rfl ?_
      obtain ⟨v13, e13, e⟩ := ob e
      refine hg_cIp (as := [vI v8, vI 48, vI 57]) (st' := []) rfl (fun _ _ _ _ => rfl) rfl rfl (Nat.le_of_ble_eq_true rfl) (Nat.le_of_ble_eq_true rfl) recv0 (t191 (by omega) A9 r8 (rgn 48 rfl) (rgn 57 rfl) e13) (fun r13 => ?_)
      rcases oi e with ⟨q14, e⟩ | ⟨q14, e⟩
      · refine hg_ifT (tgt := 310) rfl (by decide) r13 q14 ?_
        refine hg_run 2 (pc' := 313) (ls' := [some (vr 395), some (vi v8), none, none]) (st' := [vI 123, vI v8]) rfl ?_
        rcases oi e with ⟨q15, e⟩ | ⟨q15, e⟩
        · refine hg_icT (tgt := 376) rfl (by decide) r8 (rgn 123 rfl) q15 ?_
          exact t188_j376 hd r8 A9 e kr
        · refine hg_icF (tgt := 376) rfl (by decide) r8 (rgn 123 rfl) q15 ?_
          refine hg_run 2 (pc' := 319) (ls' := [some (vr 395), some (vi v8), none, none]) (st' := [vI 125, vI v8]) rfl ?_
          rcases oi e with ⟨q24, e⟩ | ⟨q24, e⟩
          · refine hg_icT (tgt := 376) rfl (by decide) r8 (rgn 125 rfl) q24 ?_
            exact t188_j376 hd r8 A9 e kr
          · refine hg_icF (tgt := 376) rfl (by decide) r8 (rgn 125 rfl) q24 ?_
            refine hg_run 2 (pc' := 325) (ls' := [some (vr 395), some (vi v8), none, none]) (st' := [vI 40, vI v8]) rfl ?_
            rcases oi e with ⟨q25, e⟩ | ⟨q25, e⟩
            · refine hg_icT (tgt := 376) rfl (by decide) r8 (rgn 40 rfl) q25 ?_
              exact t188_j376 hd r8 A9 e kr
            · refine hg_icF (tgt := 376) rfl (by decide) r8 (rgn 40 rfl) q25 ?_
              refine hg_run 2 (pc' := 331) (ls' := [some (vr 395), some (vi v8), none, none]) (st' := [vI 41, vI v8]) rfl ?_
              rcases oi e with ⟨q26, e⟩ | ⟨q26, e⟩
              · refine hg_icT (tgt := 376) rfl (by decide) r8 (rgn 41 rfl) q26 ?_
                exact t188_j376 hd r8 A9 e kr
              · refine hg_icF (tgt := 376) rfl (by decide) r8 (rgn 41 rfl) q26 ?_
                refine hg_run 2 (pc' := 337) (ls' := [some (vr 395), some (vi v8), none, none]) (st' := [vI 59, vI v8]) rfl ?_
                rcases oi e with ⟨q27, e⟩ | ⟨q27, e⟩
                · refine hg_icT (tgt := 376) rfl (by decide) r8 (rgn 59 rfl) q27 ?_
                  exact t188_j376 hd r8 A9 e kr
                · refine hg_icF (tgt := 376) rfl (by decide) r8 (rgn 59 rfl) q27 ?_
                  refine hg_run 2 (pc' := 343) (ls' := [some (vr 395), some (vi v8), none, none]) (st' := [vI 61, vI v8]) rfl ?_
                  rcases oi e with ⟨q28, e⟩ | ⟨q28, e⟩
                  · refine hg_icT (tgt := 376) rfl (by decide) r8 (rgn 61 rfl) q28 ?_
                    exact t188_j376 hd r8 A9 e kr
                  · refine hg_icF (tgt := 376) rfl (by decide) r8 (rgn 61 rfl) q28 ?_
                    refine hg_run 2 (pc' := 349) (ls' := [some (vr 395), some (vi v8), none, none]) (st' := [vI 43, vI v8]) rfl ?_
                    rcases oi e with ⟨q29, e⟩ | ⟨q29, e⟩
                    · refine hg_icT (tgt := 376) rfl (by decide) r8 (rgn 43 rfl) q29 ?_
                      exact t188_j376 hd r8 A9 e kr
                    · refine hg_icF (tgt := 376) rfl (by decide) r8 (rgn 43 rfl) q29 ?_
                      refine hg_run 2 (pc' := 355) (ls' := [some (vr 395), some (vi v8), none, none]) (st' := [vI 45, vI v8]) rfl ?_
                      rcases oi e with ⟨q30, e⟩ | ⟨q30, e⟩
                      · refine hg_icT (tgt := 376) rfl (by decide) r8 (rgn 45 rfl) q30 ?_
                        exact t188_j376 hd r8 A9 e kr
                      · refine hg_icF (tgt := 376) rfl (by decide) r8 (rgn 45 rfl) q30 ?_
                        refine hg_run 2 (pc' := 361) (ls' := [some (vr 395), some (vi v8), none, none]) (st' := [vI 42, vI v8]) rfl ?_
                        rcases oi e with ⟨q31, e⟩ | ⟨q31, e⟩
                        · refine hg_icT (tgt := 376) rfl (by decide) r8 (rgn 42 rfl) q31 ?_
                          exact t188_j376 hd r8 A9 e kr
                        · refine hg_icF (tgt := 376) rfl (by decide) r8 (rgn 42 rfl) q31 ?_
                          refine hg_run 2 (pc' := 367) (ls' := [some (vr 395), some (vi v8), none, none]) (st' := [vI 47, vI v8]) rfl ?_
                          rcases oi e with ⟨q32, e⟩ | ⟨q32, e⟩
                          · refine hg_icT (tgt := 376) rfl (by decide) r8 (rgn 47 rfl) q32 ?_
                            exact t188_j376 hd r8 A9 e kr
                          · refine hg_icF (tgt := 376) rfl (by decide) r8 (rgn 47 rfl) q32 ?_
                            refine hg_run 2 (pc' := 373) (ls' := [some (vr 395), some (vi v8), none, none]) (st' := [vI 60, vI v8]) rfl ?_
                            rcases oi e with ⟨q33, e⟩ | ⟨q33, e⟩
                            · refine hg_icF (tgt := 380) rfl (by decide) r8 (rgn 60 rfl) (show ¬ ¬ (v8 = 60) from fun f => f q33) ?_
                              exact t188_j376 hd r8 A9 e kr
                            · refine hg_icT (tgt := 380) rfl (by decide) r8 (rgn 60 rfl) (show ¬ (v8 = 60) from q33) ?_
                              refine hg_run 1 (pc' := 381) (ls' := [some (vr 395), some (vi v8), none, none]) (st' := [vI 0]) rfl ?_
                              exact t188_j381 hd (rgn 0 rfl) r8 A9 e kr
      · refine hg_ifF (tgt := 310) rfl (by decide) r13 q14 ?_
        refine hg_run 4 (pc' := 216) (ls' := [some (vr 395), some (vi v8), some (vi 0), none]) (st' := [vI 0, vR 395]) rfl ?_
        obtain ⟨h34, e34, e⟩ := ob e
        refine ps_395_5 rfl A9 (rgn 0 rfl) e34 (fun w34 A34 => ?_)
        obtain ⟨r42, e42, e⟩ := ob e
        refine t188_l219 hd  _ (rgn 0 rfl) A34 e42 ?_
        intro x42_0 x42_1 qq42 w42 q42_2 A42
        subst qq42
        try dsimp only at e
        refine hg_run 2 (pc' := 285) (ls' := [some (vr 395), some (vi v8), some (vi x42_0), none]) (st' := [vI 6, vI x42_0]) rfl ?_
        rcases oi e with ⟨q43, e⟩ | ⟨q43, e⟩
        · refine hg_icT (tgt := 307) rfl (by decide) q42_2 (rgn 6 rfl) q43 ?_
          exact t188_j307 hd  A42 e kr
        · refine hg_icF (tgt := 307) rfl (by decide) q42_2 (rgn 6 rfl) q43 ?_
          refine hg_run 2 (pc' := 290) (ls' := [some (vr 395), some (vi v8), some (vi x42_0), none]) (st' := [vR 395, vR 395]) rfl ?_
          refine gs_395_2 rfl A42 ?_
          obtain ⟨v44, e44, e⟩ := ob e
          refine hg_cIp (as := [vR 395, vI (hI x42_1 395 2)]) (st' := []) rfl (fun _ _ _ _ => rfl) rfl rfl (Nat.le_of_ble_eq_true rfl) (Nat.le_of_ble_eq_true rfl) (recvV A42 (a := 13) (Abs_ks A42 (i := 23) rfl).1) (t189 (by omega) A42 (Abs_rg A42 395 2) e44) (fun r44 => ?_)
          obtain ⟨v45, e45, e⟩ := ob e
          refine hg_cIp (as := [vI v44]) (st' := []) rfl (fun _ _ _ _ => rfl) rfl rfl (Nat.le_of_ble_eq_true rfl) (Nat.le_of_ble_eq_true rfl) recv0 (t192 (by omega) A42 r44 e45) (fun r45 => ?_)
          rcases oi e with ⟨q46, e⟩ | ⟨q46, e⟩
          · refine hg_ifF (tgt := 307) rfl (by decide) r45 (show ¬ ¬ (v45 = 0) from fun f => f q46) ?_
            refine hg_run 2 (pc' := 304) (ls' := [some (vr 395), some (vi v8), some (vi x42_0), none]) (st' := [vI 3, vR 395]) rfl ?_
            obtain ⟨h47, e47, e⟩ := ob e
            refine ps_395_3 rfl A42 (rgn 3 rfl) e47 (fun w47 A47 => ?_)
            exact t188_j307 hd  A47 e kr
          · refine hg_ifT (tgt := 307) rfl (by decide) r45 (show ¬ (v45 = 0) from q46) ?_
            exact t188_j307 hd  A42 e kr
    · refine hg_ifF (tgt := 201) rfl (by decide) r11 q12 ?_
      refine hg_run 4 (pc' := 85) (ls' := [some (vr 395), some (vi v8), some (vi 0), none]) (st' := [vJ (Int64.ofNat 0), vR 395]) rfl ?_
      obtain ⟨h48, e48, e⟩ := ob e
      refine ps_395_10 rfl A9 e48 (fun w48 A48 => ?_)
      obtain ⟨r57, e57, e⟩ := ob e
      refine t188_l88 hd  _ (rgn 0 rfl) A48 e57 ?_
      intro x57_0 x57_1 qq57 w57 q57_2 A57
      subst qq57
      try dsimp only at e
      refine hg_run 2 (pc' := 146) (ls' := [some (vr 395), some (vi v8), some (vi x57_0), none]) (st' := [vI 6, vI x57_0]) rfl ?_
      rcases oi e with ⟨q58, e⟩ | ⟨q58, e⟩
      · refine hg_icT (tgt := 150) rfl (by decide) q57_2 (rgn 6 rfl) q58 ?_
        refine hg_run 2 (pc' := 152) (ls' := [some (vr 395), some (vi v8), some (vi x57_0), none]) (st' := [vI 2, vR 395]) rfl ?_
        obtain ⟨h59, e59, e⟩ := ob e
        refine ps_395_3 rfl A57 (rgn 2 rfl) e59 (fun w59 A59 => ?_)
        refine hg_run 2 (pc' := 157) (ls' := [some (vr 395), some (vi v8), some (vi x57_0), some (vi 0)]) (st' := []) rfl ?_
        obtain ⟨r64, e64, e⟩ := ob e
        refine t188_l157 hd  _ (rgn 0 rfl) A59 e64 ?_
        intro x64_0 qq64 w64 z64_3 A64
        subst qq64
        refine hg_run 1 (pc' := 441) (ls' := [some (vr 395), some (vi v8), some (vi x57_0), z64_3]) (st' := []) rfl ?_
        cases e
        exact hg_retV rfl (kr _ rfl _ A64)
      · refine hg_icF (tgt := 150) rfl (by decide) q57_2 (rgn 6 rfl) q58 ?_
        cases e
        exact hg_retV rfl (kr _ rfl _ A57)
def c184 (h : hS) : Option (hS) :=
  (c185  h).bind (fun h1 =>
  (some (sI h1 395 11 0)).bind (fun h2 =>
  (some (sI h2 395 12 (-1))).bind (fun h3 =>
  (some (sI h3 395 2 0)).bind (fun h4 =>
  (some (sI h4 395 16 0)).bind (fun h5 =>
  (some (sI h5 395 18 0)).bind (fun h6 =>
  (some (sI h6 395 20 0)).bind (fun h7 =>
  (c188  h7).bind (fun h8 =>
  some h8))))))))
theorem t184 {d : Nat} (hd : 4 ≤ d)  {h : hS} {w : mmW} {o : hS} (A : Abs h w)  (e : c184 h = some o) : hEv d 184 [vR 395] w (qV o) := by
  obtain ⟨d, rfl⟩ : ∃ d1, d = d1 + 1 := ⟨d - 1, by omega⟩
  have hd : 3 ≤ d := by omega
  refine hEv_start (args := [vr 395]) (nl := 1) rfl (Nat.le_of_ble_eq_true rfl) ?_
  show hG d 184 0 [some (vr 395)] [] w _
  have kr : ∀ h1 : hS, o = h1 → ∀ w', Abs h1 w' → qV o (none, w') := fun h1 q w' A' => by cases q; exact ⟨rfl, A'⟩
  unfold c184 at e
  refine hg_run 1 (pc' := 1) (ls' := [some (vr 395)]) (st' := [vR 395]) rfl ?_
  obtain ⟨h1, e1, e⟩ := ob e
  refine hg_cV (as := [vR 395]) (st' := []) rfl (fun _ _ _ _ => rfl) rfl rfl (Nat.le_of_ble_eq_true rfl) (Nat.le_of_ble_eq_true rfl) (recvV A (a := 13) (Abs_ks A (i := 23) rfl).1) (t185 (by omega) A  e1) (fun w1 A1 => ?_)
  refine hg_run 2 (pc' := 6) (ls' := [some (vr 395)]) (st' := [vI 0, vR 395]) rfl ?_
  obtain ⟨h2, e2, e⟩ := ob e
  refine ps_395_11 rfl A1 (rgn 0 rfl) e2 (fun w2 A2 => ?_)
  refine hg_run 2 (pc' := 11) (ls' := [some (vr 395)]) (st' := [vI (-1), vR 395]) rfl ?_
  obtain ⟨h3, e3, e⟩ := ob e
  refine ps_395_12 rfl A2 (rgn (-1) rfl) e3 (fun w3 A3 => ?_)
  refine hg_run 2 (pc' := 16) (ls' := [some (vr 395)]) (st' := [vI 0, vR 395]) rfl ?_
  obtain ⟨h4, e4, e⟩ := ob e
  refine ps_395_2 rfl A3 (rgn 0 rfl) e4 (fun w4 A4 => ?_)
  refine hg_run 2 (pc' := 21) (ls' := [some (vr 395)]) (st' := [vI 0, vR 395]) rfl ?_
  obtain ⟨h5, e5, e⟩ := ob e
  refine ps_395_16 rfl A4 (rgn 0 rfl) e5 (fun w5 A5 => ?_)
  refine hg_run 2 (pc' := 26) (ls' := [some (vr 395)]) (st' := [vI 0, vR 395]) rfl ?_
  obtain ⟨h6, e6, e⟩ := ob e
  refine ps_395_18 rfl A5 (rgn 0 rfl) e6 (fun w6 A6 => ?_)
  refine hg_run 2 (pc' := 31) (ls' := [some (vr 395)]) (st' := [vI 0, vR 395]) rfl ?_
  obtain ⟨h7, e7, e⟩ := ob e
  refine ps_395_20 rfl A6 (rgn 0 rfl) e7 (fun w7 A7 => ?_)
  refine hg_run 1 (pc' := 35) (ls' := [some (vr 395)]) (st' := [vR 395]) rfl ?_
  obtain ⟨h8, e8, e⟩ := ob e
  refine hg_cV (as := [vR 395]) (st' := []) rfl (fun _ _ _ _ => rfl) rfl rfl (Nat.le_of_ble_eq_true rfl) (Nat.le_of_ble_eq_true rfl) (recvV A7 (a := 13) (Abs_ks A7 (i := 23) rfl).1) (t188 (by omega) A7  e8) (fun w8 A8 => ?_)
  cases e
  exact hg_retV rfl (kr _ rfl _ A8)
def c195 (l1 : Int) (l2 : Int) (h : hS) : Option (Int × hS) :=
  if (hI h 395 11) = 0 then
  (some (sI h 395 11 l1)).bind (fun h2 =>
  (some (sI h2 395 12 l2)).bind (fun h3 =>
  some (0, h3)))
  else
  some (0, h)
theorem t195 {d : Nat} (hd : 1 ≤ d) {l1 : Int} {l2 : Int} {h : hS} {w : mmW} {o : Int × hS} (A : Abs h w) (rl1 : rg l1) (rl2 : rg l2) (e : c195 l1 l2 h = some o) : hEv d 195 [vR 395, vI l1, vI l2] w (qI o) := by
  obtain ⟨d, rfl⟩ : ∃ d1, d = d1 + 1 := ⟨d - 1, by omega⟩
  have hd : 0 ≤ d := by omega
  refine hEv_start (args := [vr 395, vi l1, vi l2]) (nl := 3) rfl (Nat.le_of_ble_eq_true rfl) ?_
  show hG d 195 0 [some (vr 395), some (vi l1), some (vi l2)] [] w _
  have kr : ∀ (v1 : Int) (h1 : hS), o = (v1, h1) → ∀ w', rg v1 → Abs h1 w' → qI o (some (.int (Int32.ofInt v1)), w') := fun v1 h1 q w' r A' => by cases q; exact ⟨rfl, r, A'⟩
  unfold c195 at e
  refine hg_run 1 (pc' := 1) (ls' := [some (vr 395), some (vi l1), some (vi l2)]) (st' := [vR 395]) rfl ?_
  refine gs_395_11 rfl A ?_
  rcases oi e with ⟨q1, e⟩ | ⟨q1, e⟩
  · refine hg_ifF (tgt := 17) rfl (by decide) (Abs_rg A 395 11) (show ¬ ¬ ((hI h 395 11) = 0) from fun f => f q1) ?_
    refine hg_run 2 (pc' := 9) (ls' := [some (vr 395), some (vi l1), some (vi l2)]) (st' := [vI l1, vR 395]) rfl ?_
    obtain ⟨h2, e2, e⟩ := ob e
    refine ps_395_11 rfl A rl1 e2 (fun w2 A2 => ?_)
    refine hg_run 2 (pc' := 14) (ls' := [some (vr 395), some (vi l1), some (vi l2)]) (st' := [vI l2, vR 395]) rfl ?_
    obtain ⟨h3, e3, e⟩ := ob e
    refine ps_395_12 rfl A2 rl2 e3 (fun w3 A3 => ?_)
    refine hg_run 1 (pc' := 18) (ls' := [some (vr 395), some (vi l1), some (vi l2)]) (st' := [vI 0]) rfl ?_
    cases e
    exact hg_retI rfl (by decide) (fit_B (.inl rfl)) (kr _ _ rfl _ (rgn 0 rfl) A3)
  · refine hg_ifT (tgt := 17) rfl (by decide) (Abs_rg A 395 11) (show ¬ ((hI h 395 11) = 0) from q1) ?_
    refine hg_run 1 (pc' := 18) (ls' := [some (vr 395), some (vi l1), some (vi l2)]) (st' := [vI 0]) rfl ?_
    cases e
    exact hg_retI rfl (by decide) (fit_B (.inl rfl)) (kr _ _ rfl _ (rgn 0 rfl) A)
def c194 (l1 : Int) (h : hS) : Option (Int × hS) :=
  (c195 l1 (hI h 395 4) h).bind (fun v1 =>
  (kB v1.1).bind (fun u2 =>
  some (v1.1, v1.2)))
theorem t194 {d : Nat} (hd : 2 ≤ d) {l1 : Int} {h : hS} {w : mmW} {o : Int × hS} (A : Abs h w) (rl1 : rg l1) (e : c194 l1 h = some o) : hEv d 194 [vR 395, vI l1] w (qI o) := by
  obtain ⟨d, rfl⟩ : ∃ d1, d = d1 + 1 := ⟨d - 1, by omega⟩
  have hd : 1 ≤ d := by omega
  refine hEv_start (args := [vr 395, vi l1]) (nl := 2) rfl (Nat.le_of_ble_eq_true rfl) ?_
  show hG d 194 0 [some (vr 395), some (vi l1)] [] w _
  have kr : ∀ (v1 : Int) (h1 : hS), o = (v1, h1) → ∀ w', rg v1 → Abs h1 w' → qI o (some (.int (Int32.ofInt v1)), w') := fun v1 h1 q w' r A' => by cases q; exact ⟨rfl, r, A'⟩
  unfold c194 at e
  refine hg_run 3 (pc' := 3) (ls' := [some (vr 395), some (vi l1)]) (st' := [vR 395, vI l1, vR 395]) rfl ?_
  refine gs_395_4 rfl A ?_
  obtain ⟨v1, e1, e⟩ := ob e
  refine hg_cI (as := [vR 395, vI l1, vI (hI h 395 4)]) (st' := []) rfl (fun _ _ _ _ => rfl) rfl rfl (Nat.le_of_ble_eq_true rfl) (Nat.le_of_ble_eq_true rfl) (recvV A (a := 13) (Abs_ks A (i := 23) rfl).1) (t195 (by omega) A rl1 (Abs_rg A 395 4) e1) (fun w1 r1 A1 => ?_)
  obtain ⟨u2, e2, e⟩ := ob e
  cases e
  exact hg_retI rfl (by decide) (fit_B (kB_e e2)) (kr _ _ rfl _ r1 A1)
def c196_b16 (h : hS) (l1 : Int) : Option ((Int) ⊕ (Int)) :=
  if (hI h 395 7) ≤ l1 then
  some (.inr (l1))
  else
  (aJs h 397 40 l1).bind (fun v3 =>
  if (wcmp v3 (hJ h 395 10)) = 0 then
  some (.inr (l1))
  else
  some (.inl ((wadd l1 1))))
theorem t196_b16 {d : Nat} (hd : 3 ≤ d) {l1 : Int}  {h : hS} {w : mmW} {o : (Int) ⊕ (Int)} {Q : mmO → Prop} (rl1 : rg l1) (A : Abs h w) (e : c196_b16 h l1 = some o) (kb : ∀ (s_0 : Int), o = .inl (s_0) → rg s_0 → hG d 196 16 [some (vr 395), some (vi s_0)] [] w Q) (ke : ∀ (x_0 : Int), o = .inr (x_0) → rg x_0 → hG d 196 44 [some (vr 395), some (vi x_0)] [] w Q) : hG d 196 16 [some (vr 395), some (vi l1)] [] w Q := by
  unfold c196_b16 at e
  refine hg_run 2 (pc' := 18) (ls' := [some (vr 395), some (vi l1)]) (st' := [vR 395, vI l1]) rfl ?_
  refine gs_395_7 rfl A ?_
  rcases oi e with ⟨q2, e⟩ | ⟨q2, e⟩
  · refine hg_icT (tgt := 44) rfl (by decide) rl1 (Abs_rg A 395 7) q2 ?_
    cases e
    exact ke l1 rfl rl1
  · refine hg_icF (tgt := 44) rfl (by decide) rl1 (Abs_rg A 395 7) q2 ?_
    refine hg_run 1 (pc' := 25) (ls' := [some (vr 395), some (vi l1)]) (st' := [vR 395]) rfl ?_
    refine gs_395_6 rfl A ?_
    refine hg_run 1 (pc' := 29) (ls' := [some (vr 395), some (vi l1)]) (st' := [vI l1, vR 397]) rfl ?_
    obtain ⟨v3, e3, e⟩ := ob e
    refine hg_aJs rfl (fun _ _ _ _ => rfl) A (Abs_ks A (i := 25) rfl) rfl e3 ?_
    refine hg_run 1 (pc' := 31) (ls' := [some (vr 395), some (vi l1)]) (st' := [vR 395, vJ v3]) rfl ?_
    refine gs_395_10 rfl A ?_
    refine hg_run 1 (pc' := 35) (ls' := [some (vr 395), some (vi l1)]) (st' := [vI (wcmp v3 (hJ h 395 10))]) rfl ?_
    rcases oi e with ⟨q4, e⟩ | ⟨q4, e⟩
    · refine hg_ifT (tgt := 44) rfl (by decide) (rg_cmp _ _) q4 ?_
      cases e
      exact ke l1 rfl rl1
    · refine hg_ifF (tgt := 44) rfl (by decide) (rg_cmp _ _) q4 ?_
      refine hg_run 2 (pc' := 16) (ls' := [some (vr 395), some (vi (wadd l1 1))]) (st' := []) rfl ?_
      cases e
      exact kb (wadd l1 1) rfl (rg_add _ _)
theorem t196_l16 {d : Nat} (hd : 3 ≤ d)   {h : hS} {w : mmW} {Q : mmO → Prop}  (n : Nat) {l1 : Int}  {r : Int} (rl1 : rg l1) (A : Abs h w) (e : lp (fun s => c196_b16 h s) n (l1) = some r) (ke : ∀ (x_0 : Int), r = (x_0) → rg x_0 → hG d 196 44 [some (vr 395), some (vi x_0)] [] w Q) : hG d 196 16 [some (vr 395), some (vi l1)] [] w Q := by
  induction n generalizing l1 with
  | zero => cases e
  | succ n ih =>
    rcases lp_succ e with ⟨s1, e1, e2⟩ | e1
    · exact t196_b16 hd rl1 A e1 (fun s_0 q rl1 => by cases q; exact ih rl1 e2) (fun x_0 q => by cases q)
    · exact t196_b16 hd rl1 A e1 (fun s_0 q => by cases q) (fun x_0 q => by cases q; exact ke _ rfl)
def c196_j84 (l1 : Int) (h : hS) : Option (Int × hS) :=
  (some (sI h 395 17 l1)).bind (fun h8 =>
  (c188  h8).bind (fun h9 =>
  some (1, h9)))
theorem t196_j84 {d : Nat} (hd : 3 ≤ d) {l1 : Int}  {h : hS} {w : mmW} {o : Int × hS} {Q : mmO → Prop} (rl1 : rg l1) (A : Abs h w) (e : c196_j84 l1 h = some o) (kr : ∀ (v1 : Int) (h1 : hS), o = (v1, h1) → ∀ w', rg v1 → Abs h1 w' → Q (some (.int (Int32.ofInt v1)), w')) : hG d 196 84 [some (vr 395), some (vi l1)] [] w Q := by
  unfold c196_j84 at e
  refine hg_run 2 (pc' := 86) (ls' := [some (vr 395), some (vi l1)]) (st' := [vI l1, vR 395]) rfl ?_
  obtain ⟨h8, e8, e⟩ := ob e
  refine ps_395_17 rfl A rl1 e8 (fun w8 A8 => ?_)
  refine hg_run 1 (pc' := 90) (ls' := [some (vr 395), some (vi l1)]) (st' := [vR 395]) rfl ?_
  obtain ⟨h9, e9, e⟩ := ob e
  refine hg_cV (as := [vR 395]) (st' := []) rfl (fun _ _ _ _ => rfl) rfl rfl (Nat.le_of_ble_eq_true rfl) (Nat.le_of_ble_eq_true rfl) (recvV A8 (a := 13) (Abs_ks A8 (i := 23) rfl).1) (t188 (by omega) A8  e9) (fun w9 A9 => ?_)
  refine hg_run 1 (pc' := 94) (ls' := [some (vr 395), some (vi l1)]) (st' := [vI 1]) rfl ?_
  cases e
  exact hg_retI rfl (by decide) (fit_B (.inr rfl)) (kr _ _ rfl _ (rgn 1 rfl) A9)
def c196 (h : hS) : Option (Int × hS) :=
  if (hI h 395 3) = 2 then
  (lp (fun s => c196_b16 h s) hF0 (0)).bind (fun r5 =>
  if r5 = 40 then
  (c194 3 h).bind (fun v12 =>
  (kB v12.1).bind (fun u13 =>
  some (v12.1, v12.2)))
  else
  if r5 = (hI h 395 7) then
  (wJs h 397 40 r5 (hJ h 395 10)).bind (fun h10 =>
  (some (sI h10 395 7 (wadd (hI h10 395 7) 1))).bind (fun h11 =>
  c196_j84 r5 h11))
  else
  c196_j84 r5 h)
  else
  (c194 1 h).bind (fun v14 =>
  (kB v14.1).bind (fun u15 =>
  some (v14.1, v14.2)))
theorem t196 {d : Nat} (hd : 4 ≤ d)  {h : hS} {w : mmW} {o : Int × hS} (A : Abs h w)  (e : c196 h = some o) : hEv d 196 [vR 395] w (qI o) := by
  obtain ⟨d, rfl⟩ : ∃ d1, d = d1 + 1 := ⟨d - 1, by omega⟩
  have hd : 3 ≤ d := by omega
  refine hEv_start (args := [vr 395]) (nl := 2) rfl (Nat.le_of_ble_eq_true rfl) ?_
  show hG d 196 0 [some (vr 395), none] [] w _
  have kr : ∀ (v1 : Int) (h1 : hS), o = (v1, h1) → ∀ w', rg v1 → Abs h1 w' → qI o (some (.int (Int32.ofInt v1)), w') := fun v1 h1 q w' r A' => by cases q; exact ⟨rfl, r, A'⟩
  unfold c196 at e
  refine hg_run 1 (pc' := 1) (ls' := [some (vr 395), none]) (st' := [vR 395]) rfl ?_
  refine gs_395_3 rfl A ?_
  refine hg_run 1 (pc' := 5) (ls' := [some (vr 395), none]) (st' := [vI 2, vI (hI h 395 3)]) rfl ?_
  rcases oi e with ⟨q1, e⟩ | ⟨q1, e⟩
  · refine hg_icT (tgt := 14) rfl (by decide) (Abs_rg A 395 3) (rgn 2 rfl) q1 ?_
    refine hg_run 2 (pc' := 16) (ls' := [some (vr 395), some (vi 0)]) (st' := []) rfl ?_
    obtain ⟨r5, e5, e⟩ := ob e
    refine t196_l16 hd  _ (rgn 0 rfl) A e5 ?_
    intro x5_0 qq5 q5_1
    subst qq5
    refine hg_run 2 (pc' := 47) (ls' := [some (vr 395), some (vi r5)]) (st' := [vI 40, vI r5]) rfl ?_
    rcases oi e with ⟨q6, e⟩ | ⟨q6, e⟩
    · refine hg_icF (tgt := 56) rfl (by decide) q5_1 (rgn 40 rfl) (show ¬ ¬ (r5 = 40) from fun f => f q6) ?_
      refine hg_run 2 (pc' := 52) (ls' := [some (vr 395), some (vi r5)]) (st' := [vI 3, vR 395]) rfl ?_
      obtain ⟨v12, e12, e⟩ := ob e
      refine hg_cI (as := [vR 395, vI 3]) (st' := []) rfl (fun _ _ _ _ => rfl) rfl rfl (Nat.le_of_ble_eq_true rfl) (Nat.le_of_ble_eq_true rfl) (recvV A (a := 13) (Abs_ks A (i := 23) rfl).1) (t194 (by omega) A (rgn 3 rfl) e12) (fun w12 r12 A12 => ?_)
      obtain ⟨u13, e13, e⟩ := ob e
      cases e
      exact hg_retI rfl (by decide) (fit_B (kB_e e13)) (kr _ _ rfl _ r12 A12)
    · refine hg_icT (tgt := 56) rfl (by decide) q5_1 (rgn 40 rfl) (show ¬ (r5 = 40) from q6) ?_
      refine hg_run 2 (pc' := 58) (ls' := [some (vr 395), some (vi r5)]) (st' := [vR 395, vI r5]) rfl ?_
      refine gs_395_7 rfl A ?_
      rcases oi e with ⟨q7, e⟩ | ⟨q7, e⟩
      · refine hg_icF (tgt := 84) rfl (by decide) q5_1 (Abs_rg A 395 7) (show ¬ ¬ (r5 = (hI h 395 7)) from fun f => f q7) ?_
        refine hg_run 1 (pc' := 65) (ls' := [some (vr 395), some (vi r5)]) (st' := [vR 395]) rfl ?_
        refine gs_395_6 rfl A ?_
        refine hg_run 2 (pc' := 70) (ls' := [some (vr 395), some (vi r5)]) (st' := [vR 395, vI r5, vR 397]) rfl ?_
        refine gs_395_10 rfl A ?_
        obtain ⟨h10, e10, e⟩ := ob e
        refine hg_wJs rfl A (Abs_ks A (i := 25) rfl) (by decide) e10 (fun w10 A10 => ?_)
        refine hg_run 2 (pc' := 76) (ls' := [some (vr 395), some (vi r5)]) (st' := [vR 395, vR 395]) rfl ?_
        refine gs_395_7 rfl A10 ?_
        refine hg_run 2 (pc' := 81) (ls' := [some (vr 395), some (vi r5)]) (st' := [vI (wadd (hI h10 395 7) 1), vR 395]) rfl ?_
        obtain ⟨h11, e11, e⟩ := ob e
        refine ps_395_7 rfl A10 (rg_add _ _) e11 (fun w11 A11 => ?_)
        exact t196_j84 hd q5_1 A11 e kr
      · refine hg_icT (tgt := 84) rfl (by decide) q5_1 (Abs_rg A 395 7) (show ¬ (r5 = (hI h 395 7)) from q7) ?_
        exact t196_j84 hd q5_1 A e kr
  · refine hg_icF (tgt := 14) rfl (by decide) (Abs_rg A 395 3) (rgn 2 rfl) q1 ?_
    refine hg_run 2 (pc' := 10) (ls' := [some (vr 395), none]) (st' := [vI 1, vR 395]) rfl ?_
    obtain ⟨v14, e14, e⟩ := ob e
    refine hg_cI (as := [vR 395, vI 1]) (st' := []) rfl (fun _ _ _ _ => rfl) rfl rfl (Nat.le_of_ble_eq_true rfl) (Nat.le_of_ble_eq_true rfl) (recvV A (a := 13) (Abs_ks A (i := 23) rfl).1) (t194 (by omega) A (rgn 1 rfl) e14) (fun w14 r14 A14 => ?_)
    obtain ⟨u15, e15, e⟩ := ob e
    cases e
    exact hg_retI rfl (by decide) (fit_B (kB_e e15)) (kr _ _ rfl _ r14 A14)
def c198 (l1 : Int) (h : hS) : Option (Int) :=
  (aIs h 400 2307 (wmul 769 l1)).bind (fun v1 =>
  some v1)
theorem t198 {d : Nat} (hd : 1 ≤ d) {l1 : Int} {h : hS} {w : mmW} {o : Int} (A : Abs h w) (rl1 : rg l1) (e : c198 l1 h = some o) : hEv d 198 [vR 395, vI l1] w (qIp o w) := by
  obtain ⟨d, rfl⟩ : ∃ d1, d = d1 + 1 := ⟨d - 1, by omega⟩
  have hd : 0 ≤ d := by omega
  refine hEv_start (args := [vr 395, vi l1]) (nl := 2) rfl (Nat.le_of_ble_eq_true rfl) ?_
  show hG d 198 0 [some (vr 395), some (vi l1)] [] w _
  have kr : ∀ v1 : Int, o = v1 → rg v1 → qIp o w (some (.int (Int32.ofInt v1)), w) := fun v1 q r => by cases q; exact ⟨rfl, r⟩
  unfold c198 at e
  refine hg_run 1 (pc' := 1) (ls' := [some (vr 395), some (vi l1)]) (st' := [vR 395]) rfl ?_
  refine gs_395_23 rfl A ?_
  refine hg_run 3 (pc' := 9) (ls' := [some (vr 395), some (vi l1)]) (st' := [vI (wmul 769 l1), vR 400]) rfl ?_
  obtain ⟨v1, e1, e⟩ := ob e
  refine hg_aIs 0 rfl (fun _ _ _ _ => rfl) A (Abs_ks A (i := 28) rfl) rfl (by decide) e1 (fun r1 => ?_)
  cases e
  exact hg_retI rfl (by decide) (fit_I _) (kr _ rfl r1)
def c199 (l1 : Int) (l2 : Int) (l3 : Int) (h : hS) : Option (Int) :=
  (aIs h 400 2307 (wadd (wadd (wadd (wmul 769 l1) 1) (wmul 64 l2)) l3)).bind (fun v1 =>
  some v1)
theorem t199 {d : Nat} (hd : 1 ≤ d) {l1 : Int} {l2 : Int} {l3 : Int} {h : hS} {w : mmW} {o : Int} (A : Abs h w) (rl1 : rg l1) (rl2 : rg l2) (rl3 : rg l3) (e : c199 l1 l2 l3 h = some o) : hEv d 199 [vR 395, vI l1, vI l2, vI l3] w (qIp o w) := by
  obtain ⟨d, rfl⟩ : ∃ d1, d = d1 + 1 := ⟨d - 1, by omega⟩
  have hd : 0 ≤ d := by omega
  refine hEv_start (args := [vr 395, vi l1, vi l2, vi l3]) (nl := 4) rfl (Nat.le_of_ble_eq_true rfl) ?_
  show hG d 199 0 [some (vr 395), some (vi l1), some (vi l2), some (vi l3)] [] w _
  have kr : ∀ v1 : Int, o = v1 → rg v1 → qIp o w (some (.int (Int32.ofInt v1)), w) := fun v1 q r => by cases q; exact ⟨rfl, r⟩
  unfold c199 at e
  refine hg_run 1 (pc' := 1) (ls' := [some (vr 395), some (vi l1), some (vi l2), some (vi l3)]) (st' := [vR 395]) rfl ?_
  refine gs_395_23 rfl A ?_
  refine hg_run 11 (pc' := 18) (ls' := [some (vr 395), some (vi l1), some (vi l2), some (vi l3)]) (st' := [vI (wadd (wadd (wadd (wmul 769 l1) 1) (wmul 64 l2)) l3), vR 400]) rfl ?_
  obtain ⟨v1, e1, e⟩ := ob e
  refine hg_aIs 0 rfl (fun _ _ _ _ => rfl) A (Abs_ks A (i := 28) rfl) rfl (by decide) e1 (fun r1 => ?_)
  cases e
  exact hg_retI rfl (by decide) (fit_I _) (kr _ rfl r1)
def c197_b2 (l1 : Int) (l2 : Int) (h : hS) (l3 : Int) : Option ((Int) ⊕ ((Unit) ⊕ (Int))) :=
  (c198 l1 h).bind (fun v1 =>
  if v1 ≤ l3 then
  some (.inr (.inl ()))
  else
  (c199 l1 l3 0 h).bind (fun v3 =>
  if v3 = l2 then
  some (.inr (.inr l3))
  else
  some (.inl ((wadd l3 1)))))
theorem t197_b2 {d : Nat} (hd : 1 ≤ d) {l1 : Int} {l2 : Int} {l3 : Int}  {h : hS} {w : mmW} {o : (Int) ⊕ ((Unit) ⊕ (Int))} {Q : mmO → Prop} (rl1 : rg l1) (rl2 : rg l2) (rl3 : rg l3) (A : Abs h w) (e : c197_b2 l1 l2 h l3 = some o) (kb : ∀ (s_0 : Int), o = .inl (s_0) → rg s_0 → hG d 197 2 [some (vr 395), some (vi l1), some (vi l2), some (vi s_0)] [] w Q) (ke : o = .inr (.inl ()) → ∀ (y3 : Option hO), hG d 197 30 [some (vr 395), some (vi l1), some (vi l2), y3] [] w Q) (kr : ∀ v1 : Int, o = .inr (.inr v1) → rg v1 → Q (some (.int (Int32.ofInt v1)), w)) : hG d 197 2 [some (vr 395), some (vi l1), some (vi l2), some (vi l3)] [] w Q := by
  unfold c197_b2 at e
  refine hg_run 3 (pc' := 5) (ls' := [some (vr 395), some (vi l1), some (vi l2), some (vi l3)]) (st' := [vI l1, vR 395, vI l3]) rfl ?_
  obtain ⟨v1, e1, e⟩ := ob e
  refine hg_cIp (as := [vR 395, vI l1]) (st' := [vI l3]) rfl (fun _ _ _ _ => rfl) rfl rfl (Nat.le_of_ble_eq_true rfl) (Nat.le_of_ble_eq_true rfl) (recvV A (a := 13) (Abs_ks A (i := 23) rfl).1) (t198 (by omega) A rl1 e1) (fun r1 => ?_)
  rcases oi e with ⟨q2, e⟩ | ⟨q2, e⟩
  · refine hg_icT (tgt := 30) rfl (by decide) rl3 r1 q2 ?_
    cases e
    exact ke  rfl _ 
  · refine hg_icF (tgt := 30) rfl (by decide) rl3 r1 q2 ?_
    refine hg_run 4 (pc' := 15) (ls' := [some (vr 395), some (vi l1), some (vi l2), some (vi l3)]) (st' := [vI 0, vI l3, vI l1, vR 395]) rfl ?_
    obtain ⟨v3, e3, e⟩ := ob e
    refine hg_cIp (as := [vR 395, vI l1, vI l3, vI 0]) (st' := []) rfl (fun _ _ _ _ => rfl) rfl rfl (Nat.le_of_ble_eq_true rfl) (Nat.le_of_ble_eq_true rfl) (recvV A (a := 13) (Abs_ks A (i := 23) rfl).1) (t199 (by omega) A rl1 rl3 (rgn 0 rfl) e3) (fun r3 => ?_)
    refine hg_run 1 (pc' := 19) (ls' := [some (vr 395), some (vi l1), some (vi l2), some (vi l3)]) (st' := [vI l2, vI v3]) rfl ?_
    rcases oi e with ⟨q4, e⟩ | ⟨q4, e⟩
    · refine hg_icF (tgt := 24) rfl (by decide) r3 rl2 (show ¬ ¬ (v3 = l2) from fun f => f q4) ?_
      refine hg_run 1 (pc' := 23) (ls' := [some (vr 395), some (vi l1), some (vi l2), some (vi l3)]) (st' := [vI l3]) rfl ?_
      cases e
      exact hg_retI rfl (by decide) (fit_I _) (kr _ rfl rl3)
    · refine hg_icT (tgt := 24) rfl (by decide) r3 rl2 (show ¬ (v3 = l2) from q4) ?_
      refine hg_run 2 (pc' := 2) (ls' := [some (vr 395), some (vi l1), some (vi l2), some (vi (wadd l3 1))]) (st' := []) rfl ?_
      cases e
      exact kb (wadd l3 1) rfl (rg_add _ _)
theorem t197_l2 {d : Nat} (hd : 1 ≤ d) {l1 : Int} {l2 : Int}  {h : hS} {w : mmW} {Q : mmO → Prop} (rl1 : rg l1) (rl2 : rg l2) (n : Nat) {l3 : Int}  {r : (Unit) ⊕ (Int)} (rl3 : rg l3) (A : Abs h w) (e : lp (fun s => c197_b2 l1 l2 h s) n (l3) = some r) (ke : r = .inl () → ∀ (y3 : Option hO), hG d 197 30 [some (vr 395), some (vi l1), some (vi l2), y3] [] w Q) (kr : ∀ v1 : Int, r = .inr v1 → rg v1 → Q (some (.int (Int32.ofInt v1)), w)) : hG d 197 2 [some (vr 395), some (vi l1), some (vi l2), some (vi l3)] [] w Q := by
  induction n generalizing l3 with
  | zero => cases e
  | succ n ih =>
    rcases lp_succ e with ⟨s1, e1, e2⟩ | e1
    · exact t197_b2 hd rl1 rl2 rl3 A e1 (fun s_0 q rl3 => by cases q; exact ih rl3 e2) (fun  q => by cases q) (fun v0 q => by cases q)
    · exact t197_b2 hd rl1 rl2 rl3 A e1 (fun s_0 q => by cases q) (fun  q => by cases q; exact ke  rfl) (fun v0 q => by cases q; exact kr _ rfl)
def c197 (l1 : Int) (l2 : Int) (h : hS) : Option (Int) :=
  (lp (fun s => c197_b2 l1 l2 h s) hF0 (0)).bind (fun r5 => xs r5 (fun x5 =>
  some (-1)) (fun o5 => some o5))
theorem t197 {d : Nat} (hd : 2 ≤ d) {l1 : Int} {l2 : Int} {h : hS} {w : mmW} {o : Int} (A : Abs h w) (rl1 : rg l1) (rl2 : rg l2) (e : c197 l1 l2 h = some o) : hEv d 197 [vR 395, vI l1, vI l2] w (qIp o w) := by
  obtain ⟨d, rfl⟩ : ∃ d1, d = d1 + 1 := ⟨d - 1, by omega⟩
  have hd : 1 ≤ d := by omega
  refine hEv_start (args := [vr 395, vi l1, vi l2]) (nl := 4) rfl (Nat.le_of_ble_eq_true rfl) ?_
  show hG d 197 0 [some (vr 395), some (vi l1), some (vi l2), none] [] w _
  have kr : ∀ v1 : Int, o = v1 → rg v1 → qIp o w (some (.int (Int32.ofInt v1)), w) := fun v1 q r => by cases q; exact ⟨rfl, r⟩
  unfold c197 at e
  refine hg_run 2 (pc' := 2) (ls' := [some (vr 395), some (vi l1), some (vi l2), some (vi 0)]) (st' := []) rfl ?_
  obtain ⟨r5, e5, e⟩ := ob e
  refine t197_l2 hd rl1 rl2 _ (rgn 0 rfl) A e5 ?_ ?_
  · intro  qq5 z5_3
    subst qq5
    have e := xs_l e
    refine hg_run 1 (pc' := 31) (ls' := [some (vr 395), some (vi l1), some (vi l2), z5_3]) (st' := [vI (-1)]) rfl ?_
    cases e
    exact hg_retI rfl (by decide) (fit_I _) (kr _ rfl (rgn (-1) rfl))
  · intro v5 qq5 r5
    subst qq5
    have e := xs_r e
    cases e
    exact kr _ rfl r5
def c201 (l1 : Int) (l2 : Int) (l3 : Int) (l4 : Int) (h : hS) : Option (hS) :=
  (wIs h 400 2307 (wadd (wadd (wadd (wmul 769 l1) 1) (wmul 64 l2)) l3) l4).bind (fun h1 =>
  some h1)
theorem t201 {d : Nat} (hd : 1 ≤ d) {l1 : Int} {l2 : Int} {l3 : Int} {l4 : Int} {h : hS} {w : mmW} {o : hS} (A : Abs h w) (rl1 : rg l1) (rl2 : rg l2) (rl3 : rg l3) (rl4 : rg l4) (e : c201 l1 l2 l3 l4 h = some o) : hEv d 201 [vR 395, vI l1, vI l2, vI l3, vI l4] w (qV o) := by
  obtain ⟨d, rfl⟩ : ∃ d1, d = d1 + 1 := ⟨d - 1, by omega⟩
  have hd : 0 ≤ d := by omega
  refine hEv_start (args := [vr 395, vi l1, vi l2, vi l3, vi l4]) (nl := 5) rfl (Nat.le_of_ble_eq_true rfl) ?_
  show hG d 201 0 [some (vr 395), some (vi l1), some (vi l2), some (vi l3), some (vi l4)] [] w _
  have kr : ∀ h1 : hS, o = h1 → ∀ w', Abs h1 w' → qV o (none, w') := fun h1 q w' A' => by cases q; exact ⟨rfl, A'⟩
  unfold c201 at e
  refine hg_run 1 (pc' := 1) (ls' := [some (vr 395), some (vi l1), some (vi l2), some (vi l3), some (vi l4)]) (st' := [vR 395]) rfl ?_
  refine gs_395_23 rfl A ?_
  refine hg_run 12 (pc' := 20) (ls' := [some (vr 395), some (vi l1), some (vi l2), some (vi l3), some (vi l4)]) (st' := [vI l4, vI (wadd (wadd (wadd (wmul 769 l1) 1) (wmul 64 l2)) l3), vR 400]) rfl ?_
  obtain ⟨h1, e1, e⟩ := ob e
  refine hg_wIs rfl A (Abs_ks A (i := 28) rfl) (by decide) rl4 e1 (fun w1 A1 => ?_)
  cases e
  exact hg_retV rfl (kr _ rfl _ A1)
def c200_b23 (l1 : Int) (l3 : Int) (l4 : Int) (h : hS) : Option ((Int × hS) ⊕ (hS)) :=
  if 64 ≤ l4 then
  some (.inr (h))
  else
  (c201 l1 l3 l4 0 h).bind (fun h5 =>
  some (.inl ((wadd l4 1), h5)))
theorem t200_b23 {d : Nat} (hd : 1 ≤ d) {l1 : Int} {l3 : Int} {l4 : Int} {l2 : Int} {h : hS} {w : mmW} {o : (Int × hS) ⊕ (hS)} {Q : mmO → Prop} (rl1 : rg l1) (rl3 : rg l3) (rl4 : rg l4) (A : Abs h w) (e : c200_b23 l1 l3 l4 h = some o) (kb : ∀ (s_0 : Int) (s_1 : hS), o = .inl (s_0, s_1) → ∀ w', rg s_0 → Abs s_1 w' → hG d 200 23 [some (vr 395), some (vi l1), some (vi l2), some (vi l3), some (vi s_0)] [] w' Q) (ke : ∀ (x_0 : hS), o = .inr (x_0) → ∀ w', ∀ (y4 : Option hO), Abs x_0 w' → hG d 200 45 [some (vr 395), some (vi l1), some (vi l2), some (vi l3), y4] [] w' Q) : hG d 200 23 [some (vr 395), some (vi l1), some (vi l2), some (vi l3), some (vi l4)] [] w Q := by
  unfold c200_b23 at e
  refine hg_run 2 (pc' := 27) (ls' := [some (vr 395), some (vi l1), some (vi l2), some (vi l3), some (vi l4)]) (st' := [vI 64, vI l4]) rfl ?_
  rcases oi e with ⟨q4, e⟩ | ⟨q4, e⟩
  · refine hg_icT (tgt := 45) rfl (by decide) rl4 (rgn 64 rfl) q4 ?_
    cases e
    exact ke h rfl _ _  A
  · refine hg_icF (tgt := 45) rfl (by decide) rl4 (rgn 64 rfl) q4 ?_
    refine hg_run 5 (pc' := 36) (ls' := [some (vr 395), some (vi l1), some (vi l2), some (vi l3), some (vi l4)]) (st' := [vI 0, vI l4, vI l3, vI l1, vR 395]) rfl ?_
    obtain ⟨h5, e5, e⟩ := ob e
    refine hg_cV (as := [vR 395, vI l1, vI l3, vI l4, vI 0]) (st' := []) rfl (fun _ _ _ _ => rfl) rfl rfl (Nat.le_of_ble_eq_true rfl) (Nat.le_of_ble_eq_true rfl) (recvV A (a := 13) (Abs_ks A (i := 23) rfl).1) (t201 (by omega) A rl1 rl3 rl4 (rgn 0 rfl) e5) (fun w5 A5 => ?_)
    refine hg_run 2 (pc' := 23) (ls' := [some (vr 395), some (vi l1), some (vi l2), some (vi l3), some (vi (wadd l4 1))]) (st' := []) rfl ?_
    cases e
    exact kb (wadd l4 1) h5 rfl _ (rg_add _ _) A5
theorem t200_l23 {d : Nat} (hd : 1 ≤ d) {l1 : Int} {l3 : Int} {l2 : Int} {Q : mmO → Prop} (rl1 : rg l1) (rl3 : rg l3) (n : Nat) {l4 : Int}  {h : hS} {w : mmW} {r : hS} (rl4 : rg l4) (A : Abs h w) (e : lp (fun s => c200_b23 l1 l3 s.1 s.2) n (l4, h) = some r) (ke : ∀ (x_0 : hS), r = (x_0) → ∀ w', ∀ (y4 : Option hO), Abs x_0 w' → hG d 200 45 [some (vr 395), some (vi l1), some (vi l2), some (vi l3), y4] [] w' Q) : hG d 200 23 [some (vr 395), some (vi l1), some (vi l2), some (vi l3), some (vi l4)] [] w Q := by
  induction n generalizing l4 h w with
  | zero => cases e
  | succ n ih =>
    rcases lp_succ e with ⟨s1, e1, e2⟩ | e1
    · exact t200_b23 hd rl1 rl3 rl4 A e1 (fun s_0 s_1 q w1 rl4 A1 => by cases q; exact ih rl4 A1 e2) (fun x_0 q => by cases q)
    · exact t200_b23 hd rl1 rl3 rl4 A e1 (fun s_0 s_1 q => by cases q) (fun x_0 q => by cases q; exact ke _ rfl)
def c200 (l1 : Int) (l2 : Int) (h : hS) : Option (Int × hS) :=
  (c198 l1 h).bind (fun v1 =>
  (aIs h 400 2307 (wmul 769 l1)).bind (fun v2 =>
  (wIs h 400 2307 (wmul 769 l1) (wadd v2 1)).bind (fun h3 =>
  (lp (fun s => c200_b23 l1 v1 s.1 s.2) hF0 (0, h3)).bind (fun r6 =>
  (c201 l1 v1 0 l2 r6).bind (fun h7 =>
  (c201 l1 v1 1 (-1) h7).bind (fun h8 =>
  (c201 l1 v1 4 (-1) h8).bind (fun h9 =>
  (c201 l1 v1 3 1 h9).bind (fun h10 =>
  some (v1, h10)))))))))
theorem t200 {d : Nat} (hd : 2 ≤ d) {l1 : Int} {l2 : Int} {h : hS} {w : mmW} {o : Int × hS} (A : Abs h w) (rl1 : rg l1) (rl2 : rg l2) (e : c200 l1 l2 h = some o) : hEv d 200 [vR 395, vI l1, vI l2] w (qI o) := by
  obtain ⟨d, rfl⟩ : ∃ d1, d = d1 + 1 := ⟨d - 1, by omega⟩
  have hd : 1 ≤ d := by omega
  refine hEv_start (args := [vr 395, vi l1, vi l2]) (nl := 5) rfl (Nat.le_of_ble_eq_true rfl) ?_
  show hG d 200 0 [some (vr 395), some (vi l1), some (vi l2), none, none] [] w _
  have kr : ∀ (v1 : Int) (h1 : hS), o = (v1, h1) → ∀ w', rg v1 → Abs h1 w' → qI o (some (.int (Int32.ofInt v1)), w') := fun v1 h1 q w' r A' => by cases q; exact ⟨rfl, r, A'⟩
  unfold c200 at e
  refine hg_run 2 (pc' := 2) (ls' := [some (vr 395), some (vi l1), some (vi l2), none, none]) (st' := [vI l1, vR 395]) rfl ?_
  obtain ⟨v1, e1, e⟩ := ob e
  refine hg_cIp (as := [vR 395, vI l1]) (st' := []) rfl (fun _ _ _ _ => rfl) rfl rfl (Nat.le_of_ble_eq_true rfl) (Nat.le_of_ble_eq_true rfl) (recvV A (a := 13) (Abs_ks A (i := 23) rfl).1) (t198 (by omega) A rl1 e1) (fun r1 => ?_)
  refine hg_run 2 (pc' := 7) (ls' := [some (vr 395), some (vi l1), some (vi l2), some (vi v1), none]) (st' := [vR 395]) rfl ?_
  refine gs_395_23 rfl A ?_
  refine hg_run 4 (pc' := 16) (ls' := [some (vr 395), some (vi l1), some (vi l2), some (vi v1), none]) (st' := [vI (wmul 769 l1), vR 400, vI (wmul 769 l1), vR 400]) rfl ?_
  obtain ⟨v2, e2, e⟩ := ob e
  refine hg_aIs 0 rfl (fun _ _ _ _ => rfl) A (Abs_ks A (i := 28) rfl) rfl (by decide) e2 (fun r2 => ?_)
  refine hg_run 2 (pc' := 19) (ls' := [some (vr 395), some (vi l1), some (vi l2), some (vi v1), none]) (st' := [vI (wadd v2 1), vI (wmul 769 l1), vR 400]) rfl ?_
  obtain ⟨h3, e3, e⟩ := ob e
  refine hg_wIs rfl A (Abs_ks A (i := 28) rfl) (by decide) (rg_add _ _) e3 (fun w3 A3 => ?_)
  refine hg_run 2 (pc' := 23) (ls' := [some (vr 395), some (vi l1), some (vi l2), some (vi v1), some (vi 0)]) (st' := []) rfl ?_
  obtain ⟨r6, e6, e⟩ := ob e
  refine t200_l23 hd rl1 r1 _ (rgn 0 rfl) A3 e6 ?_
  intro x6_0 qq6 w6 z6_4 A6
  subst qq6
  refine hg_run 5 (pc' := 50) (ls' := [some (vr 395), some (vi l1), some (vi l2), some (vi v1), z6_4]) (st' := [vI l2, vI 0, vI v1, vI l1, vR 395]) rfl ?_
  obtain ⟨h7, e7, e⟩ := ob e
  refine hg_cV (as := [vR 395, vI l1, vI v1, vI 0, vI l2]) (st' := []) rfl (fun _ _ _ _ => rfl) rfl rfl (Nat.le_of_ble_eq_true rfl) (Nat.le_of_ble_eq_true rfl) (recvV A6 (a := 13) (Abs_ks A6 (i := 23) rfl).1) (t201 (by omega) A6 rl1 r1 (rgn 0 rfl) rl2 e7) (fun w7 A7 => ?_)
  refine hg_run 5 (pc' := 58) (ls' := [some (vr 395), some (vi l1), some (vi l2), some (vi v1), z6_4]) (st' := [vI (-1), vI 1, vI v1, vI l1, vR 395]) rfl ?_
  obtain ⟨h8, e8, e⟩ := ob e
  refine hg_cV (as := [vR 395, vI l1, vI v1, vI 1, vI (-1)]) (st' := []) rfl (fun _ _ _ _ => rfl) rfl rfl (Nat.le_of_ble_eq_true rfl) (Nat.le_of_ble_eq_true rfl) (recvV A7 (a := 13) (Abs_ks A7 (i := 23) rfl).1) (t201 (by omega) A7 rl1 r1 (rgn 1 rfl) (rgn (-1) rfl) e8) (fun w8 A8 => ?_)
  refine hg_run 5 (pc' := 66) (ls' := [some (vr 395), some (vi l1), some (vi l2), some (vi v1), z6_4]) (st' := [vI (-1), vI 4, vI v1, vI l1, vR 395]) rfl ?_
  obtain ⟨h9, e9, e⟩ := ob e
  refine hg_cV (as := [vR 395, vI l1, vI v1, vI 4, vI (-1)]) (st' := []) rfl (fun _ _ _ _ => rfl) rfl rfl (Nat.le_of_ble_eq_true rfl) (Nat.le_of_ble_eq_true rfl) (recvV A8 (a := 13) (Abs_ks A8 (i := 23) rfl).1) (t201 (by omega) A8 rl1 r1 (rgn 4 rfl) (rgn (-1) rfl) e9) (fun w9 A9 => ?_)
  refine hg_run 5 (pc' := 74) (ls' := [some (vr 395), some (vi l1), some (vi l2), some (vi v1), z6_4]) (st' := [vI 1, vI 3, vI v1, vI l1, vR 395]) rfl ?_
  obtain ⟨h10, e10, e⟩ := ob e
  refine hg_cV (as := [vR 395, vI l1, vI v1, vI 3, vI 1]) (st' := []) rfl (fun _ _ _ _ => rfl) rfl rfl (Nat.le_of_ble_eq_true rfl) (Nat.le_of_ble_eq_true rfl) (recvV A9 (a := 13) (Abs_ks A9 (i := 23) rfl).1) (t201 (by omega) A9 rl1 r1 (rgn 3 rfl) (rgn 1 rfl) e10) (fun w10 A10 => ?_)
  refine hg_run 1 (pc' := 78) (ls' := [some (vr 395), some (vi l1), some (vi l2), some (vi v1), z6_4]) (st' := [vI v1]) rfl ?_
  cases e
  exact hg_retI rfl (by decide) (fit_I _) (kr _ _ rfl _ r1 A10)
def c203 (l1 : Int) (h : hS) : Option (Int) :=
  if (hI h 395 3) = (wadd 200 l1) then
  some 1
  else
  some 0
theorem t203 {d : Nat} (hd : 1 ≤ d) {l1 : Int} {h : hS} {w : mmW} {o : Int} (A : Abs h w) (rl1 : rg l1) (e : c203 l1 h = some o) : hEv d 203 [vR 395, vI l1] w (qIp o w) := by
  obtain ⟨d, rfl⟩ : ∃ d1, d = d1 + 1 := ⟨d - 1, by omega⟩
  have hd : 0 ≤ d := by omega
  refine hEv_start (args := [vr 395, vi l1]) (nl := 2) rfl (Nat.le_of_ble_eq_true rfl) ?_
  show hG d 203 0 [some (vr 395), some (vi l1)] [] w _
  have kr : ∀ v1 : Int, o = v1 → rg v1 → qIp o w (some (.int (Int32.ofInt v1)), w) := fun v1 q r => by cases q; exact ⟨rfl, r⟩
  unfold c203 at e
  refine hg_run 1 (pc' := 1) (ls' := [some (vr 395), some (vi l1)]) (st' := [vR 395]) rfl ?_
  refine gs_395_3 rfl A ?_
  refine hg_run 3 (pc' := 9) (ls' := [some (vr 395), some (vi l1)]) (st' := [vI (wadd 200 l1), vI (hI h 395 3)]) rfl ?_
  rcases oi e with ⟨q1, e⟩ | ⟨q1, e⟩
  · refine hg_icF (tgt := 16) rfl (by decide) (Abs_rg A 395 3) (rg_add _ _) (show ¬ ¬ ((hI h 395 3) = (wadd 200 l1)) from fun f => f q1) ?_
    refine hg_run 2 (pc' := 17) (ls' := [some (vr 395), some (vi l1)]) (st' := [vI 1]) rfl ?_
    cases e
    exact hg_retI rfl (by decide) (fit_B (.inr rfl)) (kr _ rfl (rgn 1 rfl))
  · refine hg_icT (tgt := 16) rfl (by decide) (Abs_rg A 395 3) (rg_add _ _) (show ¬ ((hI h 395 3) = (wadd 200 l1)) from q1) ?_
    refine hg_run 1 (pc' := 17) (ls' := [some (vr 395), some (vi l1)]) (st' := [vI 0]) rfl ?_
    cases e
    exact hg_retI rfl (by decide) (fit_B (.inl rfl)) (kr _ rfl (rgn 0 rfl))
def c202 (l1 : Int) (h : hS) : Option (Int × hS) :=
  (c203 l1 h).bind (fun v1 =>
  if v1 = 0 then
  (c194 1 h).bind (fun v4 =>
  (kB v4.1).bind (fun u5 =>
  some (v4.1, v4.2)))
  else
  (c188  h).bind (fun h3 =>
  some (1, h3)))
theorem t202 {d : Nat} (hd : 4 ≤ d) {l1 : Int} {h : hS} {w : mmW} {o : Int × hS} (A : Abs h w) (rl1 : rg l1) (e : c202 l1 h = some o) : hEv d 202 [vR 395, vI l1] w (qI o) := by
  obtain ⟨d, rfl⟩ : ∃ d1, d = d1 + 1 := ⟨d - 1, by omega⟩
  have hd : 3 ≤ d := by omega
  refine hEv_start (args := [vr 395, vi l1]) (nl := 2) rfl (Nat.le_of_ble_eq_true rfl) ?_
  show hG d 202 0 [some (vr 395), some (vi l1)] [] w _
  have kr : ∀ (v1 : Int) (h1 : hS), o = (v1, h1) → ∀ w', rg v1 → Abs h1 w' → qI o (some (.int (Int32.ofInt v1)), w') := fun v1 h1 q w' r A' => by cases q; exact ⟨rfl, r, A'⟩
  unfold c202 at e
  refine hg_run 2 (pc' := 2) (ls' := [some (vr 395), some (vi l1)]) (st' := [vI l1, vR 395]) rfl ?_
  obtain ⟨v1, e1, e⟩ := ob e
  refine hg_cIp (as := [vR 395, vI l1]) (st' := []) rfl (fun _ _ _ _ => rfl) rfl rfl (Nat.le_of_ble_eq_true rfl) (Nat.le_of_ble_eq_true rfl) (recvV A (a := 13) (Abs_ks A (i := 23) rfl).1) (t203 (by omega) A rl1 e1) (fun r1 => ?_)
  rcases oi e with ⟨q2, e⟩ | ⟨q2, e⟩
  · refine hg_ifF (tgt := 14) rfl (by decide) r1 (show ¬ ¬ (v1 = 0) from fun f => f q2) ?_
    refine hg_run 2 (pc' := 10) (ls' := [some (vr 395), some (vi l1)]) (st' := [vI 1, vR 395]) rfl ?_
    obtain ⟨v4, e4, e⟩ := ob e
    refine hg_cI (as := [vR 395, vI 1]) (st' := []) rfl (fun _ _ _ _ => rfl) rfl rfl (Nat.le_of_ble_eq_true rfl) (Nat.le_of_ble_eq_true rfl) (recvV A (a := 13) (Abs_ks A (i := 23) rfl).1) (t194 (by omega) A (rgn 1 rfl) e4) (fun w4 r4 A4 => ?_)
    obtain ⟨u5, e5, e⟩ := ob e
    cases e
    exact hg_retI rfl (by decide) (fit_B (kB_e e5)) (kr _ _ rfl _ r4 A4)
  · refine hg_ifT (tgt := 14) rfl (by decide) r1 (show ¬ (v1 = 0) from q2) ?_
    refine hg_run 1 (pc' := 15) (ls' := [some (vr 395), some (vi l1)]) (st' := [vR 395]) rfl ?_
    obtain ⟨h3, e3, e⟩ := ob e
    refine hg_cV (as := [vR 395]) (st' := []) rfl (fun _ _ _ _ => rfl) rfl rfl (Nat.le_of_ble_eq_true rfl) (Nat.le_of_ble_eq_true rfl) (recvV A (a := 13) (Abs_ks A (i := 23) rfl).1) (t188 (by omega) A  e3) (fun w3 A3 => ?_)
    refine hg_run 1 (pc' := 19) (ls' := [some (vr 395), some (vi l1)]) (st' := [vI 1]) rfl ?_
    cases e
    exact hg_retI rfl (by decide) (fit_B (.inr rfl)) (kr _ _ rfl _ (rgn 1 rfl) A3)
def c205_b3 (l1 : Int) (l2 : Int) (l3 : Int) (h : hS) (l4 : Int) : Option ((Int) ⊕ ((Unit) ⊕ (Int))) :=
  (c199 l1 l2 39 h).bind (fun v1 =>
  if v1 ≤ l4 then
  some (.inr (.inl ()))
  else
  (c199 l1 l2 (wadd 40 l4) h).bind (fun v3 =>
  if v3 = l3 then
  some (.inr (.inr l4))
  else
  some (.inl ((wadd l4 1)))))
theorem t205_b3 {d : Nat} (hd : 1 ≤ d) {l1 : Int} {l2 : Int} {l3 : Int} {l4 : Int}  {h : hS} {w : mmW} {o : (Int) ⊕ ((Unit) ⊕ (Int))} {Q : mmO → Prop} (rl1 : rg l1) (rl2 : rg l2) (rl3 : rg l3) (rl4 : rg l4) (A : Abs h w) (e : c205_b3 l1 l2 l3 h l4 = some o) (kb : ∀ (s_0 : Int), o = .inl (s_0) → rg s_0 → hG d 205 3 [some (vr 395), some (vi l1), some (vi l2), some (vi l3), some (vi s_0)] [] w Q) (ke : o = .inr (.inl ()) → ∀ (y4 : Option hO), hG d 205 40 [some (vr 395), some (vi l1), some (vi l2), some (vi l3), y4] [] w Q) (kr : ∀ v1 : Int, o = .inr (.inr v1) → rg v1 → Q (some (.int (Int32.ofInt v1)), w)) : hG d 205 3 [some (vr 395), some (vi l1), some (vi l2), some (vi l3), some (vi l4)] [] w Q := by
  unfold c205_b3 at e
  refine hg_run 5 (pc' := 10) (ls' := [some (vr 395), some (vi l1), some (vi l2), some (vi l3), some (vi l4)]) (st' := [vI 39, vI l2, vI l1, vR 395, vI l4]) rfl ?_
  obtain ⟨v1, e1, e⟩ := ob e
  refine hg_cIp (as := [vR 395, vI l1, vI l2, vI 39]) (st' := [vI l4]) rfl (fun _ _ _ _ => rfl) rfl rfl (Nat.le_of_ble_eq_true rfl) (Nat.le_of_ble_eq_true rfl) (recvV A (a := 13) (Abs_ks A (i := 23) rfl).1) (t199 (by omega) A rl1 rl2 (rgn 39 rfl) e1) (fun r1 => ?_)
  rcases oi e with ⟨q2, e⟩ | ⟨q2, e⟩
  · refine hg_icT (tgt := 40) rfl (by decide) rl4 r1 q2 ?_
    cases e
    exact ke  rfl _ 
  · refine hg_icF (tgt := 40) rfl (by decide) rl4 r1 q2 ?_
    refine hg_run 6 (pc' := 24) (ls' := [some (vr 395), some (vi l1), some (vi l2), some (vi l3), some (vi l4)]) (st' := [vI (wadd 40 l4), vI l2, vI l1, vR 395]) rfl ?_
    obtain ⟨v3, e3, e⟩ := ob e
    refine hg_cIp (as := [vR 395, vI l1, vI l2, vI (wadd 40 l4)]) (st' := []) rfl (fun _ _ _ _ => rfl) rfl rfl (Nat.le_of_ble_eq_true rfl) (Nat.le_of_ble_eq_true rfl) (recvV A (a := 13) (Abs_ks A (i := 23) rfl).1) (t199 (by omega) A rl1 rl2 (rg_add _ _) e3) (fun r3 => ?_)
    refine hg_run 1 (pc' := 28) (ls' := [some (vr 395), some (vi l1), some (vi l2), some (vi l3), some (vi l4)]) (st' := [vI l3, vI v3]) rfl ?_
    rcases oi e with ⟨q4, e⟩ | ⟨q4, e⟩
    · refine hg_icF (tgt := 34) rfl (by decide) r3 rl3 (show ¬ ¬ (v3 = l3) from fun f => f q4) ?_
      refine hg_run 1 (pc' := 33) (ls' := [some (vr 395), some (vi l1), some (vi l2), some (vi l3), some (vi l4)]) (st' := [vI l4]) rfl ?_
      cases e
      exact hg_retI rfl (by decide) (fit_I _) (kr _ rfl rl4)
    · refine hg_icT (tgt := 34) rfl (by decide) r3 rl3 (show ¬ (v3 = l3) from q4) ?_
      refine hg_run 2 (pc' := 3) (ls' := [some (vr 395), some (vi l1), some (vi l2), some (vi l3), some (vi (wadd l4 1))]) (st' := []) rfl ?_
      cases e
      exact kb (wadd l4 1) rfl (rg_add _ _)
theorem t205_l3 {d : Nat} (hd : 1 ≤ d) {l1 : Int} {l2 : Int} {l3 : Int}  {h : hS} {w : mmW} {Q : mmO → Prop} (rl1 : rg l1) (rl2 : rg l2) (rl3 : rg l3) (n : Nat) {l4 : Int}  {r : (Unit) ⊕ (Int)} (rl4 : rg l4) (A : Abs h w) (e : lp (fun s => c205_b3 l1 l2 l3 h s) n (l4) = some r) (ke : r = .inl () → ∀ (y4 : Option hO), hG d 205 40 [some (vr 395), some (vi l1), some (vi l2), some (vi l3), y4] [] w Q) (kr : ∀ v1 : Int, r = .inr v1 → rg v1 → Q (some (.int (Int32.ofInt v1)), w)) : hG d 205 3 [some (vr 395), some (vi l1), some (vi l2), some (vi l3), some (vi l4)] [] w Q := by
  induction n generalizing l4 with
  | zero => cases e
  | succ n ih =>
    rcases lp_succ e with ⟨s1, e1, e2⟩ | e1
    · exact t205_b3 hd rl1 rl2 rl3 rl4 A e1 (fun s_0 q rl4 => by cases q; exact ih rl4 e2) (fun  q => by cases q) (fun v0 q => by cases q)
    · exact t205_b3 hd rl1 rl2 rl3 rl4 A e1 (fun s_0 q => by cases q) (fun  q => by cases q; exact ke  rfl) (fun v0 q => by cases q; exact kr _ rfl)
def c205 (l1 : Int) (l2 : Int) (l3 : Int) (h : hS) : Option (Int) :=
  (lp (fun s => c205_b3 l1 l2 l3 h s) hF0 (0)).bind (fun r5 => xs r5 (fun x5 =>
  some (-1)) (fun o5 => some o5))
theorem t205 {d : Nat} (hd : 2 ≤ d) {l1 : Int} {l2 : Int} {l3 : Int} {h : hS} {w : mmW} {o : Int} (A : Abs h w) (rl1 : rg l1) (rl2 : rg l2) (rl3 : rg l3) (e : c205 l1 l2 l3 h = some o) : hEv d 205 [vR 395, vI l1, vI l2, vI l3] w (qIp o w) := by
  obtain ⟨d, rfl⟩ : ∃ d1, d = d1 + 1 := ⟨d - 1, by omega⟩
  have hd : 1 ≤ d := by omega
  refine hEv_start (args := [vr 395, vi l1, vi l2, vi l3]) (nl := 5) rfl (Nat.le_of_ble_eq_true rfl) ?_
  show hG d 205 0 [some (vr 395), some (vi l1), some (vi l2), some (vi l3), none] [] w _
  have kr : ∀ v1 : Int, o = v1 → rg v1 → qIp o w (some (.int (Int32.ofInt v1)), w) := fun v1 q r => by cases q; exact ⟨rfl, r⟩
  unfold c205 at e
  refine hg_run 2 (pc' := 3) (ls' := [some (vr 395), some (vi l1), some (vi l2), some (vi l3), some (vi 0)]) (st' := []) rfl ?_
  obtain ⟨r5, e5, e⟩ := ob e
  refine t205_l3 hd rl1 rl2 rl3 _ (rgn 0 rfl) A e5 ?_ ?_
  · intro  qq5 z5_4
    subst qq5
    have e := xs_l e
    refine hg_run 1 (pc' := 41) (ls' := [some (vr 395), some (vi l1), some (vi l2), some (vi l3), z5_4]) (st' := [vI (-1)]) rfl ?_
    cases e
    exact hg_retI rfl (by decide) (fit_I _) (kr _ rfl (rgn (-1) rfl))
  · intro v5 qq5 r5
    subst qq5
    have e := xs_r e
    cases e
    exact kr _ rfl r5
def c207_b3 (l1 : Int) (l2 : Int) (l3 : Int) (h : hS) (l4 : Int) : Option ((Int) ⊕ ((Unit) ⊕ (Int))) :=
  (c199 l1 l2 5 h).bind (fun v1 =>
  if v1 ≤ l4 then
  some (.inr (.inl ()))
  else
  (c199 l1 l2 (wadd 6 l4) h).bind (fun v3 =>
  if v3 = l3 then
  some (.inr (.inr l4))
  else
  some (.inl ((wadd l4 1)))))
theorem t207_b3 {d : Nat} (hd : 1 ≤ d) {l1 : Int} {l2 : Int} {l3 : Int} {l4 : Int}  {h : hS} {w : mmW} {o : (Int) ⊕ ((Unit) ⊕ (Int))} {Q : mmO → Prop} (rl1 : rg l1) (rl2 : rg l2) (rl3 : rg l3) (rl4 : rg l4) (A : Abs h w) (e : c207_b3 l1 l2 l3 h l4 = some o) (kb : ∀ (s_0 : Int), o = .inl (s_0) → rg s_0 → hG d 207 3 [some (vr 395), some (vi l1), some (vi l2), some (vi l3), some (vi s_0)] [] w Q) (ke : o = .inr (.inl ()) → ∀ (y4 : Option hO), hG d 207 39 [some (vr 395), some (vi l1), some (vi l2), some (vi l3), y4] [] w Q) (kr : ∀ v1 : Int, o = .inr (.inr v1) → rg v1 → Q (some (.int (Int32.ofInt v1)), w)) : hG d 207 3 [some (vr 395), some (vi l1), some (vi l2), some (vi l3), some (vi l4)] [] w Q := by
  unfold c207_b3 at e
  refine hg_run 5 (pc' := 9) (ls' := [some (vr 395), some (vi l1), some (vi l2), some (vi l3), some (vi l4)]) (st' := [vI 5, vI l2, vI l1, vR 395, vI l4]) rfl ?_
  obtain ⟨v1, e1, e⟩ := ob e
  refine hg_cIp (as := [vR 395, vI l1, vI l2, vI 5]) (st' := [vI l4]) rfl (fun _ _ _ _ => rfl) rfl rfl (Nat.le_of_ble_eq_true rfl) (Nat.le_of_ble_eq_true rfl) (recvV A (a := 13) (Abs_ks A (i := 23) rfl).1) (t199 (by omega) A rl1 rl2 (rgn 5 rfl) e1) (fun r1 => ?_)
  rcases oi e with ⟨q2, e⟩ | ⟨q2, e⟩
  · refine hg_icT (tgt := 39) rfl (by decide) rl4 r1 q2 ?_
    cases e
    exact ke  rfl _ 
  · refine hg_icF (tgt := 39) rfl (by decide) rl4 r1 q2 ?_
    refine hg_run 6 (pc' := 23) (ls' := [some (vr 395), some (vi l1), some (vi l2), some (vi l3), some (vi l4)]) (st' := [vI (wadd 6 l4), vI l2, vI l1, vR 395]) rfl ?_
    obtain ⟨v3, e3, e⟩ := ob e
    refine hg_cIp (as := [vR 395, vI l1, vI l2, vI (wadd 6 l4)]) (st' := []) rfl (fun _ _ _ _ => rfl) rfl rfl (Nat.le_of_ble_eq_true rfl) (Nat.le_of_ble_eq_true rfl) (recvV A (a := 13) (Abs_ks A (i := 23) rfl).1) (t199 (by omega) A rl1 rl2 (rg_add _ _) e3) (fun r3 => ?_)
    refine hg_run 1 (pc' := 27) (ls' := [some (vr 395), some (vi l1), some (vi l2), some (vi l3), some (vi l4)]) (st' := [vI l3, vI v3]) rfl ?_
    rcases oi e with ⟨q4, e⟩ | ⟨q4, e⟩
    · refine hg_icF (tgt := 33) rfl (by decide) r3 rl3 (show ¬ ¬ (v3 = l3) from fun f => f q4) ?_
      refine hg_run 1 (pc' := 32) (ls' := [some (vr 395), some (vi l1), some (vi l2), some (vi l3), some (vi l4)]) (st' := [vI l4]) rfl ?_
      cases e
      exact hg_retI rfl (by decide) (fit_I _) (kr _ rfl rl4)
    · refine hg_icT (tgt := 33) rfl (by decide) r3 rl3 (show ¬ (v3 = l3) from q4) ?_
      refine hg_run 2 (pc' := 3) (ls' := [some (vr 395), some (vi l1), some (vi l2), some (vi l3), some (vi (wadd l4 1))]) (st' := []) rfl ?_
      cases e
      exact kb (wadd l4 1) rfl (rg_add _ _)
theorem t207_l3 {d : Nat} (hd : 1 ≤ d) {l1 : Int} {l2 : Int} {l3 : Int}  {h : hS} {w : mmW} {Q : mmO → Prop} (rl1 : rg l1) (rl2 : rg l2) (rl3 : rg l3) (n : Nat) {l4 : Int}  {r : (Unit) ⊕ (Int)} (rl4 : rg l4) (A : Abs h w) (e : lp (fun s => c207_b3 l1 l2 l3 h s) n (l4) = some r) (ke : r = .inl () → ∀ (y4 : Option hO), hG d 207 39 [some (vr 395), some (vi l1), some (vi l2), some (vi l3), y4] [] w Q) (kr : ∀ v1 : Int, r = .inr v1 → rg v1 → Q (some (.int (Int32.ofInt v1)), w)) : hG d 207 3 [some (vr 395), some (vi l1), some (vi l2), some (vi l3), some (vi l4)] [] w Q := by
  induction n generalizing l4 with
  | zero => cases e
  | succ n ih =>
    rcases lp_succ e with ⟨s1, e1, e2⟩ | e1
    · exact t207_b3 hd rl1 rl2 rl3 rl4 A e1 (fun s_0 q rl4 => by cases q; exact ih rl4 e2) (fun  q => by cases q) (fun v0 q => by cases q)
    · exact t207_b3 hd rl1 rl2 rl3 rl4 A e1 (fun s_0 q => by cases q) (fun  q => by cases q; exact ke  rfl) (fun v0 q => by cases q; exact kr _ rfl)
def c207 (l1 : Int) (l2 : Int) (l3 : Int) (h : hS) : Option (Int) :=
  (lp (fun s => c207_b3 l1 l2 l3 h s) hF0 (0)).bind (fun r5 => xs r5 (fun x5 =>
  some (-1)) (fun o5 => some o5))
theorem t207 {d : Nat} (hd : 2 ≤ d) {l1 : Int} {l2 : Int} {l3 : Int} {h : hS} {w : mmW} {o : Int} (A : Abs h w) (rl1 : rg l1) (rl2 : rg l2) (rl3 : rg l3) (e : c207 l1 l2 l3 h = some o) : hEv d 207 [vR 395, vI l1, vI l2, vI l3] w (qIp o w) := by
  obtain ⟨d, rfl⟩ : ∃ d1, d = d1 + 1 := ⟨d - 1, by omega⟩
  have hd : 1 ≤ d := by omega
  refine hEv_start (args := [vr 395, vi l1, vi l2, vi l3]) (nl := 5) rfl (Nat.le_of_ble_eq_true rfl) ?_
  show hG d 207 0 [some (vr 395), some (vi l1), some (vi l2), some (vi l3), none] [] w _
  have kr : ∀ v1 : Int, o = v1 → rg v1 → qIp o w (some (.int (Int32.ofInt v1)), w) := fun v1 q r => by cases q; exact ⟨rfl, r⟩
  unfold c207 at e
  refine hg_run 2 (pc' := 3) (ls' := [some (vr 395), some (vi l1), some (vi l2), some (vi l3), some (vi 0)]) (st' := []) rfl ?_
  obtain ⟨r5, e5, e⟩ := ob e
  refine t207_l3 hd rl1 rl2 rl3 _ (rgn 0 rfl) A e5 ?_ ?_
  · intro  qq5 z5_4
    subst qq5
    have e := xs_l e
    refine hg_run 1 (pc' := 40) (ls' := [some (vr 395), some (vi l1), some (vi l2), some (vi l3), z5_4]) (st' := [vI (-1)]) rfl ?_
    cases e
    exact hg_retI rfl (by decide) (fit_I _) (kr _ rfl (rgn (-1) rfl))
  · intro v5 qq5 r5
    subst qq5
    have e := xs_r e
    cases e
    exact kr _ rfl r5
def c208_b3 (l1 : Int) (l2 : Int) (l3 : Int) (h : hS) (l4 : Int) : Option ((Int) ⊕ ((Unit) ⊕ (Int))) :=
  (c199 l1 l2 30 h).bind (fun v1 =>
  if v1 ≤ l4 then
  some (.inr (.inl ()))
  else
  (c199 l1 l2 (wadd 31 l4) h).bind (fun v3 =>
  if v3 = l3 then
  some (.inr (.inr l4))
  else
  some (.inl ((wadd l4 1)))))
theorem t208_b3 {d : Nat} (hd : 1 ≤ d) {l1 : Int} {l2 : Int} {l3 : Int} {l4 : Int}  {h : hS} {w : mmW} {o : (Int) ⊕ ((Unit) ⊕ (Int))} {Q : mmO → Prop} (rl1 : rg l1) (rl2 : rg l2) (rl3 : rg l3) (rl4 : rg l4) (A : Abs h w) (e : c208_b3 l1 l2 l3 h l4 = some o) (kb : ∀ (s_0 : Int), o = .inl (s_0) → rg s_0 → hG d 208 3 [some (vr 395), some (vi l1), some (vi l2), some (vi l3), some (vi s_0)] [] w Q) (ke : o = .inr (.inl ()) → ∀ (y4 : Option hO), hG d 208 40 [some (vr 395), some (vi l1), some (vi l2), some (vi l3), y4] [] w Q) (kr : ∀ v1 : Int, o = .inr (.inr v1) → rg v1 → Q (some (.int (Int32.ofInt v1)), w)) : hG d 208 3 [some (vr 395), some (vi l1), some (vi l2), some (vi l3), some (vi l4)] [] w Q := by
  unfold c208_b3 at e
  refine hg_run 5 (pc' := 10) (ls' := [some (vr 395), some (vi l1), some (vi l2), some (vi l3), some (vi l4)]) (st' := [vI 30, vI l2, vI l1, vR 395, vI l4]) rfl ?_
  obtain ⟨v1, e1, e⟩ := ob e
  refine hg_cIp (as := [vR 395, vI l1, vI l2, vI 30]) (st' := [vI l4]) rfl (fun _ _ _ _ => rfl) rfl rfl (Nat.le_of_ble_eq_true rfl) (Nat.le_of_ble_eq_true rfl) (recvV A (a := 13) (Abs_ks A (i := 23) rfl).1) (t199 (by omega) A rl1 rl2 (rgn 30 rfl) e1) (fun r1 => ?_)
  rcases oi e with ⟨q2, e⟩ | ⟨q2, e⟩
  · refine hg_icT (tgt := 40) rfl (by decide) rl4 r1 q2 ?_
    cases e
    exact ke  rfl _ 
  · refine hg_icF (tgt := 40) rfl (by decide) rl4 r1 q2 ?_
    refine hg_run 6 (pc' := 24) (ls' := [some (vr 395), some (vi l1), some (vi l2), some (vi l3), some (vi l4)]) (st' := [vI (wadd 31 l4), vI l2, vI l1, vR 395]) rfl ?_
    obtain ⟨v3, e3, e⟩ := ob e
    refine hg_cIp (as := [vR 395, vI l1, vI l2, vI (wadd 31 l4)]) (st' := []) rfl (fun _ _ _ _ => rfl) rfl rfl (Nat.le_of_ble_eq_true rfl) (Nat.le_of_ble_eq_true rfl) (recvV A (a := 13) (Abs_ks A (i := 23) rfl).1) (t199 (by omega) A rl1 rl2 (rg_add _ _) e3) (fun r3 => ?_)
    refine hg_run 1 (pc' := 28) (ls' := [some (vr 395), some (vi l1), some (vi l2), some (vi l3), some (vi l4)]) (st' := [vI l3, vI v3]) rfl ?_
    rcases oi e with ⟨q4, e⟩ | ⟨q4, e⟩
    · refine hg_icF (tgt := 34) rfl (by decide) r3 rl3 (show ¬ ¬ (v3 = l3) from fun f => f q4) ?_
      refine hg_run 1 (pc' := 33) (ls' := [some (vr 395), some (vi l1), some (vi l2), some (vi l3), some (vi l4)]) (st' := [vI l4]) rfl ?_
      cases e
      exact hg_retI rfl (by decide) (fit_I _) (kr _ rfl rl4)
    · refine hg_icT (tgt := 34) rfl (by decide) r3 rl3 (show ¬ (v3 = l3) from q4) ?_
      refine hg_run 2 (pc' := 3) (ls' := [some (vr 395), some (vi l1), some (vi l2), some (vi l3), some (vi (wadd l4 1))]) (st' := []) rfl ?_
      cases e
      exact kb (wadd l4 1) rfl (rg_add _ _)
theorem t208_l3 {d : Nat} (hd : 1 ≤ d) {l1 : Int} {l2 : Int} {l3 : Int}  {h : hS} {w : mmW} {Q : mmO → Prop} (rl1 : rg l1) (rl2 : rg l2) (rl3 : rg l3) (n : Nat) {l4 : Int}  {r : (Unit) ⊕ (Int)} (rl4 : rg l4) (A : Abs h w) (e : lp (fun s => c208_b3 l1 l2 l3 h s) n (l4) = some r) (ke : r = .inl () → ∀ (y4 : Option hO), hG d 208 40 [some (vr 395), some (vi l1), some (vi l2), some (vi l3), y4] [] w Q) (kr : ∀ v1 : Int, r = .inr v1 → rg v1 → Q (some (.int (Int32.ofInt v1)), w)) : hG d 208 3 [some (vr 395), some (vi l1), some (vi l2), some (vi l3), some (vi l4)] [] w Q := by
  induction n generalizing l4 with
  | zero => cases e
  | succ n ih =>
    rcases lp_succ e with ⟨s1, e1, e2⟩ | e1
    · exact t208_b3 hd rl1 rl2 rl3 rl4 A e1 (fun s_0 q rl4 => by cases q; exact ih rl4 e2) (fun  q => by cases q) (fun v0 q => by cases q)
    · exact t208_b3 hd rl1 rl2 rl3 rl4 A e1 (fun s_0 q => by cases q) (fun  q => by cases q; exact ke  rfl) (fun v0 q => by cases q; exact kr _ rfl)
def c208 (l1 : Int) (l2 : Int) (l3 : Int) (h : hS) : Option (Int) :=
  (lp (fun s => c208_b3 l1 l2 l3 h s) hF0 (0)).bind (fun r5 => xs r5 (fun x5 =>
  some (-1)) (fun o5 => some o5))
theorem t208 {d : Nat} (hd : 2 ≤ d) {l1 : Int} {l2 : Int} {l3 : Int} {h : hS} {w : mmW} {o : Int} (A : Abs h w) (rl1 : rg l1) (rl2 : rg l2) (rl3 : rg l3) (e : c208 l1 l2 l3 h = some o) : hEv d 208 [vR 395, vI l1, vI l2, vI l3] w (qIp o w) := by
  obtain ⟨d, rfl⟩ : ∃ d1, d = d1 + 1 := ⟨d - 1, by omega⟩
  have hd : 1 ≤ d := by omega
  refine hEv_start (args := [vr 395, vi l1, vi l2, vi l3]) (nl := 5) rfl (Nat.le_of_ble_eq_true rfl) ?_
  show hG d 208 0 [some (vr 395), some (vi l1), some (vi l2), some (vi l3), none] [] w _
  have kr : ∀ v1 : Int, o = v1 → rg v1 → qIp o w (some (.int (Int32.ofInt v1)), w) := fun v1 q r => by cases q; exact ⟨rfl, r⟩
  unfold c208 at e
  refine hg_run 2 (pc' := 3) (ls' := [some (vr 395), some (vi l1), some (vi l2), some (vi l3), some (vi 0)]) (st' := []) rfl ?_
  obtain ⟨r5, e5, e⟩ := ob e
  refine t208_l3 hd rl1 rl2 rl3 _ (rgn 0 rfl) A e5 ?_ ?_
  · intro  qq5 z5_4
    subst qq5
    have e := xs_l e
    refine hg_run 1 (pc' := 41) (ls' := [some (vr 395), some (vi l1), some (vi l2), some (vi l3), z5_4]) (st' := [vI (-1)]) rfl ?_
    cases e
    exact hg_retI rfl (by decide) (fit_I _) (kr _ rfl (rgn (-1) rfl))
  · intro v5 qq5 r5
    subst qq5
    have e := xs_r e
    cases e
    exact kr _ rfl r5
def c206_j22  : Option (Int) :=
  some 1
theorem t206_j22 {d : Nat} (hd : 2 ≤ d)  {z1 : Option hO} {z2 : Option hO} {z3 : Option hO} {h : hS} {w : mmW} {o : Int} {Q : mmO → Prop}  (A : Abs h w) (e : c206_j22  = some o) (kr : ∀ v1 : Int, o = v1 → rg v1 → Q (some (.int (Int32.ofInt v1)), w)) : hG d 206 22 [some (vr 395), z1, z2, z3] [] w Q := by
  unfold c206_j22 at e
  refine hg_run 2 (pc' := 27) (ls' := [some (vr 395), z1, z2, z3]) (st' := [vI 1]) rfl ?_
  cases e
  exact hg_retI rfl (by decide) (fit_B (.inr rfl)) (kr _ rfl (rgn 1 rfl))
def c206 (l1 : Int) (l2 : Int) (l3 : Int) (h : hS) : Option (Int) :=
  (c207 l1 l2 l3 h).bind (fun v1 =>
  if v1 = (-1) then
  (c208 l1 l2 l3 h).bind (fun v3 =>
  if v3 = (-1) then
  some 0
  else
  c206_j22 )
  else
  c206_j22 )
theorem t206 {d : Nat} (hd : 3 ≤ d) {l1 : Int} {l2 : Int} {l3 : Int} {h : hS} {w : mmW} {o : Int} (A : Abs h w) (rl1 : rg l1) (rl2 : rg l2) (rl3 : rg l3) (e : c206 l1 l2 l3 h = some o) : hEv d 206 [vR 395, vI l1, vI l2, vI l3] w (qIp o w) := by
  obtain ⟨d, rfl⟩ : ∃ d1, d = d1 + 1 := ⟨d - 1, by omega⟩
  have hd : 2 ≤ d := by omega
  refine hEv_start (args := [vr 395, vi l1, vi l2, vi l3]) (nl := 4) rfl (Nat.le_of_ble_eq_true rfl) ?_
  show hG d 206 0 [some (vr 395), some (vi l1), some (vi l2), some (vi l3)] [] w _
  have kr : ∀ v1 : Int, o = v1 → rg v1 → qIp o w (some (.int (Int32.ofInt v1)), w) := fun v1 q r => by cases q; exact ⟨rfl, r⟩
  unfold c206 at e
  refine hg_run 4 (pc' := 4) (ls' := [some (vr 395), some (vi l1), some (vi l2), some (vi l3)]) (st' := [vI l3, vI l2, vI l1, vR 395]) rfl ?_
  obtain ⟨v1, e1, e⟩ := ob e
  refine hg_cIp (as := [vR 395, vI l1, vI l2, vI l3]) (st' := []) rfl (fun _ _ _ _ => rfl) rfl rfl (Nat.le_of_ble_eq_true rfl) (Nat.le_of_ble_eq_true rfl) (recvV A (a := 13) (Abs_ks A (i := 23) rfl).1) (t207 (by omega) A rl1 rl2 rl3 e1) (fun r1 => ?_)
  refine hg_run 1 (pc' := 8) (ls' := [some (vr 395), some (vi l1), some (vi l2), some (vi l3)]) (st' := [vI (-1), vI v1]) rfl ?_
  rcases oi e with ⟨q2, e⟩ | ⟨q2, e⟩
  · refine hg_icF (tgt := 22) rfl (by decide) r1 (rgn (-1) rfl) (show ¬ ¬ (v1 = (-1)) from fun f => f q2) ?_
    refine hg_run 4 (pc' := 15) (ls' := [some (vr 395), some (vi l1), some (vi l2), some (vi l3)]) (st' := [vI l3, vI l2, vI l1, vR 395]) rfl ?_
    obtain ⟨v3, e3, e⟩ := ob e
    refine hg_cIp (as := [vR 395, vI l1, vI l2, vI l3]) (st' := []) rfl (fun _ _ _ _ => rfl) rfl rfl (Nat.le_of_ble_eq_true rfl) (Nat.le_of_ble_eq_true rfl) (recvV A (a := 13) (Abs_ks A (i := 23) rfl).1) (t208 (by omega) A rl1 rl2 rl3 e3) (fun r3 => ?_)
    refine hg_run 1 (pc' := 19) (ls' := [some (vr 395), some (vi l1), some (vi l2), some (vi l3)]) (st' := [vI (-1), vI v3]) rfl ?_
    rcases oi e with ⟨q4, e⟩ | ⟨q4, e⟩
    · refine hg_icT (tgt := 26) rfl (by decide) r3 (rgn (-1) rfl) q4 ?_
      refine hg_run 1 (pc' := 27) (ls' := [some (vr 395), some (vi l1), some (vi l2), some (vi l3)]) (st' := [vI 0]) rfl ?_
      cases e
      exact hg_retI rfl (by decide) (fit_B (.inl rfl)) (kr _ rfl (rgn 0 rfl))
    · refine hg_icF (tgt := 26) rfl (by decide) r3 (rgn (-1) rfl) q4 ?_
      exact t206_j22 hd  A e kr
  · refine hg_icT (tgt := 22) rfl (by decide) r1 (rgn (-1) rfl) (show ¬ (v1 = (-1)) from q2) ?_
    exact t206_j22 hd  A e kr
def c209_b9 (l1 : Int) (l3 : Int) (h : hS) (l4 : Int) : Option ((Int) ⊕ ((Unit) ⊕ (Int))) :=
  if l4 = (-1) then
  some (.inr (.inl ()))
  else
  (c206 l1 l4 l3 h).bind (fun v3 =>
  if v3 = 0 then
  (c199 l1 l4 1 h).bind (fun v5 =>
  some (.inl (v5)))
  else
  some (.inr (.inr 1)))
theorem t209_b9 {d : Nat} (hd : 3 ≤ d) {l1 : Int} {l3 : Int} {l4 : Int} {z2 : Option hO} {h : hS} {w : mmW} {o : (Int) ⊕ ((Unit) ⊕ (Int))} {Q : mmO → Prop} (rl1 : rg l1) (rl3 : rg l3) (rl4 : rg l4) (A : Abs h w) (e : c209_b9 l1 l3 h l4 = some o) (kb : ∀ (s_0 : Int), o = .inl (s_0) → rg s_0 → hG d 209 9 [some (vr 395), some (vi l1), z2, some (vi l3), some (vi s_0)] [] w Q) (ke : o = .inr (.inl ()) → ∀ (y4 : Option hO), hG d 209 41 [some (vr 395), some (vi l1), z2, some (vi l3), y4] [] w Q) (kr : ∀ v1 : Int, o = .inr (.inr v1) → rg v1 → Q (some (.int (Int32.ofInt v1)), w)) : hG d 209 9 [some (vr 395), some (vi l1), z2, some (vi l3), some (vi l4)] [] w Q := by
  unfold c209_b9 at e
  refine hg_run 2 (pc' := 12) (ls' := [some (vr 395), some (vi l1), z2, some (vi l3), some (vi l4)]) (st' := [vI (-1), vI l4]) rfl ?_
  rcases oi e with ⟨q2, e⟩ | ⟨q2, e⟩
  · refine hg_icT (tgt := 41) rfl (by decide) rl4 (rgn (-1) rfl) q2 ?_
    cases e
    exact ke  rfl _ 
  · refine hg_icF (tgt := 41) rfl (by decide) rl4 (rgn (-1) rfl) q2 ?_
    refine hg_run 4 (pc' := 20) (ls' := [some (vr 395), some (vi l1), z2, some (vi l3), some (vi l4)]) (st' := [vI l3, vI l4, vI l1, vR 395]) rfl ?_
    obtain ⟨v3, e3, e⟩ := ob e
    refine hg_cIp (as := [vR 395, vI l1, vI l4, vI l3]) (st' := []) rfl (fun _ _ _ _ => rfl) rfl rfl (Nat.le_of_ble_eq_true rfl) (Nat.le_of_ble_eq_true rfl) (recvV A (a := 13) (Abs_ks A (i := 23) rfl).1) (t206 (by omega) A rl1 rl4 rl3 e3) (fun r3 => ?_)
    rcases oi e with ⟨q4, e⟩ | ⟨q4, e⟩
    · refine hg_ifT (tgt := 28) rfl (by decide) r3 q4 ?_
      refine hg_run 4 (pc' := 33) (ls' := [some (vr 395), some (vi l1), z2, some (vi l3), some (vi l4)]) (st' := [vI 1, vI l4, vI l1, vR 395]) rfl ?_
      obtain ⟨v5, e5, e⟩ := ob e
      refine hg_cIp (as := [vR 395, vI l1, vI l4, vI 1]) (st' := []) rfl (fun _ _ _ _ => rfl) rfl rfl (Nat.le_of_ble_eq_true rfl) (Nat.le_of_ble_eq_true rfl) (recvV A (a := 13) (Abs_ks A (i := 23) rfl).1) (t199 (by omega) A rl1 rl4 (rgn 1 rfl) e5) (fun r5 => ?_)
      refine hg_run 2 (pc' := 9) (ls' := [some (vr 395), some (vi l1), z2, some (vi l3), some (vi v5)]) (st' := []) rfl ?_
      cases e
      exact kb v5 rfl r5
    · refine hg_ifF (tgt := 28) rfl (by decide) r3 q4 ?_
      refine hg_run 1 (pc' := 27) (ls' := [some (vr 395), some (vi l1), z2, some (vi l3), some (vi l4)]) (st' := [vI 1]) rfl ?_
      cases e
      exact hg_retI rfl (by decide) (fit_B (.inr rfl)) (kr _ rfl (rgn 1 rfl))
theorem t209_l9 {d : Nat} (hd : 3 ≤ d) {l1 : Int} {l3 : Int} {z2 : Option hO} {h : hS} {w : mmW} {Q : mmO → Prop} (rl1 : rg l1) (rl3 : rg l3) (n : Nat) {l4 : Int}  {r : (Unit) ⊕ (Int)} (rl4 : rg l4) (A : Abs h w) (e : lp (fun s => c209_b9 l1 l3 h s) n (l4) = some r) (ke : r = .inl () → ∀ (y4 : Option hO), hG d 209 41 [some (vr 395), some (vi l1), z2, some (vi l3), y4] [] w Q) (kr : ∀ v1 : Int, r = .inr v1 → rg v1 → Q (some (.int (Int32.ofInt v1)), w)) : hG d 209 9 [some (vr 395), some (vi l1), z2, some (vi l3), some (vi l4)] [] w Q := by
  induction n generalizing l4 with
  | zero => cases e
  | succ n ih =>
    rcases lp_succ e with ⟨s1, e1, e2⟩ | e1
    · exact t209_b9 hd rl1 rl3 rl4 A e1 (fun s_0 q rl4 => by cases q; exact ih rl4 e2) (fun  q => by cases q) (fun v0 q => by cases q)
    · exact t209_b9 hd rl1 rl3 rl4 A e1 (fun s_0 q => by cases q) (fun  q => by cases q; exact ke  rfl) (fun v0 q => by cases q; exact kr _ rfl)
def c209 (l1 : Int) (l2 : Int) (l3 : Int) (h : hS) : Option (Int) :=
  (c199 l1 l2 1 h).bind (fun v1 =>
  (lp (fun s => c209_b9 l1 l3 h s) hF0 (v1)).bind (fun r6 => xs r6 (fun x6 =>
  some 0) (fun o6 => some o6)))
theorem t209 {d : Nat} (hd : 4 ≤ d) {l1 : Int} {l2 : Int} {l3 : Int} {h : hS} {w : mmW} {o : Int} (A : Abs h w) (rl1 : rg l1) (rl2 : rg l2) (rl3 : rg l3) (e : c209 l1 l2 l3 h = some o) : hEv d 209 [vR 395, vI l1, vI l2, vI l3] w (qIp o w) := by
  obtain ⟨d, rfl⟩ : ∃ d1, d = d1 + 1 := ⟨d - 1, by omega⟩
  have hd : 3 ≤ d := by omega
  refine hEv_start (args := [vr 395, vi l1, vi l2, vi l3]) (nl := 5) rfl (Nat.le_of_ble_eq_true rfl) ?_
  show hG d 209 0 [some (vr 395), some (vi l1), some (vi l2), some (vi l3), none] [] w _
  have kr : ∀ v1 : Int, o = v1 → rg v1 → qIp o w (some (.int (Int32.ofInt v1)), w) := fun v1 q r => by cases q; exact ⟨rfl, r⟩
  unfold c209 at e
  refine hg_run 4 (pc' := 4) (ls' := [some (vr 395), some (vi l1), some (vi l2), some (vi l3), none]) (st' := [vI 1, vI l2, vI l1, vR 395]) rfl ?_
  obtain ⟨v1, e1, e⟩ := ob e
  refine hg_cIp (as := [vR 395, vI l1, vI l2, vI 1]) (st' := []) rfl (fun _ _ _ _ => rfl) rfl rfl (Nat.le_of_ble_eq_true rfl) (Nat.le_of_ble_eq_true rfl) (recvV A (a := 13) (Abs_ks A (i := 23) rfl).1) (t199 (by omega) A rl1 rl2 (rgn 1 rfl) e1) (fun r1 => ?_)
  refine hg_run 1 (pc' := 9) (ls' := [some (vr 395), some (vi l1), some (vi l2), some (vi l3), some (vi v1)]) (st' := []) rfl ?_
  obtain ⟨r6, e6, e⟩ := ob e
  refine t209_l9 hd rl1 rl3 _ r1 A e6 ?_ ?_
  · intro  qq6 z6_4
    subst qq6
    have e := xs_l e
    refine hg_run 1 (pc' := 42) (ls' := [some (vr 395), some (vi l1), some (vi l2), some (vi l3), z6_4]) (st' := [vI 0]) rfl ?_
    cases e
    exact hg_retI rfl (by decide) (fit_B (.inl rfl)) (kr _ rfl (rgn 0 rfl))
  · intro v6 qq6 r6
    subst qq6
    have e := xs_r e
    cases e
    exact kr _ rfl r6
def c213 (h : hS) : Option (Int × hS) :=
  if (hI h 395 18) = 12 then
  (c194 3 h).bind (fun v4 =>
  (kB v4.1).bind (fun u5 =>
  some (v4.1, v4.2)))
  else
  (some (sI h 395 18 (wadd (hI h 395 18) 1))).bind (fun h2 =>
  (c188  h2).bind (fun h3 =>
  some (1, h3)))
theorem t213 {d : Nat} (hd : 4 ≤ d)  {h : hS} {w : mmW} {o : Int × hS} (A : Abs h w)  (e : c213 h = some o) : hEv d 213 [vR 395] w (qI o) := by
  obtain ⟨d, rfl⟩ : ∃ d1, d = d1 + 1 := ⟨d - 1, by omega⟩
  have hd : 3 ≤ d := by omega
  refine hEv_start (args := [vr 395]) (nl := 1) rfl (Nat.le_of_ble_eq_true rfl) ?_
  show hG d 213 0 [some (vr 395)] [] w _
  have kr : ∀ (v1 : Int) (h1 : hS), o = (v1, h1) → ∀ w', rg v1 → Abs h1 w' → qI o (some (.int (Int32.ofInt v1)), w') := fun v1 h1 q w' r A' => by cases q; exact ⟨rfl, r, A'⟩
  unfold c213 at e
  refine hg_run 1 (pc' := 1) (ls' := [some (vr 395)]) (st' := [vR 395]) rfl ?_
  refine gs_395_18 rfl A ?_
  refine hg_run 1 (pc' := 6) (ls' := [some (vr 395)]) (st' := [vI 12, vI (hI h 395 18)]) rfl ?_
  rcases oi e with ⟨q1, e⟩ | ⟨q1, e⟩
  · refine hg_icF (tgt := 15) rfl (by decide) (Abs_rg A 395 18) (rgn 12 rfl) (show ¬ ¬ ((hI h 395 18) = 12) from fun f => f q1) ?_
    refine hg_run 2 (pc' := 11) (ls' := [some (vr 395)]) (st' := [vI 3, vR 395]) rfl ?_
    obtain ⟨v4, e4, e⟩ := ob e
    refine hg_cI (as := [vR 395, vI 3]) (st' := []) rfl (fun _ _ _ _ => rfl) rfl rfl (Nat.le_of_ble_eq_true rfl) (Nat.le_of_ble_eq_true rfl) (recvV A (a := 13) (Abs_ks A (i := 23) rfl).1) (t194 (by omega) A (rgn 3 rfl) e4) (fun w4 r4 A4 => ?_)
    obtain ⟨u5, e5, e⟩ := ob e
    cases e
    exact hg_retI rfl (by decide) (fit_B (kB_e e5)) (kr _ _ rfl _ r4 A4)
  · refine hg_icT (tgt := 15) rfl (by decide) (Abs_rg A 395 18) (rgn 12 rfl) (show ¬ ((hI h 395 18) = 12) from q1) ?_
    refine hg_run 2 (pc' := 17) (ls' := [some (vr 395)]) (st' := [vR 395, vR 395]) rfl ?_
    refine gs_395_18 rfl A ?_
    refine hg_run 2 (pc' := 22) (ls' := [some (vr 395)]) (st' := [vI (wadd (hI h 395 18) 1), vR 395]) rfl ?_
    obtain ⟨h2, e2, e⟩ := ob e
    refine ps_395_18 rfl A (rg_add _ _) e2 (fun w2 A2 => ?_)
    refine hg_run 1 (pc' := 26) (ls' := [some (vr 395)]) (st' := [vR 395]) rfl ?_
    obtain ⟨h3, e3, e⟩ := ob e
    refine hg_cV (as := [vR 395]) (st' := []) rfl (fun _ _ _ _ => rfl) rfl rfl (Nat.le_of_ble_eq_true rfl) (Nat.le_of_ble_eq_true rfl) (recvV A2 (a := 13) (Abs_ks A2 (i := 23) rfl).1) (t188 (by omega) A2  e3) (fun w3 A3 => ?_)
    refine hg_run 1 (pc' := 30) (ls' := [some (vr 395)]) (st' := [vI 1]) rfl ?_
    cases e
    exact hg_retI rfl (by decide) (fit_B (.inr rfl)) (kr _ _ rfl _ (rgn 1 rfl) A3)
def c218 (l1 : Int) (l2 : Int) (l3 : Int) (l4 : Int) (h : hS) : Option (Int × hS) :=
  (some (sI h 395 16 (wadd (hI h 395 16) 1))).bind (fun h1 =>
  (wIs h1 399 48000 (wmul 5 (wadd 8400 (hI h 395 16))) l1).bind (fun h2 =>
  (wIs h2 399 48000 (wadd (wmul 5 (wadd 8400 (hI h 395 16))) 1) l2).bind (fun h3 =>
  (wIs h3 399 48000 (wadd (wmul 5 (wadd 8400 (hI h 395 16))) 2) l3).bind (fun h4 =>
  (wIs h4 399 48000 (wadd (wmul 5 (wadd 8400 (hI h 395 16))) 3) l4).bind (fun h5 =>
  (wIs h5 399 48000 (wadd (wmul 5 (wadd 8400 (hI h 395 16))) 4) (-1)).bind (fun h6 =>
  some ((hI h 395 16), h6)))))))
theorem t218 {d : Nat} (hd : 1 ≤ d) {l1 : Int} {l2 : Int} {l3 : Int} {l4 : Int} {h : hS} {w : mmW} {o : Int × hS} (A : Abs h w) (rl1 : rg l1) (rl2 : rg l2) (rl3 : rg l3) (rl4 : rg l4) (e : c218 l1 l2 l3 l4 h = some o) : hEv d 218 [vR 395, vI l1, vI l2, vI l3, vI l4] w (qI o) := by
  obtain ⟨d, rfl⟩ : ∃ d1, d = d1 + 1 := ⟨d - 1, by omega⟩
  have hd : 0 ≤ d := by omega
  refine hEv_start (args := [vr 395, vi l1, vi l2, vi l3, vi l4]) (nl := 7) rfl (Nat.le_of_ble_eq_true rfl) ?_
  show hG d 218 0 [some (vr 395), some (vi l1), some (vi l2), some (vi l3), some (vi l4), none, none] [] w _
  have kr : ∀ (v1 : Int) (h1 : hS), o = (v1, h1) → ∀ w', rg v1 → Abs h1 w' → qI o (some (.int (Int32.ofInt v1)), w') := fun v1 h1 q w' r A' => by cases q; exact ⟨rfl, r, A'⟩
  unfold c218 at e
  refine hg_run 1 (pc' := 1) (ls' := [some (vr 395), some (vi l1), some (vi l2), some (vi l3), some (vi l4), none, none]) (st' := [vR 395]) rfl ?_
  refine gs_395_16 rfl A ?_
  refine hg_run 3 (pc' := 8) (ls' := [some (vr 395), some (vi l1), some (vi l2), some (vi l3), some (vi l4), some (vi (hI h 395 16)), none]) (st' := [vR 395, vR 395]) rfl ?_
  refine gs_395_16 rfl A ?_
  refine hg_run 2 (pc' := 13) (ls' := [some (vr 395), some (vi l1), some (vi l2), some (vi l3), some (vi l4), some (vi (hI h 395 16)), none]) (st' := [vI (wadd (hI h 395 16) 1), vR 395]) rfl ?_
  obtain ⟨h1, e1, e⟩ := ob e
  refine ps_395_16 rfl A (rg_add _ _) e1 (fun w1 A1 => ?_)
  refine hg_run 7 (pc' := 27) (ls' := [some (vr 395), some (vi l1), some (vi l2), some (vi l3), some (vi l4), some (vi (hI h 395 16)), some (vi (wmul 5 (wadd 8400 (hI h 395 16))))]) (st' := [vR 395]) rfl ?_
  refine gs_395_15 rfl A1 ?_
  refine hg_run 2 (pc' := 33) (ls' := [some (vr 395), some (vi l1), some (vi l2), some (vi l3), some (vi l4), some (vi (hI h 395 16)), some (vi (wmul 5 (wadd 8400 (hI h 395 16))))]) (st' := [vI l1, vI (wmul 5 (wadd 8400 (hI h 395 16))), vR 399]) rfl ?_
  obtain ⟨h2, e2, e⟩ := ob e
  refine hg_wIs rfl A1 (Abs_ks A1 (i := 27) rfl) (by decide) rl1 e2 (fun w2 A2 => ?_)
  refine hg_run 1 (pc' := 35) (ls' := [some (vr 395), some (vi l1), some (vi l2), some (vi l3), some (vi l4), some (vi (hI h 395 16)), some (vi (wmul 5 (wadd 8400 (hI h 395 16))))]) (st' := [vR 395]) rfl ?_
  refine gs_395_15 rfl A2 ?_
  refine hg_run 4 (pc' := 43) (ls' := [some (vr 395), some (vi l1), some (vi l2), some (vi l3), some (vi l4), some (vi (hI h 395 16)), some (vi (wmul 5 (wadd 8400 (hI h 395 16))))]) (st' := [vI l2, vI (wadd (wmul 5 (wadd 8400 (hI h 395 16))) 1), vR 399]) rfl ?_
  obtain ⟨h3, e3, e⟩ := ob e
  refine hg_wIs rfl A2 (Abs_ks A2 (i := 27) rfl) (by decide) rl2 e3 (fun w3 A3 => ?_)
  refine hg_run 1 (pc' := 45) (ls' := [some (vr 395), some (vi l1), some (vi l2), some (vi l3), some (vi l4), some (vi (hI h 395 16)), some (vi (wmul 5 (wadd 8400 (hI h 395 16))))]) (st' := [vR 395]) rfl ?_
  refine gs_395_15 rfl A3 ?_
  refine hg_run 4 (pc' := 53) (ls' := [some (vr 395), some (vi l1), some (vi l2), some (vi l3), some (vi l4), some (vi (hI h 395 16)), some (vi (wmul 5 (wadd 8400 (hI h 395 16))))]) (st' := [vI l3, vI (wadd (wmul 5 (wadd 8400 (hI h 395 16))) 2), vR 399]) rfl ?_
  obtain ⟨h4, e4, e⟩ := ob e
  refine hg_wIs rfl A3 (Abs_ks A3 (i := 27) rfl) (by decide) rl3 e4 (fun w4 A4 => ?_)
  refine hg_run 1 (pc' := 55) (ls' := [some (vr 395), some (vi l1), some (vi l2), some (vi l3), some (vi l4), some (vi (hI h 395 16)), some (vi (wmul 5 (wadd 8400 (hI h 395 16))))]) (st' := [vR 395]) rfl ?_
  refine gs_395_15 rfl A4 ?_
  refine hg_run 4 (pc' := 64) (ls' := [some (vr 395), some (vi l1), some (vi l2), some (vi l3), some (vi l4), some (vi (hI h 395 16)), some (vi (wmul 5 (wadd 8400 (hI h 395 16))))]) (st' := [vI l4, vI (wadd (wmul 5 (wadd 8400 (hI h 395 16))) 3), vR 399]) rfl ?_
  obtain ⟨h5, e5, e⟩ := ob e
  refine hg_wIs rfl A4 (Abs_ks A4 (i := 27) rfl) (by decide) rl4 e5 (fun w5 A5 => ?_)
  refine hg_run 1 (pc' := 66) (ls' := [some (vr 395), some (vi l1), some (vi l2), some (vi l3), some (vi l4), some (vi (hI h 395 16)), some (vi (wmul 5 (wadd 8400 (hI h 395 16))))]) (st' := [vR 395]) rfl ?_
  refine gs_395_15 rfl A5 ?_
  refine hg_run 4 (pc' := 74) (ls' := [some (vr 395), some (vi l1), some (vi l2), some (vi l3), some (vi l4), some (vi (hI h 395 16)), some (vi (wmul 5 (wadd 8400 (hI h 395 16))))]) (st' := [vI (-1), vI (wadd (wmul 5 (wadd 8400 (hI h 395 16))) 4), vR 399]) rfl ?_
  obtain ⟨h6, e6, e⟩ := ob e
  refine hg_wIs rfl A5 (Abs_ks A5 (i := 27) rfl) (by decide) (rgn (-1) rfl) e6 (fun w6 A6 => ?_)
  refine hg_run 1 (pc' := 77) (ls' := [some (vr 395), some (vi l1), some (vi l2), some (vi l3), some (vi l4), some (vi (hI h 395 16)), some (vi (wmul 5 (wadd 8400 (hI h 395 16))))]) (st' := [vI (hI h 395 16)]) rfl ?_
  cases e
  exact hg_retI rfl (by decide) (fit_I _) (kr _ _ rfl _ (Abs_rg A 395 16) A6)
def c214_j47 (call : Nat → List Int → hS → Option (Int × hS)) (s0 : Int) (h : hS) : Option (Int × hS) :=
  (c188  h).bind (fun h6 =>
  (call 215 [] h6).bind (fun v7 =>
  if v7.1 = 0 then
  some (0, v7.2)
  else
  (c218 s0 (hI h 395 19) (hI v7.2 395 19) 0 v7.2).bind (fun v9 =>
  (some (sI v9.2 395 19 v9.1)).bind (fun h10 =>
  some (1, h10)))))
theorem t214_j47 {d : Nat} {call : Nat → List Int → hS → Option (Int × hS)} (hcall : ∀ (k : Nat) (as : List Int) (h : hS) (w : mmW) (o : Int × hS), Abs h w → (∀ a ∈ as, rg a) → call k as h = some o → hEv d k (vR 395 :: as.map vI) w (qI o)) (hd : 4 ≤ d) {s0 : Int} {z1 : Option hO} {z2 : Option hO} {h : hS} {w : mmW} {o : Int × hS} {Q : mmO → Prop} (rs0 : rg s0) (A : Abs h w) (e : c214_j47 call s0 h = some o) (kr : ∀ (v1 : Int) (h1 : hS), o = (v1, h1) → ∀ w', rg v1 → Abs h1 w' → Q (some (.int (Int32.ofInt v1)), w')) : hG d 214 47 [some (vr 395), z1, z2] [vI s0] w Q := by
  unfold c214_j47 at e
  refine hg_run 2 (pc' := 49) (ls' := [some (vr 395), some (vi s0), z2]) (st' := [vR 395]) rfl ?_
  refine gs_395_19 rfl A ?_
  refine hg_run 2 (pc' := 54) (ls' := [some (vr 395), some (vi s0), some (vi (hI h 395 19))]) (st' := [vR 395]) rfl ?_
  obtain ⟨h6, e6, e⟩ := ob e
  refine hg_cV (as := [vR 395]) (st' := []) rfl (fun _ _ _ _ => rfl) rfl rfl (Nat.le_of_ble_eq_true rfl) (Nat.le_of_ble_eq_true rfl) (recvV A (a := 13) (Abs_ks A (i := 23) rfl).1) (t188 (by omega) A  e6) (fun w6 A6 => ?_)
  refine hg_run 1 (pc' := 58) (ls' := [some (vr 395), some (vi s0), some (vi (hI h 395 19))]) (st' := [vR 395]) rfl ?_
  obtain ⟨v7, e7, e⟩ := ob e
  refine hg_cI (as := [vR 395]) (st' := []) rfl (fun _ _ _ _ => rfl) rfl rfl (Nat.le_of_ble_eq_true rfl) (Nat.le_of_ble_eq_true rfl) (recvV A6 (a := 13) (Abs_ks A6 (i := 23) rfl).1) (hcall 215 _ _ _ _ A6 rgl0 e7) (fun w7 r7 A7 => ?_)
  rcases oi e with ⟨q8, e⟩ | ⟨q8, e⟩
  · refine hg_ifF (tgt := 66) rfl (by decide) r7 (show ¬ ¬ (v7.1 = 0) from fun f => f q8) ?_
    refine hg_run 1 (pc' := 65) (ls' := [some (vr 395), some (vi s0), some (vi (hI h 395 19))]) (st' := [vI 0]) rfl ?_
    cases e
    exact hg_retI rfl (by decide) (fit_B (.inl rfl)) (kr _ _ rfl _ (rgn 0 rfl) A7)
  · refine hg_ifT (tgt := 66) rfl (by decide) r7 (show ¬ (v7.1 = 0) from q8) ?_
    refine hg_run 5 (pc' := 71) (ls' := [some (vr 395), some (vi s0), some (vi (hI h 395 19))]) (st' := [vR 395, vI (hI h 395 19), vI s0, vR 395, vR 395]) rfl ?_
    refine gs_395_19 rfl A7 ?_
    refine hg_run 1 (pc' := 75) (ls' := [some (vr 395), some (vi s0), some (vi (hI h 395 19))]) (st' := [vI 0, vI (hI v7.2 395 19), vI (hI h 395 19), vI s0, vR 395, vR 395]) rfl ?_
    obtain ⟨v9, e9, e⟩ := ob e
    refine hg_cI (as := [vR 395, vI s0, vI (hI h 395 19), vI (hI v7.2 395 19), vI 0]) (st' := [vR 395]) rfl (fun _ _ _ _ => rfl) rfl rfl (Nat.le_of_ble_eq_true rfl) (Nat.le_of_ble_eq_true rfl) (recvV A7 (a := 13) (Abs_ks A7 (i := 23) rfl).1) (t218 (by omega) A7 rs0 (Abs_rg A 395 19) (Abs_rg A7 395 19) (rgn 0 rfl) e9) (fun w9 r9 A9 => ?_)
    obtain ⟨h10, e10, e⟩ := ob e
    refine ps_395_19 rfl A9 r9 e10 (fun w10 A10 => ?_)
    refine hg_run 1 (pc' := 82) (ls' := [some (vr 395), some (vi s0), some (vi (hI h 395 19))]) (st' := [vI 1]) rfl ?_
    cases e
    exact hg_retI rfl (by decide) (fit_B (.inr rfl)) (kr _ _ rfl _ (rgn 1 rfl) A10)
def c214_j30 (call : Nat → List Int → hS → Option (Int × hS)) (h : hS) : Option (Int × hS) :=
  if (hI h 395 3) = 201 then
  c214_j47 call 15 h
  else
  c214_j47 call 14 h
theorem t214_j30 {d : Nat} {call : Nat → List Int → hS → Option (Int × hS)} (hcall : ∀ (k : Nat) (as : List Int) (h : hS) (w : mmW) (o : Int × hS), Abs h w → (∀ a ∈ as, rg a) → call k as h = some o → hEv d k (vR 395 :: as.map vI) w (qI o)) (hd : 4 ≤ d)  {z1 : Option hO} {z2 : Option hO} {h : hS} {w : mmW} {o : Int × hS} {Q : mmO → Prop}  (A : Abs h w) (e : c214_j30 call h = some o) (kr : ∀ (v1 : Int) (h1 : hS), o = (v1, h1) → ∀ w', rg v1 → Abs h1 w' → Q (some (.int (Int32.ofInt v1)), w')) : hG d 214 30 [some (vr 395), z1, z2] [] w Q := by
  unfold c214_j30 at e
  refine hg_run 1 (pc' := 31) (ls' := [some (vr 395), z1, z2]) (st' := [vR 395]) rfl ?_
  refine gs_395_3 rfl A ?_
  refine hg_run 1 (pc' := 37) (ls' := [some (vr 395), z1, z2]) (st' := [vI 201, vI (hI h 395 3)]) rfl ?_
  rcases oi e with ⟨q5, e⟩ | ⟨q5, e⟩
  · refine hg_icF (tgt := 45) rfl (by decide) (Abs_rg A 395 3) (rgn 201 rfl) (show ¬ ¬ ((hI h 395 3) = 201) from fun f => f q5) ?_
    refine hg_run 2 (pc' := 47) (ls' := [some (vr 395), z1, z2]) (st' := [vI 15]) rfl ?_
    exact t214_j47 hcall hd (rgn 15 rfl) A e kr
  · refine hg_icT (tgt := 45) rfl (by decide) (Abs_rg A 395 3) (rgn 201 rfl) (show ¬ ((hI h 395 3) = 201) from q5) ?_
    refine hg_run 1 (pc' := 47) (ls' := [some (vr 395), z1, z2]) (st' := [vI 14]) rfl ?_
    exact t214_j47 hcall hd (rgn 14 rfl) A e kr
def c214 (call : Nat → List Int → hS → Option (Int × hS)) (h : hS) : Option (Int × hS) :=
  (call 215 [] h).bind (fun v1 =>
  if v1.1 = 0 then
  some (0, v1.2)
  else
  (c203 60 v1.2).bind (fun v3 =>
  if v3 = 0 then
  if (hI v1.2 395 3) = 201 then
  c214_j30 call v1.2
  else
  some (1, v1.2)
  else
  c214_j30 call v1.2))
theorem t214 {d : Nat} {call : Nat → List Int → hS → Option (Int × hS)} (hcall : ∀ (k : Nat) (as : List Int) (h : hS) (w : mmW) (o : Int × hS), Abs h w → (∀ a ∈ as, rg a) → call k as h = some o → hEv d k (vR 395 :: as.map vI) w (qI o)) (hd : 4 ≤ d)  {h : hS} {w : mmW} {o : Int × hS} (A : Abs h w)  (e : c214 call h = some o) : hEv (d + 1) 214 [vR 395] w (qI o) := by
  refine hEv_start (args := [vr 395]) (nl := 3) rfl (Nat.le_of_ble_eq_true rfl) ?_
  show hG d 214 0 [some (vr 395), none, none] [] w _
  have kr : ∀ (v1 : Int) (h1 : hS), o = (v1, h1) → ∀ w', rg v1 → Abs h1 w' → qI o (some (.int (Int32.ofInt v1)), w') := fun v1 h1 q w' r A' => by cases q; exact ⟨rfl, r, A'⟩
  unfold c214 at e
  refine hg_run 1 (pc' := 1) (ls' := [some (vr 395), none, none]) (st' := [vR 395]) rfl ?_
  obtain ⟨v1, e1, e⟩ := ob e
  refine hg_cI (as := [vR 395]) (st' := []) rfl (fun _ _ _ _ => rfl) rfl rfl (Nat.le_of_ble_eq_true rfl) (Nat.le_of_ble_eq_true rfl) (recvV A (a := 13) (Abs_ks A (i := 23) rfl).1) (hcall 215 _ _ _ _ A rgl0 e1) (fun w1 r1 A1 => ?_)
  rcases oi e with ⟨q2, e⟩ | ⟨q2, e⟩
  · refine hg_ifF (tgt := 9) rfl (by decide) r1 (show ¬ ¬ (v1.1 = 0) from fun f => f q2) ?_
    refine hg_run 1 (pc' := 8) (ls' := [some (vr 395), none, none]) (st' := [vI 0]) rfl ?_
    cases e
    exact hg_retI rfl (by decide) (fit_B (.inl rfl)) (kr _ _ rfl _ (rgn 0 rfl) A1)
  · refine hg_ifT (tgt := 9) rfl (by decide) r1 (show ¬ (v1.1 = 0) from q2) ?_
    refine hg_run 2 (pc' := 12) (ls' := [some (vr 395), none, none]) (st' := [vI 60, vR 395]) rfl ?_
    obtain ⟨v3, e3, e⟩ := ob e
    refine hg_cIp (as := [vR 395, vI 60]) (st' := []) rfl (fun _ _ _ _ => rfl) rfl rfl (Nat.le_of_ble_eq_true rfl) (Nat.le_of_ble_eq_true rfl) (recvV A1 (a := 13) (Abs_ks A1 (i := 23) rfl).1) (t203 (by omega) A1 (rgn 60 rfl) e3) (fun r3 => ?_)
    rcases oi e with ⟨q4, e⟩ | ⟨q4, e⟩
    · refine hg_ifF (tgt := 30) rfl (by decide) r3 (show ¬ ¬ (v3 = 0) from fun f => f q4) ?_
      refine hg_run 1 (pc' := 19) (ls' := [some (vr 395), none, none]) (st' := [vR 395]) rfl ?_
      refine gs_395_3 rfl A1 ?_
      refine hg_run 1 (pc' := 25) (ls' := [some (vr 395), none, none]) (st' := [vI 201, vI (hI v1.2 395 3)]) rfl ?_
      rcases oi e with ⟨q11, e⟩ | ⟨q11, e⟩
      · refine hg_icT (tgt := 30) rfl (by decide) (Abs_rg A1 395 3) (rgn 201 rfl) q11 ?_
        exact t214_j30 hcall hd  A1 e kr
      · refine hg_icF (tgt := 30) rfl (by decide) (Abs_rg A1 395 3) (rgn 201 rfl) q11 ?_
        refine hg_run 1 (pc' := 29) (ls' := [some (vr 395), none, none]) (st' := [vI 1]) rfl ?_
        cases e
        exact hg_retI rfl (by decide) (fit_B (.inr rfl)) (kr _ _ rfl _ (rgn 1 rfl) A1)
    · refine hg_ifT (tgt := 30) rfl (by decide) r3 (show ¬ (v3 = 0) from q4) ?_
      exact t214_j30 hcall hd  A1 e kr
def c215_j43 (call : Nat → List Int → hS → Option (Int × hS)) (s0 : Int) (h : hS) : Option ((hS) ⊕ ((hS) ⊕ (Int × hS))) :=
  (c188  h).bind (fun h7 =>
  (call 216 [] h7).bind (fun v8 =>
  if v8.1 = 0 then
  some (.inr (.inr (0, v8.2)))
  else
  (c218 s0 (hI h 395 19) (hI v8.2 395 19) 0 v8.2).bind (fun v10 =>
  (some (sI v10.2 395 19 v10.1)).bind (fun h11 =>
  some (.inl (h11))))))
theorem t215_j43 {d : Nat} {call : Nat → List Int → hS → Option (Int × hS)} (hcall : ∀ (k : Nat) (as : List Int) (h : hS) (w : mmW) (o : Int × hS), Abs h w → (∀ a ∈ as, rg a) → call k as h = some o → hEv d k (vR 395 :: as.map vI) w (qI o)) (hd : 4 ≤ d) {s0 : Int} {z1 : Option hO} {z2 : Option hO} {h : hS} {w : mmW} {o : (hS) ⊕ ((hS) ⊕ (Int × hS))} {Q : mmO → Prop} (rs0 : rg s0) (A : Abs h w) (e : c215_j43 call s0 h = some o) (kb : ∀ (s_0 : hS), o = .inl (s_0) → ∀ w', ∀ (y1 y2 : Option hO), Abs s_0 w' → hG d 215 9 [some (vr 395), y1, y2] [] w' Q) (ke : ∀ (x_0 : hS), o = .inr (.inl (x_0)) → ∀ w', ∀ (y1 y2 : Option hO), Abs x_0 w' → hG d 215 80 [some (vr 395), y1, y2] [] w' Q) (kr : ∀ (v1 : Int) (h1 : hS), o = .inr (.inr (v1, h1)) → ∀ w', rg v1 → Abs h1 w' → Q (some (.int (Int32.ofInt v1)), w')) : hG d 215 43 [some (vr 395), z1, z2] [vI s0] w Q := by
  unfold c215_j43 at e
  refine hg_run 2 (pc' := 45) (ls' := [some (vr 395), some (vi s0), z2]) (st' := [vR 395]) rfl ?_
  refine gs_395_19 rfl A ?_
  refine hg_run 2 (pc' := 50) (ls' := [some (vr 395), some (vi s0), some (vi (hI h 395 19))]) (st' := [vR 395]) rfl ?_
  obtain ⟨h7, e7, e⟩ := ob e
  refine hg_cV (as := [vR 395]) (st' := []) rfl (fun _ _ _ _ => rfl) rfl rfl (Nat.le_of_ble_eq_true rfl) (Nat.le_of_ble_eq_true rfl) (recvV A (a := 13) (Abs_ks A (i := 23) rfl).1) (t188 (by omega) A  e7) (fun w7 A7 => ?_)
  refine hg_run 1 (pc' := 54) (ls' := [some (vr 395), some (vi s0), some (vi (hI h 395 19))]) (st' := [vR 395]) rfl ?_
  obtain ⟨v8, e8, e⟩ := ob e
  refine hg_cI (as := [vR 395]) (st' := []) rfl (fun _ _ _ _ => rfl) rfl rfl (Nat.le_of_ble_eq_true rfl) (Nat.le_of_ble_eq_true rfl) (recvV A7 (a := 13) (Abs_ks A7 (i := 23) rfl).1) (hcall 216 _ _ _ _ A7 rgl0 e8) (fun w8 r8 A8 => ?_)
  rcases oi e with ⟨q9, e⟩ | ⟨q9, e⟩
  · refine hg_ifF (tgt := 62) rfl (by decide) r8 (show ¬ ¬ (v8.1 = 0) from fun f => f q9) ?_
    refine hg_run 1 (pc' := 61) (ls' := [some (vr 395), some (vi s0), some (vi (hI h 395 19))]) (st' := [vI 0]) rfl ?_
    cases e
    exact hg_retI rfl (by decide) (fit_B (.inl rfl)) (kr _ _ rfl _ (rgn 0 rfl) A8)
  · refine hg_ifT (tgt := 62) rfl (by decide) r8 (show ¬ (v8.1 = 0) from q9) ?_
    refine hg_run 5 (pc' := 67) (ls' := [some (vr 395), some (vi s0), some (vi (hI h 395 19))]) (st' := [vR 395, vI (hI h 395 19), vI s0, vR 395, vR 395]) rfl ?_
    refine gs_395_19 rfl A8 ?_
    refine hg_run 1 (pc' := 71) (ls' := [some (vr 395), some (vi s0), some (vi (hI h 395 19))]) (st' := [vI 0, vI (hI v8.2 395 19), vI (hI h 395 19), vI s0, vR 395, vR 395]) rfl ?_
    obtain ⟨v10, e10, e⟩ := ob e
    refine hg_cI (as := [vR 395, vI s0, vI (hI h 395 19), vI (hI v8.2 395 19), vI 0]) (st' := [vR 395]) rfl (fun _ _ _ _ => rfl) rfl rfl (Nat.le_of_ble_eq_true rfl) (Nat.le_of_ble_eq_true rfl) (recvV A8 (a := 13) (Abs_ks A8 (i := 23) rfl).1) (t218 (by omega) A8 rs0 (Abs_rg A 395 19) (Abs_rg A8 395 19) (rgn 0 rfl) e10) (fun w10 r10 A10 => ?_)
    obtain ⟨h11, e11, e⟩ := ob e
    refine ps_395_19 rfl A10 r10 e11 (fun w11 A11 => ?_)
    refine hg_run 1 (pc' := 9) (ls' := [some (vr 395), some (vi s0), some (vi (hI h 395 19))]) (st' := []) rfl ?_
    cases e
    exact kb h11 rfl _ _ _  A11
def c215_j27 (call : Nat → List Int → hS → Option (Int × hS)) (h : hS) : Option ((hS) ⊕ ((hS) ⊕ (Int × hS))) :=
  (c203 43 h).bind (fun v5 =>
  if v5 = 0 then
  c215_j43 call 11 h
  else
  c215_j43 call 10 h)
theorem t215_j27 {d : Nat} {call : Nat → List Int → hS → Option (Int × hS)} (hcall : ∀ (k : Nat) (as : List Int) (h : hS) (w : mmW) (o : Int × hS), Abs h w → (∀ a ∈ as, rg a) → call k as h = some o → hEv d k (vR 395 :: as.map vI) w (qI o)) (hd : 4 ≤ d)  {z1 : Option hO} {z2 : Option hO} {h : hS} {w : mmW} {o : (hS) ⊕ ((hS) ⊕ (Int × hS))} {Q : mmO → Prop}  (A : Abs h w) (e : c215_j27 call h = some o) (kb : ∀ (s_0 : hS), o = .inl (s_0) → ∀ w', ∀ (y1 y2 : Option hO), Abs s_0 w' → hG d 215 9 [some (vr 395), y1, y2] [] w' Q) (ke : ∀ (x_0 : hS), o = .inr (.inl (x_0)) → ∀ w', ∀ (y1 y2 : Option hO), Abs x_0 w' → hG d 215 80 [some (vr 395), y1, y2] [] w' Q) (kr : ∀ (v1 : Int) (h1 : hS), o = .inr (.inr (v1, h1)) → ∀ w', rg v1 → Abs h1 w' → Q (some (.int (Int32.ofInt v1)), w')) : hG d 215 27 [some (vr 395), z1, z2] [] w Q := by
  unfold c215_j27 at e
  refine hg_run 2 (pc' := 30) (ls' := [some (vr 395), z1, z2]) (st' := [vI 43, vR 395]) rfl ?_
  obtain ⟨v5, e5, e⟩ := ob e
  refine hg_cIp (as := [vR 395, vI 43]) (st' := []) rfl (fun _ _ _ _ => rfl) rfl rfl (Nat.le_of_ble_eq_true rfl) (Nat.le_of_ble_eq_true rfl) (recvV A (a := 13) (Abs_ks A (i := 23) rfl).1) (t203 (by omega) A (rgn 43 rfl) e5) (fun r5 => ?_)
  rcases oi e with ⟨q6, e⟩ | ⟨q6, e⟩
  · refine hg_ifT (tgt := 41) rfl (by decide) r5 q6 ?_
    refine hg_run 1 (pc' := 43) (ls' := [some (vr 395), z1, z2]) (st' := [vI 11]) rfl ?_
    exact t215_j43 hcall hd (rgn 11 rfl) A e kb ke kr
  · refine hg_ifF (tgt := 41) rfl (by decide) r5 q6 ?_
    refine hg_run 2 (pc' := 43) (ls' := [some (vr 395), z1, z2]) (st' := [vI 10]) rfl ?_
    exact t215_j43 hcall hd (rgn 10 rfl) A e kb ke kr
def c215_b9 (call : Nat → List Int → hS → Option (Int × hS)) (h : hS) : Option ((hS) ⊕ ((hS) ⊕ (Int × hS))) :=
  (c203 43 h).bind (fun v3 =>
  if v3 = 0 then
  (c203 45 h).bind (fun v12 =>
  if v12 = 0 then
  some (.inr (.inl (h)))
  else
  c215_j27 call h)
  else
  c215_j27 call h)
theorem t215_b9 {d : Nat} {call : Nat → List Int → hS → Option (Int × hS)} (hcall : ∀ (k : Nat) (as : List Int) (h : hS) (w : mmW) (o : Int × hS), Abs h w → (∀ a ∈ as, rg a) → call k as h = some o → hEv d k (vR 395 :: as.map vI) w (qI o)) (hd : 4 ≤ d)  {z1 : Option hO} {z2 : Option hO} {h : hS} {w : mmW} {o : (hS) ⊕ ((hS) ⊕ (Int × hS))} {Q : mmO → Prop}  (A : Abs h w) (e : c215_b9 call h = some o) (kb : ∀ (s_0 : hS), o = .inl (s_0) → ∀ w', ∀ (y1 y2 : Option hO), Abs s_0 w' → hG d 215 9 [some (vr 395), y1, y2] [] w' Q) (ke : ∀ (x_0 : hS), o = .inr (.inl (x_0)) → ∀ w', ∀ (y1 y2 : Option hO), Abs x_0 w' → hG d 215 80 [some (vr 395), y1, y2] [] w' Q) (kr : ∀ (v1 : Int) (h1 : hS), o = .inr (.inr (v1, h1)) → ∀ w', rg v1 → Abs h1 w' → Q (some (.int (Int32.ofInt v1)), w')) : hG d 215 9 [some (vr 395), z1, z2] [] w Q := by
  unfold c215_b9 at e
  refine hg_run 2 (pc' := 12) (ls' := [some (vr 395), z1, z2]) (st' := [vI 43, vR 395]) rfl ?_
  obtain ⟨v3, e3, e⟩ := ob e
  refine hg_cIp (as := [vR 395, vI 43]) (st' := []) rfl (fun _ _ _ _ => rfl) rfl rfl (Nat.le_of_ble_eq_true rfl) (Nat.le_of_ble_eq_true rfl) (recvV A (a := 13) (Abs_ks A (i := 23) rfl).1) (t203 (by omega) A (rgn 43 rfl) e3) (fun r3 => ?_)
  rcases oi e with ⟨q4, e⟩ | ⟨q4, e⟩
  · refine hg_ifF (tgt := 27) rfl (by decide) r3 (show ¬ ¬ (v3 = 0) from fun f => f q4) ?_
    refine hg_run 2 (pc' := 21) (ls' := [some (vr 395), z1, z2]) (st' := [vI 45, vR 395]) rfl ?_
    obtain ⟨v12, e12, e⟩ := ob e
    refine hg_cIp (as := [vR 395, vI 45]) (st' := []) rfl (fun _ _ _ _ => rfl) rfl rfl (Nat.le_of_ble_eq_true rfl) (Nat.le_of_ble_eq_true rfl) (recvV A (a := 13) (Abs_ks A (i := 23) rfl).1) (t203 (by omega) A (rgn 45 rfl) e12) (fun r12 => ?_)
    rcases oi e with ⟨q13, e⟩ | ⟨q13, e⟩
    · refine hg_ifT (tgt := 80) rfl (by decide) r12 q13 ?_
      cases e
      exact ke h rfl _ _ _  A
    · refine hg_ifF (tgt := 80) rfl (by decide) r12 q13 ?_
      exact t215_j27 hcall hd  A e kb ke kr
  · refine hg_ifT (tgt := 27) rfl (by decide) r3 (show ¬ (v3 = 0) from q4) ?_
    exact t215_j27 hcall hd  A e kb ke kr
theorem t215_l9 {d : Nat} {call : Nat → List Int → hS → Option (Int × hS)} (hcall : ∀ (k : Nat) (as : List Int) (h : hS) (w : mmW) (o : Int × hS), Abs h w → (∀ a ∈ as, rg a) → call k as h = some o → hEv d k (vR 395 :: as.map vI) w (qI o)) (hd : 4 ≤ d)   {Q : mmO → Prop}  (n : Nat)  {z1 z2 : Option hO} {h : hS} {w : mmW} {r : (hS) ⊕ (Int × hS)}  (A : Abs h w) (e : lp (fun s => c215_b9 call s) n (h) = some r) (ke : ∀ (x_0 : hS), r = .inl (x_0) → ∀ w', ∀ (y1 y2 : Option hO), Abs x_0 w' → hG d 215 80 [some (vr 395), y1, y2] [] w' Q) (kr : ∀ (v1 : Int) (h1 : hS), r = .inr (v1, h1) → ∀ w', rg v1 → Abs h1 w' → Q (some (.int (Int32.ofInt v1)), w')) : hG d 215 9 [some (vr 395), z1, z2] [] w Q := by
  induction n generalizing z1 z2 h w with
  | zero => cases e
  | succ n ih =>
    rcases lp_succ e with ⟨s1, e1, e2⟩ | e1
    · exact t215_b9 hcall hd  A e1 (fun s_0 q w1 y1 y2 A1 => by cases q; exact ih  A1 e2) (fun x_0 q => by cases q) (fun v0 h0 q => by cases q)
    · exact t215_b9 hcall hd  A e1 (fun s_0 q => by cases q) (fun x_0 q => by cases q; exact ke _ rfl) (fun v0 h0 q => by cases q; exact kr _ _ rfl)
def c215 (call : Nat → List Int → hS → Option (Int × hS)) (h : hS) : Option (Int × hS) :=
  (call 216 [] h).bind (fun v1 =>
  if v1.1 = 0 then
  some (0, v1.2)
  else
  (lp (fun s => c215_b9 call s) hF0 (v1.2)).bind (fun r14 => xs r14 (fun x14 =>
  some (1, x14)) (fun o14 => some o14)))
theorem t215 {d : Nat} {call : Nat → List Int → hS → Option (Int × hS)} (hcall : ∀ (k : Nat) (as : List Int) (h : hS) (w : mmW) (o : Int × hS), Abs h w → (∀ a ∈ as, rg a) → call k as h = some o → hEv d k (vR 395 :: as.map vI) w (qI o)) (hd : 4 ≤ d)  {h : hS} {w : mmW} {o : Int × hS} (A : Abs h w)  (e : c215 call h = some o) : hEv (d + 1) 215 [vR 395] w (qI o) := by
  refine hEv_start (args := [vr 395]) (nl := 3) rfl (Nat.le_of_ble_eq_true rfl) ?_
  show hG d 215 0 [some (vr 395), none, none] [] w _
  have kr : ∀ (v1 : Int) (h1 : hS), o = (v1, h1) → ∀ w', rg v1 → Abs h1 w' → qI o (some (.int (Int32.ofInt v1)), w') := fun v1 h1 q w' r A' => by cases q; exact ⟨rfl, r, A'⟩
  unfold c215 at e
  refine hg_run 1 (pc' := 1) (ls' := [some (vr 395), none, none]) (st' := [vR 395]) rfl ?_
  obtain ⟨v1, e1, e⟩ := ob e
  refine hg_cI (as := [vR 395]) (st' := []) rfl (fun _ _ _ _ => rfl) rfl rfl (Nat.le_of_ble_eq_true rfl) (Nat.le_of_ble_eq_true rfl) (recvV A (a := 13) (Abs_ks A (i := 23) rfl).1) (hcall 216 _ _ _ _ A rgl0 e1) (fun w1 r1 A1 => ?_)
  rcases oi e with ⟨q2, e⟩ | ⟨q2, e⟩
  · refine hg_ifF (tgt := 9) rfl (by decide) r1 (show ¬ ¬ (v1.1 = 0) from fun f => f q2) ?_
    refine hg_run 1 (pc' := 8) (ls' := [some (vr 395), none, none]) (st' := [vI 0]) rfl ?_
    cases e
    exact hg_retI rfl (by decide) (fit_B (.inl rfl)) (kr _ _ rfl _ (rgn 0 rfl) A1)
  · refine hg_ifT (tgt := 9) rfl (by decide) r1 (show ¬ (v1.1 = 0) from q2) ?_
    obtain ⟨r14, e14, e⟩ := ob e
    refine t215_l9 hcall hd  _  A1 e14 ?_ ?_
    · intro x14_0 qq14 w14 z14_1 z14_2 A14
      subst qq14
      have e := xs_l e
      refine hg_run 1 (pc' := 81) (ls' := [some (vr 395), z14_1, z14_2]) (st' := [vI 1]) rfl ?_
      cases e
      exact hg_retI rfl (by decide) (fit_B (.inr rfl)) (kr _ _ rfl _ (rgn 1 rfl) A14)
    · intro v14 h14 qq14 w14 r14 A14
      subst qq14
      have e := xs_r e
      cases e
      exact kr _ _ rfl w14 r14 A14
def c216_j43 (call : Nat → List Int → hS → Option (Int × hS)) (s0 : Int) (h : hS) : Option ((hS) ⊕ ((hS) ⊕ (Int × hS))) :=
  (c188  h).bind (fun h7 =>
  (call 217 [] h7).bind (fun v8 =>
  if v8.1 = 0 then
  some (.inr (.inr (0, v8.2)))
  else
  (c218 s0 (hI h 395 19) (hI v8.2 395 19) 0 v8.2).bind (fun v10 =>
  (some (sI v10.2 395 19 v10.1)).bind (fun h11 =>
  some (.inl (h11))))))
theorem t216_j43 {d : Nat} {call : Nat → List Int → hS → Option (Int × hS)} (hcall : ∀ (k : Nat) (as : List Int) (h : hS) (w : mmW) (o : Int × hS), Abs h w → (∀ a ∈ as, rg a) → call k as h = some o → hEv d k (vR 395 :: as.map vI) w (qI o)) (hd : 4 ≤ d) {s0 : Int} {z1 : Option hO} {z2 : Option hO} {h : hS} {w : mmW} {o : (hS) ⊕ ((hS) ⊕ (Int × hS))} {Q : mmO → Prop} (rs0 : rg s0) (A : Abs h w) (e : c216_j43 call s0 h = some o) (kb : ∀ (s_0 : hS), o = .inl (s_0) → ∀ w', ∀ (y1 y2 : Option hO), Abs s_0 w' → hG d 216 9 [some (vr 395), y1, y2] [] w' Q) (ke : ∀ (x_0 : hS), o = .inr (.inl (x_0)) → ∀ w', ∀ (y1 y2 : Option hO), Abs x_0 w' → hG d 216 80 [some (vr 395), y1, y2] [] w' Q) (kr : ∀ (v1 : Int) (h1 : hS), o = .inr (.inr (v1, h1)) → ∀ w', rg v1 → Abs h1 w' → Q (some (.int (Int32.ofInt v1)), w')) : hG d 216 43 [some (vr 395), z1, z2] [vI s0] w Q := by
  unfold c216_j43 at e
  refine hg_run 2 (pc' := 45) (ls' := [some (vr 395), some (vi s0), z2]) (st' := [vR 395]) rfl ?_
  refine gs_395_19 rfl A ?_
  refine hg_run 2 (pc' := 50) (ls' := [some (vr 395), some (vi s0), some (vi (hI h 395 19))]) (st' := [vR 395]) rfl ?_
  obtain ⟨h7, e7, e⟩ := ob e
  refine hg_cV (as := [vR 395]) (st' := []) rfl (fun _ _ _ _ => rfl) rfl rfl (Nat.le_of_ble_eq_true rfl) (Nat.le_of_ble_eq_true rfl) (recvV A (a := 13) (Abs_ks A (i := 23) rfl).1) (t188 (by omega) A  e7) (fun w7 A7 => ?_)
  refine hg_run 1 (pc' := 54) (ls' := [some (vr 395), some (vi s0), some (vi (hI h 395 19))]) (st' := [vR 395]) rfl ?_
  obtain ⟨v8, e8, e⟩ := ob e
  refine hg_cI (as := [vR 395]) (st' := []) rfl (fun _ _ _ _ => rfl) rfl rfl (Nat.le_of_ble_eq_true rfl) (Nat.le_of_ble_eq_true rfl) (recvV A7 (a := 13) (Abs_ks A7 (i := 23) rfl).1) (hcall 217 _ _ _ _ A7 rgl0 e8) (fun w8 r8 A8 => ?_)
  rcases oi e with ⟨q9, e⟩ | ⟨q9, e⟩
  · refine hg_ifF (tgt := 62) rfl (by decide) r8 (show ¬ ¬ (v8.1 = 0) from fun f => f q9) ?_
    refine hg_run 1 (pc' := 61) (ls' := [some (vr 395), some (vi s0), some (vi (hI h 395 19))]) (st' := [vI 0]) rfl ?_
    cases e
    exact hg_retI rfl (by decide) (fit_B (.inl rfl)) (kr _ _ rfl _ (rgn 0 rfl) A8)
  · refine hg_ifT (tgt := 62) rfl (by decide) r8 (show ¬ (v8.1 = 0) from q9) ?_
    refine hg_run 5 (pc' := 67) (ls' := [some (vr 395), some (vi s0), some (vi (hI h 395 19))]) (st' := [vR 395, vI (hI h 395 19), vI s0, vR 395, vR 395]) rfl ?_
    refine gs_395_19 rfl A8 ?_
    refine hg_run 1 (pc' := 71) (ls' := [some (vr 395), some (vi s0), some (vi (hI h 395 19))]) (st' := [vI 0, vI (hI v8.2 395 19), vI (hI h 395 19), vI s0, vR 395, vR 395]) rfl ?_
    obtain ⟨v10, e10, e⟩ := ob e
    refine hg_cI (as := [vR 395, vI s0, vI (hI h 395 19), vI (hI v8.2 395 19), vI 0]) (st' := [vR 395]) rfl (fun _ _ _ _ => rfl) rfl rfl (Nat.le_of_ble_eq_true rfl) (Nat.le_of_ble_eq_true rfl) (recvV A8 (a := 13) (Abs_ks A8 (i := 23) rfl).1) (t218 (by omega) A8 rs0 (Abs_rg A 395 19) (Abs_rg A8 395 19) (rgn 0 rfl) e10) (fun w10 r10 A10 => ?_)
    obtain ⟨h11, e11, e⟩ := ob e
    refine ps_395_19 rfl A10 r10 e11 (fun w11 A11 => ?_)
    refine hg_run 1 (pc' := 9) (ls' := [some (vr 395), some (vi s0), some (vi (hI h 395 19))]) (st' := []) rfl ?_
    cases e
    exact kb h11 rfl _ _ _  A11
def c216_j27 (call : Nat → List Int → hS → Option (Int × hS)) (h : hS) : Option ((hS) ⊕ ((hS) ⊕ (Int × hS))) :=
  (c203 42 h).bind (fun v5 =>
  if v5 = 0 then
  c216_j43 call 13 h
  else
  c216_j43 call 12 h)
theorem t216_j27 {d : Nat} {call : Nat → List Int → hS → Option (Int × hS)} (hcall : ∀ (k : Nat) (as : List Int) (h : hS) (w : mmW) (o : Int × hS), Abs h w → (∀ a ∈ as, rg a) → call k as h = some o → hEv d k (vR 395 :: as.map vI) w (qI o)) (hd : 4 ≤ d)  {z1 : Option hO} {z2 : Option hO} {h : hS} {w : mmW} {o : (hS) ⊕ ((hS) ⊕ (Int × hS))} {Q : mmO → Prop}  (A : Abs h w) (e : c216_j27 call h = some o) (kb : ∀ (s_0 : hS), o = .inl (s_0) → ∀ w', ∀ (y1 y2 : Option hO), Abs s_0 w' → hG d 216 9 [some (vr 395), y1, y2] [] w' Q) (ke : ∀ (x_0 : hS), o = .inr (.inl (x_0)) → ∀ w', ∀ (y1 y2 : Option hO), Abs x_0 w' → hG d 216 80 [some (vr 395), y1, y2] [] w' Q) (kr : ∀ (v1 : Int) (h1 : hS), o = .inr (.inr (v1, h1)) → ∀ w', rg v1 → Abs h1 w' → Q (some (.int (Int32.ofInt v1)), w')) : hG d 216 27 [some (vr 395), z1, z2] [] w Q := by
  unfold c216_j27 at e
  refine hg_run 2 (pc' := 30) (ls' := [some (vr 395), z1, z2]) (st' := [vI 42, vR 395]) rfl ?_
  obtain ⟨v5, e5, e⟩ := ob e
  refine hg_cIp (as := [vR 395, vI 42]) (st' := []) rfl (fun _ _ _ _ => rfl) rfl rfl (Nat.le_of_ble_eq_true rfl) (Nat.le_of_ble_eq_true rfl) (recvV A (a := 13) (Abs_ks A (i := 23) rfl).1) (t203 (by omega) A (rgn 42 rfl) e5) (fun r5 => ?_)
  rcases oi e with ⟨q6, e⟩ | ⟨q6, e⟩
  · refine hg_ifT (tgt := 41) rfl (by decide) r5 q6 ?_
    refine hg_run 1 (pc' := 43) (ls' := [some (vr 395), z1, z2]) (st' := [vI 13]) rfl ?_
    exact t216_j43 hcall hd (rgn 13 rfl) A e kb ke kr
  · refine hg_ifF (tgt := 41) rfl (by decide) r5 q6 ?_
    refine hg_run 2 (pc' := 43) (ls' := [some (vr 395), z1, z2]) (st' := [vI 12]) rfl ?_
    exact t216_j43 hcall hd (rgn 12 rfl) A e kb ke kr
def c216_b9 (call : Nat → List Int → hS → Option (Int × hS)) (h : hS) : Option ((hS) ⊕ ((hS) ⊕ (Int × hS))) :=
  (c203 42 h).bind (fun v3 =>
  if v3 = 0 then
  (c203 47 h).bind (fun v12 =>
  if v12 = 0 then
  some (.inr (.inl (h)))
  else
  c216_j27 call h)
  else
  c216_j27 call h)
theorem t216_b9 {d : Nat} {call : Nat → List Int → hS → Option (Int × hS)} (hcall : ∀ (k : Nat) (as : List Int) (h : hS) (w : mmW) (o : Int × hS), Abs h w → (∀ a ∈ as, rg a) → call k as h = some o → hEv d k (vR 395 :: as.map vI) w (qI o)) (hd : 4 ≤ d)  {z1 : Option hO} {z2 : Option hO} {h : hS} {w : mmW} {o : (hS) ⊕ ((hS) ⊕ (Int × hS))} {Q : mmO → Prop}  (A : Abs h w) (e : c216_b9 call h = some o) (kb : ∀ (s_0 : hS), o = .inl (s_0) → ∀ w', ∀ (y1 y2 : Option hO), Abs s_0 w' → hG d 216 9 [some (vr 395), y1, y2] [] w' Q) (ke : ∀ (x_0 : hS), o = .inr (.inl (x_0)) → ∀ w', ∀ (y1 y2 : Option hO), Abs x_0 w' → hG d 216 80 [some (vr 395), y1, y2] [] w' Q) (kr : ∀ (v1 : Int) (h1 : hS), o = .inr (.inr (v1, h1)) → ∀ w', rg v1 → Abs h1 w' → Q (some (.int (Int32.ofInt v1)), w')) : hG d 216 9 [some (vr 395), z1, z2] [] w Q := by
  unfold c216_b9 at e
  refine hg_run 2 (pc' := 12) (ls' := [some (vr 395), z1, z2]) (st' := [vI 42, vR 395]) rfl ?_
  obtain ⟨v3, e3, e⟩ := ob e
  refine hg_cIp (as := [vR 395, vI 42]) (st' := []) rfl (fun _ _ _ _ => rfl) rfl rfl (Nat.le_of_ble_eq_true rfl) (Nat.le_of_ble_eq_true rfl) (recvV A (a := 13) (Abs_ks A (i := 23) rfl).1) (t203 (by omega) A (rgn 42 rfl) e3) (fun r3 => ?_)
  rcases oi e with ⟨q4, e⟩ | ⟨q4, e⟩
  · refine hg_ifF (tgt := 27) rfl (by decide) r3 (show ¬ ¬ (v3 = 0) from fun f => f q4) ?_
    refine hg_run 2 (pc' := 21) (ls' := [some (vr 395), z1, z2]) (st' := [vI 47, vR 395]) rfl ?_
    obtain ⟨v12, e12, e⟩ := ob e
    refine hg_cIp (as := [vR 395, vI 47]) (st' := []) rfl (fun _ _ _ _ => rfl) rfl rfl (Nat.le_of_ble_eq_true rfl) (Nat.le_of_ble_eq_true rfl) (recvV A (a := 13) (Abs_ks A (i := 23) rfl).1) (t203 (by omega) A (rgn 47 rfl) e12) (fun r12 => ?_)
    rcases oi e with ⟨q13, e⟩ | ⟨q13, e⟩
    · refine hg_ifT (tgt := 80) rfl (by decide) r12 q13 ?_
      cases e
      exact ke h rfl _ _ _  A
    · refine hg_ifF (tgt := 80) rfl (by decide) r12 q13 ?_
      exact t216_j27 hcall hd  A e kb ke kr
  · refine hg_ifT (tgt := 27) rfl (by decide) r3 (show ¬ (v3 = 0) from q4) ?_
    exact t216_j27 hcall hd  A e kb ke kr
theorem t216_l9 {d : Nat} {call : Nat → List Int → hS → Option (Int × hS)} (hcall : ∀ (k : Nat) (as : List Int) (h : hS) (w : mmW) (o : Int × hS), Abs h w → (∀ a ∈ as, rg a) → call k as h = some o → hEv d k (vR 395 :: as.map vI) w (qI o)) (hd : 4 ≤ d)   {Q : mmO → Prop}  (n : Nat)  {z1 z2 : Option hO} {h : hS} {w : mmW} {r : (hS) ⊕ (Int × hS)}  (A : Abs h w) (e : lp (fun s => c216_b9 call s) n (h) = some r) (ke : ∀ (x_0 : hS), r = .inl (x_0) → ∀ w', ∀ (y1 y2 : Option hO), Abs x_0 w' → hG d 216 80 [some (vr 395), y1, y2] [] w' Q) (kr : ∀ (v1 : Int) (h1 : hS), r = .inr (v1, h1) → ∀ w', rg v1 → Abs h1 w' → Q (some (.int (Int32.ofInt v1)), w')) : hG d 216 9 [some (vr 395), z1, z2] [] w Q := by
  induction n generalizing z1 z2 h w with
  | zero => cases e
  | succ n ih =>
    rcases lp_succ e with ⟨s1, e1, e2⟩ | e1
    · exact t216_b9 hcall hd  A e1 (fun s_0 q w1 y1 y2 A1 => by cases q; exact ih  A1 e2) (fun x_0 q => by cases q) (fun v0 h0 q => by cases q)
    · exact t216_b9 hcall hd  A e1 (fun s_0 q => by cases q) (fun x_0 q => by cases q; exact ke _ rfl) (fun v0 h0 q => by cases q; exact kr _ _ rfl)
def c216 (call : Nat → List Int → hS → Option (Int × hS)) (h : hS) : Option (Int × hS) :=
  (call 217 [] h).bind (fun v1 =>
  if v1.1 = 0 then
  some (0, v1.2)
  else
  (lp (fun s => c216_b9 call s) hF0 (v1.2)).bind (fun r14 => xs r14 (fun x14 =>
  some (1, x14)) (fun o14 => some o14)))
theorem t216 {d : Nat} {call : Nat → List Int → hS → Option (Int × hS)} (hcall : ∀ (k : Nat) (as : List Int) (h : hS) (w : mmW) (o : Int × hS), Abs h w → (∀ a ∈ as, rg a) → call k as h = some o → hEv d k (vR 395 :: as.map vI) w (qI o)) (hd : 4 ≤ d)  {h : hS} {w : mmW} {o : Int × hS} (A : Abs h w)  (e : c216 call h = some o) : hEv (d + 1) 216 [vR 395] w (qI o) := by
  refine hEv_start (args := [vr 395]) (nl := 3) rfl (Nat.le_of_ble_eq_true rfl) ?_
  show hG d 216 0 [some (vr 395), none, none] [] w _
  have kr : ∀ (v1 : Int) (h1 : hS), o = (v1, h1) → ∀ w', rg v1 → Abs h1 w' → qI o (some (.int (Int32.ofInt v1)), w') := fun v1 h1 q w' r A' => by cases q; exact ⟨rfl, r, A'⟩
  unfold c216 at e
  refine hg_run 1 (pc' := 1) (ls' := [some (vr 395), none, none]) (st' := [vR 395]) rfl ?_
  obtain ⟨v1, e1, e⟩ := ob e
  refine hg_cI (as := [vR 395]) (st' := []) rfl (fun _ _ _ _ => rfl) rfl rfl (Nat.le_of_ble_eq_true rfl) (Nat.le_of_ble_eq_true rfl) (recvV A (a := 13) (Abs_ks A (i := 23) rfl).1) (hcall 217 _ _ _ _ A rgl0 e1) (fun w1 r1 A1 => ?_)
  rcases oi e with ⟨q2, e⟩ | ⟨q2, e⟩
  · refine hg_ifF (tgt := 9) rfl (by decide) r1 (show ¬ ¬ (v1.1 = 0) from fun f => f q2) ?_
    refine hg_run 1 (pc' := 8) (ls' := [some (vr 395), none, none]) (st' := [vI 0]) rfl ?_
    cases e
    exact hg_retI rfl (by decide) (fit_B (.inl rfl)) (kr _ _ rfl _ (rgn 0 rfl) A1)
  · refine hg_ifT (tgt := 9) rfl (by decide) r1 (show ¬ (v1.1 = 0) from q2) ?_
    obtain ⟨r14, e14, e⟩ := ob e
    refine t216_l9 hcall hd  _  A1 e14 ?_ ?_
    · intro x14_0 qq14 w14 z14_1 z14_2 A14
      subst qq14
      have e := xs_l e
      refine hg_run 1 (pc' := 81) (ls' := [some (vr 395), z14_1, z14_2]) (st' := [vI 1]) rfl ?_
      cases e
      exact hg_retI rfl (by decide) (fit_B (.inr rfl)) (kr _ _ rfl _ (rgn 1 rfl) A14)
    · intro v14 h14 qq14 w14 r14 A14
      subst qq14
      have e := xs_r e
      cases e
      exact kr _ _ rfl w14 r14 A14
def c217_j97 (s2 : Int) (h : hS) : Option (Int × hS) :=
  (c218 s2 0 0 0 h).bind (fun v5 =>
  (some (sI v5.2 395 19 v5.1)).bind (fun h6 =>
  (c188  h6).bind (fun h7 =>
  some (1, h7))))
set_option maxRecDepth 100000 in
theorem t217_j97 {d : Nat} {call : Nat → List Int → hS → Option (Int × hS)} (hcall : ∀ (k : Nat) (as : List Int) (h : hS) (w : mmW) (o : Int × hS), Abs h w → (∀ a ∈ as, rg a) → call k as h = some o → hEv d k (vR 395 :: as.map vI) w (qI o)) (hd : 4 ≤ d) {s2 : Int}  {h : hS} {w : mmW} {o : Int × hS} {Q : mmO → Prop} (rs2 : rg s2) (A : Abs h w) (e : c217_j97 s2 h = some o) (kr : ∀ (v1 : Int) (h1 : hS), o = (v1, h1) → ∀ w', rg v1 → Abs h1 w' → Q (some (.int (Int32.ofInt v1)), w')) : hG d 217 97 [some (vr 395)] [vI s2, vR 395, vR 395] w Q := by
  unfold c217_j97 at e
  refine hg_run 3 (pc' := 100) (ls' := [some (vr 395)]) (st' := [vI 0, vI 0, vI 0, vI s2, vR 395, vR 395]) rfl ?_
  obtain ⟨v5, e5, e⟩ := ob e
  refine hg_cI (as := [vR 395, vI s2, vI 0, vI 0, vI 0]) (st' := [vR 395]) rfl (fun _ _ _ _ => rfl) rfl rfl (Nat.le_of_ble_eq_true rfl) (Nat.le_of_ble_eq_true rfl) (recvV A (a := 13) (Abs_ks A (i := 23) rfl).1) (t218 (by omega) A rs2 (rgn 0 rfl) (rgn 0 rfl) (rgn 0 rfl) e5) (fun w5 r5 A5 => ?_)
  obtain ⟨h6, e6, e⟩ := ob e
  refine ps_395_19 rfl A5 r5 e6 (fun w6 A6 => ?_)
  refine hg_run 1 (pc' := 107) (ls' := [some (vr 395)]) (st' := [vR 395]) rfl ?_
  obtain ⟨h7, e7, e⟩ := ob e
  refine hg_cV (as := [vR 395]) (st' := []) rfl (fun _ _ _ _ => rfl) rfl rfl (Nat.le_of_ble_eq_true rfl) (Nat.le_of_ble_eq_true rfl) (recvV A6 (a := 13) (Abs_ks A6 (i := 23) rfl).1) (t188 (by omega) A6  e7) (fun w7 A7 => ?_)
  refine hg_run 1 (pc' := 111) (ls' := [some (vr 395)]) (st' := [vI 1]) rfl ?_
  cases e
  exact hg_retI rfl (by decide) (fit_B (.inr rfl)) (kr _ _ rfl _ (rgn 1 rfl) A7)
def c217_j81 (h : hS) : Option (Int × hS) :=
  if (hI h 395 3) = 114 then
  c217_j97 3 h
  else
  c217_j97 4 h
set_option maxRecDepth 100000 in
theorem t217_j81 {d : Nat} {call : Nat → List Int → hS → Option (Int × hS)} (hcall : ∀ (k : Nat) (as : List Int) (h : hS) (w : mmW) (o : Int × hS), Abs h w → (∀ a ∈ as, rg a) → call k as h = some o → hEv d k (vR 395 :: as.map vI) w (qI o)) (hd : 4 ≤ d)   {h : hS} {w : mmW} {o : Int × hS} {Q : mmO → Prop}  (A : Abs h w) (e : c217_j81 h = some o) (kr : ∀ (v1 : Int) (h1 : hS), o = (v1, h1) → ∀ w', rg v1 → Abs h1 w' → Q (some (.int (Int32.ofInt v1)), w')) : hG d 217 81 [some (vr 395)] [] w Q := by
  unfold c217_j81 at e
  refine hg_run 3 (pc' := 84) (ls' := [some (vr 395)]) (st' := [vR 395, vR 395, vR 395]) rfl ?_
  refine gs_395_3 rfl A ?_
  refine hg_run 1 (pc' := 89) (ls' := [some (vr 395)]) (st' := [vI 114, vI (hI h 395 3), vR 395, vR 395]) rfl ?_
  rcases oi e with ⟨q4, e⟩ | ⟨q4, e⟩
  · refine hg_icF (tgt := 96) rfl (by decide) (Abs_rg A 395 3) (rgn 114 rfl) (show ¬ ¬ ((hI h 395 3) = 114) from fun f => f q4) ?_
    refine hg_run 2 (pc' := 97) (ls' := [some (vr 395)]) (st' := [vI 3, vR 395, vR 395]) rfl ?_
    exact t217_j97 hcall hd (rgn 3 rfl) A e kr
  · refine hg_icT (tgt := 96) rfl (by decide) (Abs_rg A 395 3) (rgn 114 rfl) (show ¬ ((hI h 395 3) = 114) from q4) ?_
    refine hg_run 1 (pc' := 97) (ls' := [some (vr 395)]) (st' := [vI 4, vR 395, vR 395]) rfl ?_
    exact t217_j97 hcall hd (rgn 4 rfl) A e kr
def c217 (call : Nat → List Int → hS → Option (Int × hS)) (h : hS) : Option (Int × hS) :=
  if (hI h 395 3) = 3 then
  (c218 1 (hI h 395 5) 0 0 h).bind (fun v33 =>
  (some (sI v33.2 395 19 v33.1)).bind (fun h34 =>
  (c188  h34).bind (fun h35 =>
  some (1, h35))))
  else
  if (hI h 395 3) = 2 then
  (c196  h).bind (fun v29 =>
  if v29.1 = 0 then
  some (0, v29.2)
  else
  (c218 2 (hI v29.2 395 17) 0 0 v29.2).bind (fun v31 =>
  (some (sI v31.2 395 19 v31.1)).bind (fun h32 =>
  some (1, h32))))
  else
  if (hI h 395 3) = 114 then
  c217_j81 h
  else
  if (hI h 395 3) = 115 then
  c217_j81 h
  else
  (c203 45 h).bind (fun v9 =>
  if v9 = 0 then
  (c203 40 h).bind (fun v11 =>
  if v11 = 0 then
  (c194 1 h).bind (fun v20 =>
  (kB v20.1).bind (fun u21 =>
  some (v20.1, v20.2)))
  else
  (c213  h).bind (fun v13 =>
  if v13.1 = 0 then
  some (0, v13.2)
  else
  (call 214 [] v13.2).bind (fun v15 =>
  if v15.1 = 0 then
  some (0, v15.2)
  else
  (c202 41 v15.2).bind (fun v17 =>
  if v17.1 = 0 then
  some (0, v17.2)
  else
  (some (sI v17.2 395 18 (wsub (hI v17.2 395 18) 1))).bind (fun h19 =>
  some (1, h19))))))
  else
  (c213  h).bind (fun v22 =>
  if v22.1 = 0 then
  some (0, v22.2)
  else
  (call 217 [] v22.2).bind (fun v24 =>
  if v24.1 = 0 then
  some (0, v24.2)
  else
  (some (sI v24.2 395 18 (wsub (hI v24.2 395 18) 1))).bind (fun h26 =>
  (c218 5 (hI h26 395 19) 0 0 h26).bind (fun v27 =>
  (some (sI v27.2 395 19 v27.1)).bind (fun h28 =>
  some (1, h28)))))))
set_option maxRecDepth 100000 in
theorem t217 {d : Nat} {call : Nat → List Int → hS → Option (Int × hS)} (hcall : ∀ (k : Nat) (as : List Int) (h : hS) (w : mmW) (o : Int × hS), Abs h w → (∀ a ∈ as, rg a) → call k as h = some o → hEv d k (vR 395 :: as.map vI) w (qI o)) (hd : 4 ≤ d)  {h : hS} {w : mmW} {o : Int × hS} (A : Abs h w)  (e : c217 call h = some o) : hEv (d + 1) 217 [vR 395] w (qI o) := by
  refine hEv_start (args := [vr 395]) (nl := 1) rfl (Nat.le_of_ble_eq_true rfl) ?_
  show hG d 217 0 [some (vr 395)] [] w _
  have kr : ∀ (v1 : Int) (h1 : hS), o = (v1, h1) → ∀ w', rg v1 → Abs h1 w' → qI o (some (.int (Int32.ofInt v1)), w') := fun v1 h1 q w' r A' => by cases q; exact ⟨rfl, r, A'⟩
  unfold c217 at e
  refine hg_run 1 (pc' := 1) (ls' := [some (vr 395)]) (st' := [vR 395]) rfl ?_
  refine gs_395_3 rfl A ?_
  refine hg_run 1 (pc' := 5) (ls' := [some (vr 395)]) (st' := [vI 3, vI (hI h 395 3)]) rfl ?_
  rcases oi e with ⟨q1, e⟩ | ⟨q1, e⟩
  · refine hg_icF (tgt := 29) rfl (by decide) (Abs_rg A 395 3) (rgn 3 rfl) (show ¬ ¬ ((hI h 395 3) = 3) from fun f => f q1) ?_
    refine hg_run 4 (pc' := 12) (ls' := [some (vr 395)]) (st' := [vR 395, vI 1, vR 395, vR 395]) rfl ?_
    refine gs_395_5 rfl A ?_
    refine hg_run 2 (pc' := 17) (ls' := [some (vr 395)]) (st' := [vI 0, vI 0, vI (hI h 395 5), vI 1, vR 395, vR 395]) rfl ?_
    obtain ⟨v33, e33, e⟩ := ob e
    refine hg_cI (as := [vR 395, vI 1, vI (hI h 395 5), vI 0, vI 0]) (st' := [vR 395]) rfl (fun _ _ _ _ => rfl) rfl rfl (Nat.le_of_ble_eq_true rfl) (Nat.le_of_ble_eq_true rfl) (recvV A (a := 13) (Abs_ks A (i := 23) rfl).1) (t218 (by omega) A (rgn 1 rfl) (Abs_rg A 395 5) (rgn 0 rfl) (rgn 0 rfl) e33) (fun w33 r33 A33 => ?_)
    obtain ⟨h34, e34, e⟩ := ob e
    refine ps_395_19 rfl A33 r33 e34 (fun w34 A34 => ?_)
    refine hg_run 1 (pc' := 24) (ls' := [some (vr 395)]) (st' := [vR 395]) rfl ?_
    obtain ⟨h35, e35, e⟩ := ob e
    refine hg_cV (as := [vR 395]) (st' := []) rfl (fun _ _ _ _ => rfl) rfl rfl (Nat.le_of_ble_eq_true rfl) (Nat.le_of_ble_eq_true rfl) (recvV A34 (a := 13) (Abs_ks A34 (i := 23) rfl).1) (t188 (by omega) A34  e35) (fun w35 A35 => ?_)
    refine hg_run 1 (pc' := 28) (ls' := [some (vr 395)]) (st' := [vI 1]) rfl ?_
    cases e
    exact hg_retI rfl (by decide) (fit_B (.inr rfl)) (kr _ _ rfl _ (rgn 1 rfl) A35)
  · refine hg_icT (tgt := 29) rfl (by decide) (Abs_rg A 395 3) (rgn 3 rfl) (show ¬ ((hI h 395 3) = 3) from q1) ?_
    refine hg_run 1 (pc' := 30) (ls' := [some (vr 395)]) (st' := [vR 395]) rfl ?_
    refine gs_395_3 rfl A ?_
    refine hg_run 1 (pc' := 34) (ls' := [some (vr 395)]) (st' := [vI 2, vI (hI h 395 3)]) rfl ?_
    rcases oi e with ⟨q2, e⟩ | ⟨q2, e⟩
    · refine hg_icF (tgt := 63) rfl (by decide) (Abs_rg A 395 3) (rgn 2 rfl) (show ¬ ¬ ((hI h 395 3) = 2) from fun f => f q2) ?_
      refine hg_run 1 (pc' := 38) (ls' := [some (vr 395)]) (st' := [vR 395]) rfl ?_
      obtain ⟨v29, e29, e⟩ := ob e
      refine hg_cI (as := [vR 395]) (st' := []) rfl (fun _ _ _ _ => rfl) rfl rfl (Nat.le_of_ble_eq_true rfl) (Nat.le_of_ble_eq_true rfl) (recvV A (a := 13) (Abs_ks A (i := 23) rfl).1) (t196 (by omega) A  e29) (fun w29 r29 A29 => ?_)
      rcases oi e with ⟨q30, e⟩ | ⟨q30, e⟩
      · refine hg_ifF (tgt := 46) rfl (by decide) r29 (show ¬ ¬ (v29.1 = 0) from fun f => f q30) ?_
        refine hg_run 1 (pc' := 45) (ls' := [some (vr 395)]) (st' := [vI 0]) rfl ?_
        cases e
        exact hg_retI rfl (by decide) (fit_B (.inl rfl)) (kr _ _ rfl _ (rgn 0 rfl) A29)
      · refine hg_ifT (tgt := 46) rfl (by decide) r29 (show ¬ (v29.1 = 0) from q30) ?_
        refine hg_run 4 (pc' := 50) (ls' := [some (vr 395)]) (st' := [vR 395, vI 2, vR 395, vR 395]) rfl ?_
        refine gs_395_17 rfl A29 ?_
        refine hg_run 2 (pc' := 55) (ls' := [some (vr 395)]) (st' := [vI 0, vI 0, vI (hI v29.2 395 17), vI 2, vR 395, vR 395]) rfl ?_
        obtain ⟨v31, e31, e⟩ := ob e
        refine hg_cI (as := [vR 395, vI 2, vI (hI v29.2 395 17), vI 0, vI 0]) (st' := [vR 395]) rfl (fun _ _ _ _ => rfl) rfl rfl (Nat.le_of_ble_eq_true rfl) (Nat.le_of_ble_eq_true rfl) (recvV A29 (a := 13) (Abs_ks A29 (i := 23) rfl).1) (t218 (by omega) A29 (rgn 2 rfl) (Abs_rg A29 395 17) (rgn 0 rfl) (rgn 0 rfl) e31) (fun w31 r31 A31 => ?_)
        obtain ⟨h32, e32, e⟩ := ob e
        refine ps_395_19 rfl A31 r31 e32 (fun w32 A32 => ?_)
        refine hg_run 1 (pc' := 62) (ls' := [some (vr 395)]) (st' := [vI 1]) rfl ?_
        cases e
        exact hg_retI rfl (by decide) (fit_B (.inr rfl)) (kr _ _ rfl _ (rgn 1 rfl) A32)
    · refine hg_icT (tgt := 63) rfl (by decide) (Abs_rg A 395 3) (rgn 2 rfl) (show ¬ ((hI h 395 3) = 2) from q2) ?_
      refine hg_run 1 (pc' := 64) (ls' := [some (vr 395)]) (st' := [vR 395]) rfl ?_
      refine gs_395_3 rfl A ?_
      refine hg_run 1 (pc' := 69) (ls' := [some (vr 395)]) (st' := [vI 114, vI (hI h 395 3)]) rfl ?_
      rcases oi e with ⟨q3, e⟩ | ⟨q3, e⟩
      · refine hg_icT (tgt := 81) rfl (by decide) (Abs_rg A 395 3) (rgn 114 rfl) q3 ?_
        exact t217_j81 hcall hd  A e kr
      · refine hg_icF (tgt := 81) rfl (by decide) (Abs_rg A 395 3) (rgn 114 rfl) q3 ?_
        refine hg_run 1 (pc' := 73) (ls' := [some (vr 395)]) (st' := [vR 395]) rfl ?_
        refine gs_395_3 rfl A ?_
        refine hg_run 1 (pc' := 78) (ls' := [some (vr 395)]) (st' := [vI 115, vI (hI h 395 3)]) rfl ?_
        rcases oi e with ⟨q8, e⟩ | ⟨q8, e⟩
        · refine hg_icF (tgt := 112) rfl (by decide) (Abs_rg A 395 3) (rgn 115 rfl) (show ¬ ¬ ((hI h 395 3) = 115) from fun f => f q8) ?_
          exact t217_j81 hcall hd  A e kr
        · refine hg_icT (tgt := 112) rfl (by decide) (Abs_rg A 395 3) (rgn 115 rfl) (show ¬ ((hI h 395 3) = 115) from q8) ?_
          refine hg_run 2 (pc' := 115) (ls' := [some (vr 395)]) (st' := [vI 45, vR 395]) rfl ?_
          obtain ⟨v9, e9, e⟩ := ob e
          refine hg_cIp (as := [vR 395, vI 45]) (st' := []) rfl (fun _ _ _ _ => rfl) rfl rfl (Nat.le_of_ble_eq_true rfl) (Nat.le_of_ble_eq_true rfl) (recvV A (a := 13) (Abs_ks A (i := 23) rfl).1) (t203 (by omega) A (rgn 45 rfl) e9) (fun r9 => ?_)
          rcases oi e with ⟨q10, e⟩ | ⟨q10, e⟩
          · refine hg_ifT (tgt := 164) rfl (by decide) r9 q10 ?_
            refine hg_run 2 (pc' := 167) (ls' := [some (vr 395)]) (st' := [vI 40, vR 395]) rfl ?_
            obtain ⟨v11, e11, e⟩ := ob e
            refine hg_cIp (as := [vR 395, vI 40]) (st' := []) rfl (fun _ _ _ _ => rfl) rfl rfl (Nat.le_of_ble_eq_true rfl) (Nat.le_of_ble_eq_true rfl) (recvV A (a := 13) (Abs_ks A (i := 23) rfl).1) (t203 (by omega) A (rgn 40 rfl) e11) (fun r11 => ?_)
            rcases oi e with ⟨q12, e⟩ | ⟨q12, e⟩
            · refine hg_ifF (tgt := 179) rfl (by decide) r11 (show ¬ ¬ (v11 = 0) from fun f => f q12) ?_
              refine hg_run 2 (pc' := 175) (ls' := [some (vr 395)]) (st' := [vI 1, vR 395]) rfl ?_
              obtain ⟨v20, e20, e⟩ := ob e
              refine hg_cI (as := [vR 395, vI 1]) (st' := []) rfl (fun _ _ _ _ => rfl) rfl rfl (Nat.le_of_ble_eq_true rfl) (Nat.le_of_ble_eq_true rfl) (recvV A (a := 13) (Abs_ks A (i := 23) rfl).1) (t194 (by omega) A (rgn 1 rfl) e20) (fun w20 r20 A20 => ?_)
              obtain ⟨u21, e21, e⟩ := ob e
              cases e
              exact hg_retI rfl (by decide) (fit_B (kB_e e21)) (kr _ _ rfl _ r20 A20)
            · refine hg_ifT (tgt := 179) rfl (by decide) r11 (show ¬ (v11 = 0) from q12) ?_
              refine hg_run 1 (pc' := 180) (ls' := [some (vr 395)]) (st' := [vR 395]) rfl ?_
              obtain ⟨v13, e13, e⟩ := ob e
              refine hg_cI (as := [vR 395]) (st' := []) rfl (fun _ _ _ _ => rfl) rfl rfl (Nat.le_of_ble_eq_true rfl) (Nat.le_of_ble_eq_true rfl) (recvV A (a := 13) (Abs_ks A (i := 23) rfl).1) (t213 (by omega) A  e13) (fun w13 r13 A13 => ?_)
              rcases oi e with ⟨q14, e⟩ | ⟨q14, e⟩
              · refine hg_ifT (tgt := 202) rfl (by decide) r13 q14 ?_
                refine hg_run 1 (pc' := 203) (ls' := [some (vr 395)]) (st' := [vI 0]) rfl ?_
                cases e
                exact hg_retI rfl (by decide) (fit_B (.inl rfl)) (kr _ _ rfl _ (rgn 0 rfl) A13)
              · refine hg_ifF (tgt := 202) rfl (by decide) r13 q14 ?_
                refine hg_run 1 (pc' := 187) (ls' := [some (vr 395)]) (st' := [vR 395]) rfl ?_
                obtain ⟨v15, e15, e⟩ := ob e
                refine hg_cI (as := [vR 395]) (st' := []) rfl (fun _ _ _ _ => rfl) rfl rfl (Nat.le_of_ble_eq_true rfl) (Nat.le_of_ble_eq_true rfl) (recvV A13 (a := 13) (Abs_ks A13 (i := 23) rfl).1) (hcall 214 _ _ _ _ A13 rgl0 e15) (fun w15 r15 A15 => ?_)
                rcases oi e with ⟨q16, e⟩ | ⟨q16, e⟩
                · refine hg_ifT (tgt := 202) rfl (by decide) r15 q16 ?_
                  refine hg_run 1 (pc' := 203) (ls' := [some (vr 395)]) (st' := [vI 0]) rfl ?_
                  cases e
                  exact hg_retI rfl (by decide) (fit_B (.inl rfl)) (kr _ _ rfl _ (rgn 0 rfl) A15)
                · refine hg_ifF (tgt := 202) rfl (by decide) r15 q16 ?_
                  refine hg_run 2 (pc' := 196) (ls' := [some (vr 395)]) (st' := [vI 41, vR 395]) rfl ?_
                  obtain ⟨v17, e17, e⟩ := ob e
                  refine hg_cI (as := [vR 395, vI 41]) (st' := []) rfl (fun _ _ _ _ => rfl) rfl rfl (Nat.le_of_ble_eq_true rfl) (Nat.le_of_ble_eq_true rfl) (recvV A15 (a := 13) (Abs_ks A15 (i := 23) rfl).1) (t202 (by omega) A15 (rgn 41 rfl) e17) (fun w17 r17 A17 => ?_)
                  rcases oi e with ⟨q18, e⟩ | ⟨q18, e⟩
                  · refine hg_ifF (tgt := 204) rfl (by decide) r17 (show ¬ ¬ (v17.1 = 0) from fun f => f q18) ?_
                    refine hg_run 1 (pc' := 203) (ls' := [some (vr 395)]) (st' := [vI 0]) rfl ?_
                    cases e
                    exact hg_retI rfl (by decide) (fit_B (.inl rfl)) (kr _ _ rfl _ (rgn 0 rfl) A17)
                  · refine hg_ifT (tgt := 204) rfl (by decide) r17 (show ¬ (v17.1 = 0) from q18) ?_
                    refine hg_run 2 (pc' := 206) (ls' := [some (vr 395)]) (st' := [vR 395, vR 395]) rfl ?_
                    refine gs_395_18 rfl A17 ?_
                    refine hg_run 2 (pc' := 211) (ls' := [some (vr 395)]) (st' := [vI (wsub (hI v17.2 395 18) 1), vR 395]) rfl ?_
                    obtain ⟨h19, e19, e⟩ := ob e
                    refine ps_395_18 rfl A17 (rg_sub _ _) e19 (fun w19 A19 => ?_)
                    refine hg_run 1 (pc' := 215) (ls' := [some (vr 395)]) (st' := [vI 1]) rfl ?_
                    cases e
                    exact hg_retI rfl (by decide) (fit_B (.inr rfl)) (kr _ _ rfl _ (rgn 1 rfl) A19)
          · refine hg_ifF (tgt := 164) rfl (by decide) r9 q10 ?_
            refine hg_run 1 (pc' := 122) (ls' := [some (vr 395)]) (st' := [vR 395]) rfl ?_
            obtain ⟨v22, e22, e⟩ := ob e
            refine hg_cI (as := [vR 395]) (st' := []) rfl (fun _ _ _ _ => rfl) rfl rfl (Nat.le_of_ble_eq_true rfl) (Nat.le_of_ble_eq_true rfl) (recvV A (a := 13) (Abs_ks A (i := 23) rfl).1) (t213 (by omega) A  e22) (fun w22 r22 A22 => ?_)
            rcases oi e with ⟨q23, e⟩ | ⟨q23, e⟩
            · refine hg_ifT (tgt := 135) rfl (by decide) r22 q23 ?_
              refine hg_run 1 (pc' := 136) (ls' := [some (vr 395)]) (st' := [vI 0]) rfl ?_
              cases e
              exact hg_retI rfl (by decide) (fit_B (.inl rfl)) (kr _ _ rfl _ (rgn 0 rfl) A22)
            · refine hg_ifF (tgt := 135) rfl (by decide) r22 q23 ?_
              refine hg_run 1 (pc' := 129) (ls' := [some (vr 395)]) (st' := [vR 395]) rfl ?_
              obtain ⟨v24, e24, e⟩ := ob e
              refine hg_cI (as := [vR 395]) (st' := []) rfl (fun _ _ _ _ => rfl) rfl rfl (Nat.le_of_ble_eq_true rfl) (Nat.le_of_ble_eq_true rfl) (recvV A22 (a := 13) (Abs_ks A22 (i := 23) rfl).1) (hcall 217 _ _ _ _ A22 rgl0 e24) (fun w24 r24 A24 => ?_)
              rcases oi e with ⟨q25, e⟩ | ⟨q25, e⟩
              · refine hg_ifF (tgt := 137) rfl (by decide) r24 (show ¬ ¬ (v24.1 = 0) from fun f => f q25) ?_
                refine hg_run 1 (pc' := 136) (ls' := [some (vr 395)]) (st' := [vI 0]) rfl ?_
                cases e
                exact hg_retI rfl (by decide) (fit_B (.inl rfl)) (kr _ _ rfl _ (rgn 0 rfl) A24)
              · refine hg_ifT (tgt := 137) rfl (by decide) r24 (show ¬ (v24.1 = 0) from q25) ?_
                refine hg_run 2 (pc' := 139) (ls' := [some (vr 395)]) (st' := [vR 395, vR 395]) rfl ?_
                refine gs_395_18 rfl A24 ?_
                refine hg_run 2 (pc' := 144) (ls' := [some (vr 395)]) (st' := [vI (wsub (hI v24.2 395 18) 1), vR 395]) rfl ?_
                obtain ⟨h26, e26, e⟩ := ob e
                refine ps_395_18 rfl A24 (rg_sub _ _) e26 (fun w26 A26 => ?_)
                refine hg_run 4 (pc' := 151) (ls' := [some (vr 395)]) (st' := [vR 395, vI 5, vR 395, vR 395]) rfl ?_
                refine gs_395_19 rfl A26 ?_
                refine hg_run 2 (pc' := 156) (ls' := [some (vr 395)]) (st' := [vI 0, vI 0, vI (hI h26 395 19), vI 5, vR 395, vR 395]) rfl ?_
                obtain ⟨v27, e27, e⟩ := ob e
                refine hg_cI (as := [vR 395, vI 5, vI (hI h26 395 19), vI 0, vI 0]) (st' := [vR 395]) rfl (fun _ _ _ _ => rfl) rfl rfl (Nat.le_of_ble_eq_true rfl) (Nat.le_of_ble_eq_true rfl) (recvV A26 (a := 13) (Abs_ks A26 (i := 23) rfl).1) (t218 (by omega) A26 (rgn 5 rfl) (Abs_rg A26 395 19) (rgn 0 rfl) (rgn 0 rfl) e27) (fun w27 r27 A27 => ?_)
                obtain ⟨h28, e28, e⟩ := ob e
                refine ps_395_19 rfl A27 r27 e28 (fun w28 A28 => ?_)
                refine hg_run 1 (pc' := 163) (ls' := [some (vr 395)]) (st' := [vI 1]) rfl ?_
                cases e
                exact hg_retI rfl (by decide) (fit_B (.inr rfl)) (kr _ _ rfl _ (rgn 1 rfl) A28)
def g214 : Nat → Nat → List Int → hS → Option (Int × hS)
  | 0, _, _, _ => none
  | f + 1, 214, [], h => c214 (g214 f)  h
  | f + 1, 215, [], h => c215 (g214 f)  h
  | f + 1, 216, [], h => c216 (g214 f)  h
  | f + 1, 217, [], h => c217 (g214 f)  h
  | _ + 1, _, _, _ => none
theorem u214 : ∀ (f : Nat) {d : Nat} (hd : 5 + f ≤ d) (k : Nat) (as : List Int) (h : hS) (w : mmW) (o : Int × hS), Abs h w → (∀ a ∈ as, rg a) → g214 f k as h = some o → hEv d k (vR 395 :: as.map vI) w (qI o)
  | 0, d, hd, k, as, h, w, o, A, hr, e => by unfold g214 at e; cases e
  | f + 1, d, hd, k, as, h, w, o, A, hr, e => by
    obtain ⟨d, rfl⟩ : ∃ d1, d = d1 + 1 := ⟨d - 1, by omega⟩
    unfold g214 at e
    split at e
    · rename_i q; cases q
    · rename_i q; cases q; exact t214 (u214 f (by omega)) (by omega) A  e
    · rename_i q; cases q; exact t215 (u214 f (by omega)) (by omega) A  e
    · rename_i q; cases q; exact t216 (u214 f (by omega)) (by omega) A  e
    · rename_i q; cases q; exact t217 (u214 f (by omega)) (by omega) A  e
    · cases e
