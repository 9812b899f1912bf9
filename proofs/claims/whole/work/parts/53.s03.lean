/-! read as functions: laid by wip/whole/shallow.py -/
def c119 (l0 : Nat) (h : hS) : Option (Int × hS) :=
  (gR h l0 12 3).bind (fun v1 =>
  (hnul v1).bind (fun b2 =>
  if b2 = true then
  some (0, h)
  else
  (gI h l0 12 4).bind (fun v3 =>
  if v3 < 0 then
  some (0, h)
  else
  (gI h l0 12 4).bind (fun v5 =>
  (gR h l0 12 3).bind (fun v6 =>
  (lA h v6 1).bind (fun v7 =>
  if v5 < v7 then
  (gI h l0 12 4).bind (fun v9 =>
  (pI h l0 12 4 (wadd v9 1)).bind (fun h10 =>
  (gR h10 l0 12 3).bind (fun v11 =>
  (gI h10 l0 12 4).bind (fun v12 =>
  (aI h10 v11 1 (wsub v12 1)).bind (fun v13 =>
  some (v13, h10))))))
  else
  some (0, h)))))))
theorem t119 {d : Nat} (hd : 1 ≤ d) {l0 : Nat} {h : hS} {w : mmW} {o : Int × hS} (A : Abs h w)  (e : c119 l0 h = some o) : hEv d 119 [vR l0] w (qI o) := by
  obtain ⟨d, rfl⟩ : ∃ d1, d = d1 + 1 := ⟨d - 1, by omega⟩
  have hd : 0 ≤ d := by omega
  refine hEv_start (args := [vr l0]) (nl := 1) rfl (Nat.le_of_ble_eq_true rfl) ?_
  show hG d 119 0 [some (vr l0)] [] w _
  have kr : ∀ (v1 : Int) (h1 : hS), o = (v1, h1) → ∀ w', rg v1 → Abs h1 w' → qI o (some (.int (Int32.ofInt v1)), w') := fun v1 h1 q w' r A' => by cases q; exact ⟨rfl, r, A'⟩
  unfold c119 at e
  refine hg_run 1 (pc' := 1) (ls' := [some (vr l0)]) (st' := [vR l0]) rfl ?_
  obtain ⟨v1, e1, e⟩ := ob e
  refine gd_5_3 rfl A e1 ?_
  obtain ⟨b2, e2, e⟩ := ob e
  rcases oi e with ⟨q2, e⟩ | ⟨q2, e⟩
  · refine hg_nul (yes := true) (tgt := 26) (t2 := 26) rfl (fun _ _ _ _ => rfl) (by decide) (ebT e2 q2) rfl ?_
    refine hg_run 1 (pc' := 27) (ls' := [some (vr l0)]) (st' := [vI 0]) rfl ?_
    cases e
    exact hg_retI rfl (by decide) (fit_I _) (kr _ _ rfl _ (rgn 0 rfl) A)
  · refine hg_nul (yes := true) (tgt := 26) (t2 := 7) rfl (fun _ _ _ _ => rfl) (by decide) (ebF e2 q2) rfl ?_
    refine hg_run 1 (pc' := 8) (ls' := [some (vr l0)]) (st' := [vR l0]) rfl ?_
    obtain ⟨v3, e3, e⟩ := ob e
    refine gd_5_4 rfl A e3 (fun r3 => ?_)
    rcases oi e with ⟨q4, e⟩ | ⟨q4, e⟩
    · refine hg_ifT (tgt := 26) rfl (by decide) r3 q4 ?_
      refine hg_run 1 (pc' := 27) (ls' := [some (vr l0)]) (st' := [vI 0]) rfl ?_
      cases e
      exact hg_retI rfl (by decide) (fit_I _) (kr _ _ rfl _ (rgn 0 rfl) A)
    · refine hg_ifF (tgt := 26) rfl (by decide) r3 q4 ?_
      refine hg_run 1 (pc' := 15) (ls' := [some (vr l0)]) (st' := [vR l0]) rfl ?_
      obtain ⟨v5, e5, e⟩ := ob e
      refine gd_5_4 rfl A e5 (fun r5 => ?_)
      refine hg_run 1 (pc' := 19) (ls' := [some (vr l0)]) (st' := [vR l0, vI v5]) rfl ?_
      obtain ⟨v6, e6, e⟩ := ob e
      refine gd_5_3 rfl A e6 ?_
      obtain ⟨v7, e7, e⟩ := ob e
      refine hg_len (t := 0) rfl A (lA_e e7).1 (lA_e e7).2 (fun r7 => ?_)
      rcases oi e with ⟨q8, e⟩ | ⟨q8, e⟩
      · refine hg_icT (tgt := 28) rfl (by decide) r5 r7 q8 ?_
        refine hg_run 2 (pc' := 30) (ls' := [some (vr l0)]) (st' := [vR l0, vR l0]) rfl ?_
        obtain ⟨v9, e9, e⟩ := ob e
        refine gd_5_4 rfl A e9 (fun r9 => ?_)
        refine hg_run 2 (pc' := 35) (ls' := [some (vr l0)]) (st' := [vI (wadd v9 1), vR l0]) rfl ?_
        obtain ⟨h10, e10, e⟩ := ob e
        refine pd_5_4 rfl A (rg_add _ _) e10 (fun w10 A10 => ?_)
        refine hg_run 1 (pc' := 39) (ls' := [some (vr l0)]) (st' := [vR l0]) rfl ?_
        obtain ⟨v11, e11, e⟩ := ob e
        refine gd_5_3 rfl A10 e11 ?_
        refine hg_run 1 (pc' := 43) (ls' := [some (vr l0)]) (st' := [vR l0, vR v11]) rfl ?_
        obtain ⟨v12, e12, e⟩ := ob e
        refine gd_5_4 rfl A10 e12 (fun r12 => ?_)
        refine hg_run 2 (pc' := 48) (ls' := [some (vr l0)]) (st' := [vI (wsub v12 1), vR v11]) rfl ?_
        obtain ⟨v13, e13, e⟩ := ob e
        refine hg_aId 0 rfl (fun _ _ _ _ => rfl) A10 rfl (by decide) e13 (fun r13 => ?_)
        cases e
        exact hg_retI rfl (by decide) (fit_I _) (kr _ _ rfl _ r13 A10)
      · refine hg_icF (tgt := 28) rfl (by decide) r5 r7 q8 ?_
        refine hg_run 1 (pc' := 27) (ls' := [some (vr l0)]) (st' := [vI 0]) rfl ?_
        cases e
        exact hg_retI rfl (by decide) (fit_I _) (kr _ _ rfl _ (rgn 0 rfl) A)
def c121 (l1 : Int) (h : hS) : Option (hS) :=
  if 64 ≤ (hI h 22 5) then
  some h
  else
  (wIs h 25 64 (hI h 22 5) l1).bind (fun h3 =>
  (some (sI h3 22 5 (wadd (hI h3 22 5) 1))).bind (fun h4 =>
  some h4))
theorem t121 {d : Nat} (hd : 1 ≤ d) {l1 : Int} {h : hS} {w : mmW} {o : hS} (A : Abs h w) (rl1 : rg l1) (e : c121 l1 h = some o) : hEv d 121 [vR 22, vI l1] w (qV o) := by
  obtain ⟨d, rfl⟩ : ∃ d1, d = d1 + 1 := ⟨d - 1, by omega⟩
  have hd : 0 ≤ d := by omega
  refine hEv_start (args := [vr 22, vi l1]) (nl := 2) rfl (Nat.le_of_ble_eq_true rfl) ?_
  show hG d 121 0 [some (vr 22), some (vi l1)] [] w _
  have kr : ∀ h1 : hS, o = h1 → ∀ w', Abs h1 w' → qV o (none, w') := fun h1 q w' A' => by cases q; exact ⟨rfl, A'⟩
  unfold c121 at e
  refine hg_run 1 (pc' := 1) (ls' := [some (vr 22), some (vi l1)]) (st' := [vR 22]) rfl ?_
  refine gs_22_5 rfl A ?_
  refine hg_run 1 (pc' := 5) (ls' := [some (vr 22), some (vi l1)]) (st' := [vR 22, vI (hI h 22 5)]) rfl ?_
  refine gs_22_4 rfl A ?_
  refine hg_len (t := 0) (v := 64) rfl A (Abs_ks A (i := 16) rfl).1 (by rw [(Abs_ks A (i := 16) rfl).2]; rfl) (fun _ => ?_)
  rcases oi e with ⟨q2, e⟩ | ⟨q2, e⟩
  · refine hg_icT (tgt := 32) rfl (by decide) (Abs_rg A 22 5) (rgn 64 rfl) q2 ?_
    cases e
    exact hg_retV rfl (kr _ rfl _ A)
  · refine hg_icF (tgt := 32) rfl (by decide) (Abs_rg A 22 5) (rgn 64 rfl) q2 ?_
    refine hg_run 1 (pc' := 13) (ls' := [some (vr 22), some (vi l1)]) (st' := [vR 22]) rfl ?_
    refine gs_22_4 rfl A ?_
    refine hg_run 1 (pc' := 17) (ls' := [some (vr 22), some (vi l1)]) (st' := [vR 22, vR 25]) rfl ?_
    refine gs_22_5 rfl A ?_
    refine hg_run 1 (pc' := 21) (ls' := [some (vr 22), some (vi l1)]) (st' := [vI l1, vI (hI h 22 5), vR 25]) rfl ?_
    obtain ⟨h3, e3, e⟩ := ob e
    refine hg_wIs rfl A (Abs_ks A (i := 16) rfl) (by decide) rl1 e3 (fun w3 A3 => ?_)
    refine hg_run 2 (pc' := 24) (ls' := [some (vr 22), some (vi l1)]) (st' := [vR 22, vR 22]) rfl ?_
    refine gs_22_5 rfl A3 ?_
    refine hg_run 2 (pc' := 29) (ls' := [some (vr 22), some (vi l1)]) (st' := [vI (wadd (hI h3 22 5) 1), vR 22]) rfl ?_
    obtain ⟨h4, e4, e⟩ := ob e
    refine ps_22_5 rfl A3 (rg_add _ _) e4 (fun w4 A4 => ?_)
    cases e
    exact hg_retV rfl (kr _ rfl _ A4)
def c123 (l1 : Int) (h : hS) : Option (hS) :=
  (some (sI h 22 9 l1)).bind (fun h1 =>
  (some (sI h1 22 7 1)).bind (fun h2 =>
  some h2))
theorem t123 {d : Nat} (hd : 1 ≤ d) {l1 : Int} {h : hS} {w : mmW} {o : hS} (A : Abs h w) (rl1 : rg l1) (e : c123 l1 h = some o) : hEv d 123 [vR 22, vI l1] w (qV o) := by
  obtain ⟨d, rfl⟩ : ∃ d1, d = d1 + 1 := ⟨d - 1, by omega⟩
  have hd : 0 ≤ d := by omega
  refine hEv_start (args := [vr 22, vi l1]) (nl := 2) rfl (Nat.le_of_ble_eq_true rfl) ?_
  show hG d 123 0 [some (vr 22), some (vi l1)] [] w _
  have kr : ∀ h1 : hS, o = h1 → ∀ w', Abs h1 w' → qV o (none, w') := fun h1 q w' A' => by cases q; exact ⟨rfl, A'⟩
  unfold c123 at e
  refine hg_run 2 (pc' := 2) (ls' := [some (vr 22), some (vi l1)]) (st' := [vI l1, vR 22]) rfl ?_
  obtain ⟨h1, e1, e⟩ := ob e
  refine ps_22_9 rfl A rl1 e1 (fun w1 A1 => ?_)
  refine hg_run 2 (pc' := 7) (ls' := [some (vr 22), some (vi l1)]) (st' := [vI 1, vR 22]) rfl ?_
  obtain ⟨h2, e2, e⟩ := ob e
  refine ps_22_7 rfl A1 (rgn 1 rfl) e2 (fun w2 A2 => ?_)
  cases e
  exact hg_retV rfl (kr _ rfl _ A2)
def c122_j86 (h : hS) : Option (hS) :=
  (c123 1001 h).bind (fun h10 =>
  some h10)
theorem t122_j86 {d : Nat} (hd : 1 ≤ d)  {z1 : Option hO} {z2 : Option hO} {z3 : Option hO} {z4 : Option hO} {h : hS} {w : mmW} {o : hS} {Q : mmO → Prop}  (A : Abs h w) (e : c122_j86 h = some o) (kr : ∀ h1 : hS, o = h1 → ∀ w', Abs h1 w' → Q (none, w')) : hG d 122 86 [some (vr 22), z1, z2, z3, z4] [] w Q := by
  unfold c122_j86 at e
  refine hg_run 2 (pc' := 90) (ls' := [some (vr 22), z1, z2, z3, z4]) (st' := [vI 1001, vR 22]) rfl ?_
  obtain ⟨h10, e10, e⟩ := ob e
  refine hg_cV (as := [vR 22, vI 1001]) (st' := []) rfl (fun _ _ _ _ => rfl) rfl rfl (Nat.le_of_ble_eq_true rfl) (Nat.le_of_ble_eq_true rfl) (recvV A (a := 4) (Abs_ks A (i := 13) rfl).1) (t123 (by omega) A (rgn 1001 rfl) e10) (fun w10 A10 => ?_)
  cases e
  exact hg_retV rfl (kr _ rfl _ A10)
def c122 (l1 : Nat) (l2 : Int) (h : hS) : Option (hS) :=
  (gR h l1 16 2).bind (fun v1 =>
  (kT h v1 24).bind (fun u3 =>
  (c111 v1 l2 h).bind (fun v2 =>
  (kT h v1 24).bind (fun u5 =>
  (c106 v1 l2 h).bind (fun v4 =>
  if v4 = 0 then
  (hnul v2).bind (fun b7 =>
  if b7 = true then
  (c108 l2 h).bind (fun v8 =>
  if v8 = 0 then
  c122_j86 h
  else
  (gR h l1 16 4).bind (fun v11 =>
  (aI h v11 3 l2).bind (fun v12 =>
  if v12 = 0 then
  c122_j86 h
  else
  (gR h l1 16 5).bind (fun v14 =>
  (aI h v14 1 l2).bind (fun v15 =>
  (c121 v15 h).bind (fun h16 =>
  some h16))))))
  else
  (gR h v2 24 10).bind (fun v17 =>
  (gR h v1 24 16).bind (fun v18 =>
  (aI h v18 1 l2).bind (fun v19 =>
  (aI h v17 1 v19).bind (fun v20 =>
  (c121 v20 h).bind (fun h21 =>
  some h21))))))
  else
  (gR h l1 16 3).bind (fun v22 =>
  (aI h v22 1 l2).bind (fun v23 =>
  (c121 v23 h).bind (fun h24 =>
  some h24))))))))
theorem t122 {d : Nat} (hd : 2 ≤ d) {l1 : Nat} {l2 : Int} {h : hS} {w : mmW} {o : hS} (A : Abs h w) (rl2 : rg l2) (e : c122 l1 l2 h = some o) : hEv d 122 [vR 22, vR l1, vI l2] w (qV o) := by
  obtain ⟨d, rfl⟩ : ∃ d1, d = d1 + 1 := ⟨d - 1, by omega⟩
  have hd : 1 ≤ d := by omega
  refine hEv_start (args := [vr 22, vr l1, vi l2]) (nl := 5) rfl (Nat.le_of_ble_eq_true rfl) ?_
  show hG d 122 0 [some (vr 22), some (vr l1), some (vi l2), none, none] [] w _
  have kr : ∀ h1 : hS, o = h1 → ∀ w', Abs h1 w' → qV o (none, w') := fun h1 q w' A' => by cases q; exact ⟨rfl, A'⟩
  unfold c122 at e
  refine hg_run 1 (pc' := 1) (ls' := [some (vr 22), some (vr l1), some (vi l2), none, none]) (st' := [vR l1]) rfl ?_
  obtain ⟨v1, e1, e⟩ := ob e
  refine gd_7_2 rfl A e1 ?_
  refine hg_run 3 (pc' := 7) (ls' := [some (vr 22), some (vr l1), some (vi l2), some (vr v1), none]) (st' := [vI l2, vR v1]) rfl ?_
  obtain ⟨u3, e3, e⟩ := ob e
  obtain ⟨v2, e2, e⟩ := ob e
  refine hg_cRp (as := [vR v1, vI l2]) (st' := []) rfl (fun _ _ _ _ => rfl) rfl rfl (Nat.le_of_ble_eq_true rfl) (Nat.le_of_ble_eq_true rfl) (recvV A (a := 11) (kT_e e3)) (t111 (by omega) A rl2 e2) ?_
  refine hg_run 3 (pc' := 14) (ls' := [some (vr 22), some (vr l1), some (vi l2), some (vr v1), some (vr v2)]) (st' := [vI l2, vR v1]) rfl ?_
  obtain ⟨u5, e5, e⟩ := ob e
  obtain ⟨v4, e4, e⟩ := ob e
  refine hg_cIp (as := [vR v1, vI l2]) (st' := []) rfl (fun _ _ _ _ => rfl) rfl rfl (Nat.le_of_ble_eq_true rfl) (Nat.le_of_ble_eq_true rfl) (recvV A (a := 11) (kT_e e5)) (t106 (by omega) A rl2 e4) (fun r4 => ?_)
  rcases oi e with ⟨q6, e⟩ | ⟨q6, e⟩
  · refine hg_ifT (tgt := 33) rfl (by decide) r4 q6 ?_
    refine hg_run 1 (pc' := 35) (ls' := [some (vr 22), some (vr l1), some (vi l2), some (vr v1), some (vr v2)]) (st' := [vR v2]) rfl ?_
    obtain ⟨b7, e7, e⟩ := ob e
    rcases oi e with ⟨q7, e⟩ | ⟨q7, e⟩
    · refine hg_nul (yes := true) (tgt := 57) (t2 := 57) rfl (fun _ _ _ _ => rfl) (by decide) (ebT e7 q7) rfl ?_
      refine hg_run 1 (pc' := 58) (ls' := [some (vr 22), some (vr l1), some (vi l2), some (vr v1), some (vr v2)]) (st' := [vI l2]) rfl ?_
      obtain ⟨v8, e8, e⟩ := ob e
      refine hg_cIp (as := [vI l2]) (st' := []) rfl (fun _ _ _ _ => rfl) rfl rfl (Nat.le_of_ble_eq_true rfl) (Nat.le_of_ble_eq_true rfl) recv0 (t108 (by omega) A rl2 e8) (fun r8 => ?_)
      rcases oi e with ⟨q9, e⟩ | ⟨q9, e⟩
      · refine hg_ifT (tgt := 86) rfl (by decide) r8 q9 ?_
        exact t122_j86 hd  A e kr
      · refine hg_ifF (tgt := 86) rfl (by decide) r8 q9 ?_
        refine hg_run 1 (pc' := 65) (ls' := [some (vr 22), some (vr l1), some (vi l2), some (vr v1), some (vr v2)]) (st' := [vR l1]) rfl ?_
        obtain ⟨v11, e11, e⟩ := ob e
        refine gd_7_4 rfl A e11 ?_
        refine hg_run 1 (pc' := 69) (ls' := [some (vr 22), some (vr l1), some (vi l2), some (vr v1), some (vr v2)]) (st' := [vI l2, vR v11]) rfl ?_
        obtain ⟨v12, e12, e⟩ := ob e
        refine hg_aId 1 rfl (fun _ _ _ _ => rfl) A rfl (by decide) e12 (fun r12 => ?_)
        rcases oi e with ⟨q13, e⟩ | ⟨q13, e⟩
        · refine hg_ifT (tgt := 86) rfl (by decide) r12 q13 ?_
          exact t122_j86 hd  A e kr
        · refine hg_ifF (tgt := 86) rfl (by decide) r12 q13 ?_
          refine hg_run 2 (pc' := 75) (ls' := [some (vr 22), some (vr l1), some (vi l2), some (vr v1), some (vr v2)]) (st' := [vR l1, vR 22]) rfl ?_
          obtain ⟨v14, e14, e⟩ := ob e
          refine gd_7_5 rfl A e14 ?_
          refine hg_run 1 (pc' := 79) (ls' := [some (vr 22), some (vr l1), some (vi l2), some (vr v1), some (vr v2)]) (st' := [vI l2, vR v14, vR 22]) rfl ?_
          obtain ⟨v15, e15, e⟩ := ob e
          refine hg_aId 0 rfl (fun _ _ _ _ => rfl) A rfl (by decide) e15 (fun r15 => ?_)
          obtain ⟨h16, e16, e⟩ := ob e
          refine hg_cV (as := [vR 22, vI v15]) (st' := []) rfl (fun _ _ _ _ => rfl) rfl rfl (Nat.le_of_ble_eq_true rfl) (Nat.le_of_ble_eq_true rfl) (recvV A (a := 4) (Abs_ks A (i := 13) rfl).1) (t121 (by omega) A r15 e16) (fun w16 A16 => ?_)
          refine hg_run 1 (pc' := 93) (ls' := [some (vr 22), some (vr l1), some (vi l2), some (vr v1), some (vr v2)]) (st' := []) rfl ?_
          cases e
          exact hg_retV rfl (kr _ rfl _ A16)
    · refine hg_nul (yes := true) (tgt := 57) (t2 := 38) rfl (fun _ _ _ _ => rfl) (by decide) (ebF e7 q7) rfl ?_
      refine hg_run 2 (pc' := 41) (ls' := [some (vr 22), some (vr l1), some (vi l2), some (vr v1), some (vr v2)]) (st' := [vR v2, vR 22]) rfl ?_
      obtain ⟨v17, e17, e⟩ := ob e
      refine gd_11_10 rfl A e17 ?_
      refine hg_run 1 (pc' := 45) (ls' := [some (vr 22), some (vr l1), some (vi l2), some (vr v1), some (vr v2)]) (st' := [vR v1, vR v17, vR 22]) rfl ?_
      obtain ⟨v18, e18, e⟩ := ob e
      refine gd_11_16 rfl A e18 ?_
      refine hg_run 1 (pc' := 49) (ls' := [some (vr 22), some (vr l1), some (vi l2), some (vr v1), some (vr v2)]) (st' := [vI l2, vR v18, vR v17, vR 22]) rfl ?_
      obtain ⟨v19, e19, e⟩ := ob e
      refine hg_aId 0 rfl (fun _ _ _ _ => rfl) A rfl (by decide) e19 (fun r19 => ?_)
      obtain ⟨v20, e20, e⟩ := ob e
      refine hg_aId 0 rfl (fun _ _ _ _ => rfl) A rfl (by decide) e20 (fun r20 => ?_)
      obtain ⟨h21, e21, e⟩ := ob e
      refine hg_cV (as := [vR 22, vI v20]) (st' := []) rfl (fun _ _ _ _ => rfl) rfl rfl (Nat.le_of_ble_eq_true rfl) (Nat.le_of_ble_eq_true rfl) (recvV A (a := 4) (Abs_ks A (i := 13) rfl).1) (t121 (by omega) A r20 e21) (fun w21 A21 => ?_)
      refine hg_run 1 (pc' := 93) (ls' := [some (vr 22), some (vr l1), some (vi l2), some (vr v1), some (vr v2)]) (st' := []) rfl ?_
      cases e
      exact hg_retV rfl (kr _ rfl _ A21)
  · refine hg_ifF (tgt := 33) rfl (by decide) r4 q6 ?_
    refine hg_run 2 (pc' := 22) (ls' := [some (vr 22), some (vr l1), some (vi l2), some (vr v1), some (vr v2)]) (st' := [vR l1, vR 22]) rfl ?_
    obtain ⟨v22, e22, e⟩ := ob e
    refine gd_7_3 rfl A e22 ?_
    refine hg_run 1 (pc' := 26) (ls' := [some (vr 22), some (vr l1), some (vi l2), some (vr v1), some (vr v2)]) (st' := [vI l2, vR v22, vR 22]) rfl ?_
    obtain ⟨v23, e23, e⟩ := ob e
    refine hg_aId 0 rfl (fun _ _ _ _ => rfl) A rfl (by decide) e23 (fun r23 => ?_)
    obtain ⟨h24, e24, e⟩ := ob e
    refine hg_cV (as := [vR 22, vI v23]) (st' := []) rfl (fun _ _ _ _ => rfl) rfl rfl (Nat.le_of_ble_eq_true rfl) (Nat.le_of_ble_eq_true rfl) (recvV A (a := 4) (Abs_ks A (i := 13) rfl).1) (t121 (by omega) A r23 e24) (fun w24 A24 => ?_)
    refine hg_run 1 (pc' := 93) (ls' := [some (vr 22), some (vr l1), some (vi l2), some (vr v1), some (vr v2)]) (st' := []) rfl ?_
    cases e
    exact hg_retV rfl (kr _ rfl _ A24)
def c124 (h : hS) : Option (Int × hS) :=
  if 0 < (hI h 22 5) then
  (some (sI h 22 5 (wsub (hI h 22 5) 1))).bind (fun h2 =>
  (aIs h2 25 64 (hI h2 22 5)).bind (fun v3 =>
  some (v3, h2)))
  else
  some (0, h)
theorem t124 {d : Nat} (hd : 1 ≤ d)  {h : hS} {w : mmW} {o : Int × hS} (A : Abs h w)  (e : c124 h = some o) : hEv d 124 [vR 22] w (qI o) := by
  obtain ⟨d, rfl⟩ : ∃ d1, d = d1 + 1 := ⟨d - 1, by omega⟩
  have hd : 0 ≤ d := by omega
  refine hEv_start (args := [vr 22]) (nl := 1) rfl (Nat.le_of_ble_eq_true rfl) ?_
  show hG d 124 0 [some (vr 22)] [] w _
  have kr : ∀ (v1 : Int) (h1 : hS), o = (v1, h1) → ∀ w', rg v1 → Abs h1 w' → qI o (some (.int (Int32.ofInt v1)), w') := fun v1 h1 q w' r A' => by cases q; exact ⟨rfl, r, A'⟩
  unfold c124 at e
  refine hg_run 1 (pc' := 1) (ls' := [some (vr 22)]) (st' := [vR 22]) rfl ?_
  refine gs_22_5 rfl A ?_
  rcases oi e with ⟨q1, e⟩ | ⟨q1, e⟩
  · refine hg_ifT (tgt := 9) rfl (by decide) (Abs_rg A 22 5) q1 ?_
    refine hg_run 2 (pc' := 11) (ls' := [some (vr 22)]) (st' := [vR 22, vR 22]) rfl ?_
    refine gs_22_5 rfl A ?_
    refine hg_run 2 (pc' := 16) (ls' := [some (vr 22)]) (st' := [vI (wsub (hI h 22 5) 1), vR 22]) rfl ?_
    obtain ⟨h2, e2, e⟩ := ob e
    refine ps_22_5 rfl A (rg_sub _ _) e2 (fun w2 A2 => ?_)
    refine hg_run 1 (pc' := 20) (ls' := [some (vr 22)]) (st' := [vR 22]) rfl ?_
    refine gs_22_4 rfl A2 ?_
    refine hg_run 1 (pc' := 24) (ls' := [some (vr 22)]) (st' := [vR 22, vR 25]) rfl ?_
    refine gs_22_5 rfl A2 ?_
    obtain ⟨v3, e3, e⟩ := ob e
    refine hg_aIs 0 rfl (fun _ _ _ _ => rfl) A2 (Abs_ks A2 (i := 16) rfl) rfl (by decide) e3 (fun r3 => ?_)
    cases e
    exact hg_retI rfl (by decide) (fit_I _) (kr _ _ rfl _ r3 A2)
  · refine hg_ifF (tgt := 9) rfl (by decide) (Abs_rg A 22 5) q1 ?_
    refine hg_run 1 (pc' := 8) (ls' := [some (vr 22)]) (st' := [vI 0]) rfl ?_
    cases e
    exact hg_retI rfl (by decide) (fit_I _) (kr _ _ rfl _ (rgn 0 rfl) A)
def c125_j81 (h : hS) : Option (hS) :=
  (c123 1001 h).bind (fun h10 =>
  some h10)
theorem t125_j81 {d : Nat} (hd : 1 ≤ d)  {z1 : Option hO} {z2 : Option hO} {z3 : Option hO} {z4 : Option hO} {z5 : Option hO} {h : hS} {w : mmW} {o : hS} {Q : mmO → Prop}  (A : Abs h w) (e : c125_j81 h = some o) (kr : ∀ h1 : hS, o = h1 → ∀ w', Abs h1 w' → Q (none, w')) : hG d 125 81 [some (vr 22), z1, z2, z3, z4, z5] [] w Q := by
  unfold c125_j81 at e
  refine hg_run 2 (pc' := 85) (ls' := [some (vr 22), z1, z2, z3, z4, z5]) (st' := [vI 1001, vR 22]) rfl ?_
  obtain ⟨h10, e10, e⟩ := ob e
  refine hg_cV (as := [vR 22, vI 1001]) (st' := []) rfl (fun _ _ _ _ => rfl) rfl rfl (Nat.le_of_ble_eq_true rfl) (Nat.le_of_ble_eq_true rfl) (recvV A (a := 4) (Abs_ks A (i := 13) rfl).1) (t123 (by omega) A (rgn 1001 rfl) e10) (fun w10 A10 => ?_)
  cases e
  exact hg_retV rfl (kr _ rfl _ A10)
def c125 (l1 : Nat) (l2 : Int) (l3 : Int) (h : hS) : Option (hS) :=
  (gR h l1 16 2).bind (fun v1 =>
  (kT h v1 24).bind (fun u3 =>
  (c111 v1 l2 h).bind (fun v2 =>
  (kT h v1 24).bind (fun u5 =>
  (c106 v1 l2 h).bind (fun v4 =>
  if v4 = 0 then
  (hnul v2).bind (fun b7 =>
  if b7 = true then
  (c108 l2 h).bind (fun v8 =>
  if v8 = 0 then
  c125_j81 h
  else
  (gR h l1 16 4).bind (fun v11 =>
  (aI h v11 3 l2).bind (fun v12 =>
  if v12 = 0 then
  c125_j81 h
  else
  (gR h l1 16 5).bind (fun v14 =>
  (wI h v14 1 l2 l3).bind (fun h15 =>
  some h15)))))
  else
  (gR h v2 24 10).bind (fun v16 =>
  (gR h v1 24 16).bind (fun v17 =>
  (aI h v17 1 l2).bind (fun v18 =>
  (wI h v16 1 v18 l3).bind (fun h19 =>
  some h19)))))
  else
  (gR h l1 16 3).bind (fun v20 =>
  (wI h v20 1 l2 l3).bind (fun h21 =>
  some h21)))))))
theorem t125 {d : Nat} (hd : 2 ≤ d) {l1 : Nat} {l2 : Int} {l3 : Int} {h : hS} {w : mmW} {o : hS} (A : Abs h w) (rl2 : rg l2) (rl3 : rg l3) (e : c125 l1 l2 l3 h = some o) : hEv d 125 [vR 22, vR l1, vI l2, vI l3] w (qV o) := by
  obtain ⟨d, rfl⟩ : ∃ d1, d = d1 + 1 := ⟨d - 1, by omega⟩
  have hd : 1 ≤ d := by omega
  refine hEv_start (args := [vr 22, vr l1, vi l2, vi l3]) (nl := 6) rfl (Nat.le_of_ble_eq_true rfl) ?_
  show hG d 125 0 [some (vr 22), some (vr l1), some (vi l2), some (vi l3), none, none] [] w _
  have kr : ∀ h1 : hS, o = h1 → ∀ w', Abs h1 w' → qV o (none, w') := fun h1 q w' A' => by cases q; exact ⟨rfl, A'⟩
  unfold c125 at e
  refine hg_run 1 (pc' := 1) (ls' := [some (vr 22), some (vr l1), some (vi l2), some (vi l3), none, none]) (st' := [vR l1]) rfl ?_
  obtain ⟨v1, e1, e⟩ := ob e
  refine gd_7_2 rfl A e1 ?_
  refine hg_run 3 (pc' := 9) (ls' := [some (vr 22), some (vr l1), some (vi l2), some (vi l3), some (vr v1), none]) (st' := [vI l2, vR v1]) rfl ?_
  obtain ⟨u3, e3, e⟩ := ob e
  obtain ⟨v2, e2, e⟩ := ob e
  refine hg_cRp (as := [vR v1, vI l2]) (st' := []) rfl (fun _ _ _ _ => rfl) rfl rfl (Nat.le_of_ble_eq_true rfl) (Nat.le_of_ble_eq_true rfl) (recvV A (a := 11) (kT_e e3)) (t111 (by omega) A rl2 e2) ?_
  refine hg_run 3 (pc' := 17) (ls' := [some (vr 22), some (vr l1), some (vi l2), some (vi l3), some (vr v1), some (vr v2)]) (st' := [vI l2, vR v1]) rfl ?_
  obtain ⟨u5, e5, e⟩ := ob e
  obtain ⟨v4, e4, e⟩ := ob e
  refine hg_cIp (as := [vR v1, vI l2]) (st' := []) rfl (fun _ _ _ _ => rfl) rfl rfl (Nat.le_of_ble_eq_true rfl) (Nat.le_of_ble_eq_true rfl) (recvV A (a := 11) (kT_e e5)) (t106 (by omega) A rl2 e4) (fun r4 => ?_)
  rcases oi e with ⟨q6, e⟩ | ⟨q6, e⟩
  · refine hg_ifT (tgt := 33) rfl (by decide) r4 q6 ?_
    refine hg_run 1 (pc' := 35) (ls' := [some (vr 22), some (vr l1), some (vi l2), some (vi l3), some (vr v1), some (vr v2)]) (st' := [vR v2]) rfl ?_
    obtain ⟨b7, e7, e⟩ := ob e
    rcases oi e with ⟨q7, e⟩ | ⟨q7, e⟩
    · refine hg_nul (yes := true) (tgt := 55) (t2 := 55) rfl (fun _ _ _ _ => rfl) (by decide) (ebT e7 q7) rfl ?_
      refine hg_run 1 (pc' := 56) (ls' := [some (vr 22), some (vr l1), some (vi l2), some (vi l3), some (vr v1), some (vr v2)]) (st' := [vI l2]) rfl ?_
      obtain ⟨v8, e8, e⟩ := ob e
      refine hg_cIp (as := [vI l2]) (st' := []) rfl (fun _ _ _ _ => rfl) rfl rfl (Nat.le_of_ble_eq_true rfl) (Nat.le_of_ble_eq_true rfl) recv0 (t108 (by omega) A rl2 e8) (fun r8 => ?_)
      rcases oi e with ⟨q9, e⟩ | ⟨q9, e⟩
      · refine hg_ifT (tgt := 81) rfl (by decide) r8 q9 ?_
        exact t125_j81 hd  A e kr
      · refine hg_ifF (tgt := 81) rfl (by decide) r8 q9 ?_
        refine hg_run 1 (pc' := 63) (ls' := [some (vr 22), some (vr l1), some (vi l2), some (vi l3), some (vr v1), some (vr v2)]) (st' := [vR l1]) rfl ?_
        obtain ⟨v11, e11, e⟩ := ob e
        refine gd_7_4 rfl A e11 ?_
        refine hg_run 1 (pc' := 67) (ls' := [some (vr 22), some (vr l1), some (vi l2), some (vi l3), some (vr v1), some (vr v2)]) (st' := [vI l2, vR v11]) rfl ?_
        obtain ⟨v12, e12, e⟩ := ob e
        refine hg_aId 1 rfl (fun _ _ _ _ => rfl) A rfl (by decide) e12 (fun r12 => ?_)
        rcases oi e with ⟨q13, e⟩ | ⟨q13, e⟩
        · refine hg_ifT (tgt := 81) rfl (by decide) r12 q13 ?_
          exact t125_j81 hd  A e kr
        · refine hg_ifF (tgt := 81) rfl (by decide) r12 q13 ?_
          refine hg_run 1 (pc' := 72) (ls' := [some (vr 22), some (vr l1), some (vi l2), some (vi l3), some (vr v1), some (vr v2)]) (st' := [vR l1]) rfl ?_
          obtain ⟨v14, e14, e⟩ := ob e
          refine gd_7_5 rfl A e14 ?_
          refine hg_run 2 (pc' := 77) (ls' := [some (vr 22), some (vr l1), some (vi l2), some (vi l3), some (vr v1), some (vr v2)]) (st' := [vI l3, vI l2, vR v14]) rfl ?_
          obtain ⟨h15, e15, e⟩ := ob e
          refine hg_wId rfl A rl3 e15 (fun w15 A15 => ?_)
          refine hg_run 1 (pc' := 88) (ls' := [some (vr 22), some (vr l1), some (vi l2), some (vi l3), some (vr v1), some (vr v2)]) (st' := []) rfl ?_
          cases e
          exact hg_retV rfl (kr _ rfl _ A15)
    · refine hg_nul (yes := true) (tgt := 55) (t2 := 38) rfl (fun _ _ _ _ => rfl) (by decide) (ebF e7 q7) rfl ?_
      refine hg_run 1 (pc' := 40) (ls' := [some (vr 22), some (vr l1), some (vi l2), some (vi l3), some (vr v1), some (vr v2)]) (st' := [vR v2]) rfl ?_
      obtain ⟨v16, e16, e⟩ := ob e
      refine gd_11_10 rfl A e16 ?_
      refine hg_run 1 (pc' := 45) (ls' := [some (vr 22), some (vr l1), some (vi l2), some (vi l3), some (vr v1), some (vr v2)]) (st' := [vR v1, vR v16]) rfl ?_
      obtain ⟨v17, e17, e⟩ := ob e
      refine gd_11_16 rfl A e17 ?_
      refine hg_run 1 (pc' := 49) (ls' := [some (vr 22), some (vr l1), some (vi l2), some (vi l3), some (vr v1), some (vr v2)]) (st' := [vI l2, vR v17, vR v16]) rfl ?_
      obtain ⟨v18, e18, e⟩ := ob e
      refine hg_aId 0 rfl (fun _ _ _ _ => rfl) A rfl (by decide) e18 (fun r18 => ?_)
      refine hg_run 1 (pc' := 51) (ls' := [some (vr 22), some (vr l1), some (vi l2), some (vi l3), some (vr v1), some (vr v2)]) (st' := [vI l3, vI v18, vR v16]) rfl ?_
      obtain ⟨h19, e19, e⟩ := ob e
      refine hg_wId rfl A rl3 e19 (fun w19 A19 => ?_)
      refine hg_run 1 (pc' := 88) (ls' := [some (vr 22), some (vr l1), some (vi l2), some (vi l3), some (vr v1), some (vr v2)]) (st' := []) rfl ?_
      cases e
      exact hg_retV rfl (kr _ rfl _ A19)
  · refine hg_ifF (tgt := 33) rfl (by decide) r4 q6 ?_
    refine hg_run 1 (pc' := 24) (ls' := [some (vr 22), some (vr l1), some (vi l2), some (vi l3), some (vr v1), some (vr v2)]) (st' := [vR l1]) rfl ?_
    obtain ⟨v20, e20, e⟩ := ob e
    refine gd_7_3 rfl A e20 ?_
    refine hg_run 2 (pc' := 29) (ls' := [some (vr 22), some (vr l1), some (vi l2), some (vi l3), some (vr v1), some (vr v2)]) (st' := [vI l3, vI l2, vR v20]) rfl ?_
    obtain ⟨h21, e21, e⟩ := ob e
    refine hg_wId rfl A rl3 e21 (fun w21 A21 => ?_)
    refine hg_run 1 (pc' := 88) (ls' := [some (vr 22), some (vr l1), some (vi l2), some (vi l3), some (vr v1), some (vr v2)]) (st' := []) rfl ?_
    cases e
    exact hg_retV rfl (kr _ rfl _ A21)
def c126_j125 (s1 : Int) (h : hS) : Option (hS) :=
  (c121 s1 h).bind (fun h16 =>
  some h16)
theorem t126_j125 {d : Nat} (hd : 1 ≤ d) {s1 : Int} {z1 : Option hO} {z2 : Option hO} {z3 : Option hO} {h : hS} {w : mmW} {o : hS} {Q : mmO → Prop} (rs1 : rg s1) (A : Abs h w) (e : c126_j125 s1 h = some o) (kr : ∀ h1 : hS, o = h1 → ∀ w', Abs h1 w' → Q (none, w')) : hG d 126 125 [some (vr 22), z1, z2, z3] [vI s1, vR 22] w Q := by
  unfold c126_j125 at e
  obtain ⟨h16, e16, e⟩ := ob e
  refine hg_cV (as := [vR 22, vI s1]) (st' := []) rfl (fun _ _ _ _ => rfl) rfl rfl (Nat.le_of_ble_eq_true rfl) (Nat.le_of_ble_eq_true rfl) (recvV A (a := 4) (Abs_ks A (i := 13) rfl).1) (t121 (by omega) A rs1 e16) (fun w16 A16 => ?_)
  refine hg_run 1 (pc' := 145) (ls' := [some (vr 22), z1, z2, z3]) (st' := []) rfl ?_
  cases e
  exact hg_retV rfl (kr _ rfl _ A16)
def c126_j142 (s1 : Int) (h : hS) : Option (hS) :=
  (c121 s1 h).bind (fun h18 =>
  some h18)
theorem t126_j142 {d : Nat} (hd : 1 ≤ d) {s1 : Int} {z1 : Option hO} {z2 : Option hO} {z3 : Option hO} {h : hS} {w : mmW} {o : hS} {Q : mmO → Prop} (rs1 : rg s1) (A : Abs h w) (e : c126_j142 s1 h = some o) (kr : ∀ h1 : hS, o = h1 → ∀ w', Abs h1 w' → Q (none, w')) : hG d 126 142 [some (vr 22), z1, z2, z3] [vI s1, vR 22] w Q := by
  unfold c126_j142 at e
  obtain ⟨h18, e18, e⟩ := ob e
  refine hg_cV (as := [vR 22, vI s1]) (st' := []) rfl (fun _ _ _ _ => rfl) rfl rfl (Nat.le_of_ble_eq_true rfl) (Nat.le_of_ble_eq_true rfl) (recvV A (a := 4) (Abs_ks A (i := 13) rfl).1) (t121 (by omega) A rs1 e18) (fun w18 A18 => ?_)
  cases e
  exact hg_retV rfl (kr _ rfl _ A18)
def c126 (l1 : Int) (h : hS) : Option (hS) :=
  (c124  h).bind (fun v1 =>
  (c124  v1.2).bind (fun v2 =>
  if (42 : Int) = l1 then
  (c121 (wmul v2.1 v1.1) v2.2).bind (fun h4 =>
  some h4)
  else
  if (43 : Int) = l1 then
  (c121 (wadd v2.1 v1.1) v2.2).bind (fun h6 =>
  some h6)
  else
  if (45 : Int) = l1 then
  (c121 (wsub v2.1 v1.1) v2.2).bind (fun h8 =>
  some h8)
  else
  if (47 : Int) = l1 then
  if v1.1 = 0 then
  (c123 1002 v2.2).bind (fun h13 =>
  some h13)
  else
  (dI v2.1 v1.1).bind (fun v11 =>
  (c121 v11 v2.2).bind (fun h12 =>
  some h12))
  else
  if (60 : Int) = l1 then
  if v1.1 ≤ v2.1 then
  c126_j125 0 v2.2
  else
  c126_j125 1 v2.2
  else
  if v2.1 = v1.1 then
  c126_j142 1 v2.2
  else
  c126_j142 0 v2.2))
theorem t126 {d : Nat} (hd : 2 ≤ d) {l1 : Int} {h : hS} {w : mmW} {o : hS} (A : Abs h w) (rl1 : rg l1) (e : c126 l1 h = some o) : hEv d 126 [vR 22, vI l1] w (qV o) := by
  obtain ⟨d, rfl⟩ : ∃ d1, d = d1 + 1 := ⟨d - 1, by omega⟩
  have hd : 1 ≤ d := by omega
  refine hEv_start (args := [vr 22, vi l1]) (nl := 4) rfl (Nat.le_of_ble_eq_true rfl) ?_
  show hG d 126 0 [some (vr 22), some (vi l1), none, none] [] w _
  have kr : ∀ h1 : hS, o = h1 → ∀ w', Abs h1 w' → qV o (none, w') := fun h1 q w' A' => by cases q; exact ⟨rfl, A'⟩
  unfold c126 at e
  refine hg_run 1 (pc' := 1) (ls' := [some (vr 22), some (vi l1), none, none]) (st' := [vR 22]) rfl ?_
  obtain ⟨v1, e1, e⟩ := ob e
  refine hg_cI (as := [vR 22]) (st' := []) rfl (fun _ _ _ _ => rfl) rfl rfl (Nat.le_of_ble_eq_true rfl) (Nat.le_of_ble_eq_true rfl) (recvV A (a := 4) (Abs_ks A (i := 13) rfl).1) (t124 (by omega) A  e1) (fun w1 r1 A1 => ?_)
  refine hg_run 2 (pc' := 6) (ls' := [some (vr 22), some (vi l1), some (vi v1.1), none]) (st' := [vR 22]) rfl ?_
  obtain ⟨v2, e2, e⟩ := ob e
  refine hg_cI (as := [vR 22]) (st' := []) rfl (fun _ _ _ _ => rfl) rfl rfl (Nat.le_of_ble_eq_true rfl) (Nat.le_of_ble_eq_true rfl) (recvV A1 (a := 4) (Abs_ks A1 (i := 13) rfl).1) (t124 (by omega) A1  e2) (fun w2 r2 A2 => ?_)
  refine hg_run 2 (pc' := 11) (ls' := [some (vr 22), some (vi l1), some (vi v1.1), some (vi v2.1)]) (st' := [vI l1]) rfl ?_
  rcases oi e with ⟨q3, e⟩ | ⟨q3, e⟩
  · refine hg_lsw (off := 69) (tgt := 80) rfl rfl rl1 (show (if (42 : Int) = l1 then (69 : Int) else if (43 : Int) = l1 then (49 : Int) else if (45 : Int) = l1 then (59 : Int) else if (47 : Int) = l1 then (79 : Int) else if (60 : Int) = l1 then (103 : Int) else (120 : Int)) = 69 by rw [if_pos q3]) (by decide) ?_
    refine hg_run 4 (pc' := 84) (ls' := [some (vr 22), some (vi l1), some (vi v1.1), some (vi v2.1)]) (st' := [vI (wmul v2.1 v1.1), vR 22]) rfl ?_
    obtain ⟨h4, e4, e⟩ := ob e
    refine hg_cV (as := [vR 22, vI (wmul v2.1 v1.1)]) (st' := []) rfl (fun _ _ _ _ => rfl) rfl rfl (Nat.le_of_ble_eq_true rfl) (Nat.le_of_ble_eq_true rfl) (recvV A2 (a := 4) (Abs_ks A2 (i := 13) rfl).1) (t121 (by omega) A2 (rg_mul _ _) e4) (fun w4 A4 => ?_)
    refine hg_run 1 (pc' := 145) (ls' := [some (vr 22), some (vi l1), some (vi v1.1), some (vi v2.1)]) (st' := []) rfl ?_
    cases e
    exact hg_retV rfl (kr _ rfl _ A4)
  · rcases oi e with ⟨q5, e⟩ | ⟨q5, e⟩
    · refine hg_lsw (off := 49) (tgt := 60) rfl rfl rl1 (show (if (42 : Int) = l1 then (69 : Int) else if (43 : Int) = l1 then (49 : Int) else if (45 : Int) = l1 then (59 : Int) else if (47 : Int) = l1 then (79 : Int) else if (60 : Int) = l1 then (103 : Int) else (120 : Int)) = 49 by rw [if_neg q3, if_pos q5]) (by decide) ?_
      refine hg_run 4 (pc' := 64) (ls' := [some (vr 22), some (vi l1), some (vi v1.1), some (vi v2.1)]) (st' := [vI (wadd v2.1 v1.1), vR 22]) rfl ?_
      obtain ⟨h6, e6, e⟩ := ob e
      refine hg_cV (as := [vR 22, vI (wadd v2.1 v1.1)]) (st' := []) rfl (fun _ _ _ _ => rfl) rfl rfl (Nat.le_of_ble_eq_true rfl) (Nat.le_of_ble_eq_true rfl) (recvV A2 (a := 4) (Abs_ks A2 (i := 13) rfl).1) (t121 (by omega) A2 (rg_add _ _) e6) (fun w6 A6 => ?_)
      refine hg_run 1 (pc' := 145) (ls' := [some (vr 22), some (vi l1), some (vi v1.1), some (vi v2.1)]) (st' := []) rfl ?_
      cases e
      exact hg_retV rfl (kr _ rfl _ A6)
    · rcases oi e with ⟨q7, e⟩ | ⟨q7, e⟩
      · refine hg_lsw (off := 59) (tgt := 70) rfl rfl rl1 (show (if (42 : Int) = l1 then (69 : Int) else if (43 : Int) = l1 then (49 : Int) else if (45 : Int) = l1 then (59 : Int) else if (47 : Int) = l1 then (79 : Int) else if (60 : Int) = l1 then (103 : Int) else (120 : Int)) = 59 by rw [if_neg q3, if_neg q5, if_pos q7]) (by decide) ?_
        refine hg_run 4 (pc' := 74) (ls' := [some (vr 22), some (vi l1), some (vi v1.1), some (vi v2.1)]) (st' := [vI (wsub v2.1 v1.1), vR 22]) rfl ?_
        obtain ⟨h8, e8, e⟩ := ob e
        refine hg_cV (as := [vR 22, vI (wsub v2.1 v1.1)]) (st' := []) rfl (fun _ _ _ _ => rfl) rfl rfl (Nat.le_of_ble_eq_true rfl) (Nat.le_of_ble_eq_true rfl) (recvV A2 (a := 4) (Abs_ks A2 (i := 13) rfl).1) (t121 (by omega) A2 (rg_sub _ _) e8) (fun w8 A8 => ?_)
        refine hg_run 1 (pc' := 145) (ls' := [some (vr 22), some (vi l1), some (vi v1.1), some (vi v2.1)]) (st' := []) rfl ?_
        cases e
        exact hg_retV rfl (kr _ rfl _ A8)
      · rcases oi e with ⟨q9, e⟩ | ⟨q9, e⟩
        · refine hg_lsw (off := 79) (tgt := 90) rfl rfl rl1 (show (if (42 : Int) = l1 then (69 : Int) else if (43 : Int) = l1 then (49 : Int) else if (45 : Int) = l1 then (59 : Int) else if (47 : Int) = l1 then (79 : Int) else if (60 : Int) = l1 then (103 : Int) else (120 : Int)) = 79 by rw [if_neg q3, if_neg q5, if_neg q7, if_pos q9]) (by decide) ?_
          refine hg_run 1 (pc' := 91) (ls' := [some (vr 22), some (vi l1), some (vi v1.1), some (vi v2.1)]) (st' := [vI v1.1]) rfl ?_
          rcases oi e with ⟨q10, e⟩ | ⟨q10, e⟩
          · refine hg_ifF (tgt := 104) rfl (by decide) r1 (show ¬ ¬ (v1.1 = 0) from fun f => f q10) ?_
            refine hg_run 2 (pc' := 98) (ls' := [some (vr 22), some (vi l1), some (vi v1.1), some (vi v2.1)]) (st' := [vI 1002, vR 22]) rfl ?_
            obtain ⟨h13, e13, e⟩ := ob e
            refine hg_cV (as := [vR 22, vI 1002]) (st' := []) rfl (fun _ _ _ _ => rfl) rfl rfl (Nat.le_of_ble_eq_true rfl) (Nat.le_of_ble_eq_true rfl) (recvV A2 (a := 4) (Abs_ks A2 (i := 13) rfl).1) (t123 (by omega) A2 (rgn 1002 rfl) e13) (fun w13 A13 => ?_)
            refine hg_run 1 (pc' := 145) (ls' := [some (vr 22), some (vi l1), some (vi v1.1), some (vi v2.1)]) (st' := []) rfl ?_
            cases e
            exact hg_retV rfl (kr _ rfl _ A13)
          · refine hg_ifT (tgt := 104) rfl (by decide) r1 (show ¬ (v1.1 = 0) from q10) ?_
            refine hg_run 3 (pc' := 107) (ls' := [some (vr 22), some (vi l1), some (vi v1.1), some (vi v2.1)]) (st' := [vI v1.1, vI v2.1, vR 22]) rfl ?_
            obtain ⟨v11, e11, e⟩ := ob e
            refine hg_div rfl r1 (dI_e e11).1 (dI_e e11).2 (fun r11 => ?_)
            obtain ⟨h12, e12, e⟩ := ob e
            refine hg_cV (as := [vR 22, vI v11]) (st' := []) rfl (fun _ _ _ _ => rfl) rfl rfl (Nat.le_of_ble_eq_true rfl) (Nat.le_of_ble_eq_true rfl) (recvV A2 (a := 4) (Abs_ks A2 (i := 13) rfl).1) (t121 (by omega) A2 r11 e12) (fun w12 A12 => ?_)
            refine hg_run 1 (pc' := 145) (ls' := [some (vr 22), some (vi l1), some (vi v1.1), some (vi v2.1)]) (st' := []) rfl ?_
            cases e
            exact hg_retV rfl (kr _ rfl _ A12)
        · rcases oi e with ⟨q14, e⟩ | ⟨q14, e⟩
          · refine hg_lsw (off := 103) (tgt := 114) rfl rfl rl1 (show (if (42 : Int) = l1 then (69 : Int) else if (43 : Int) = l1 then (49 : Int) else if (45 : Int) = l1 then (59 : Int) else if (47 : Int) = l1 then (79 : Int) else if (60 : Int) = l1 then (103 : Int) else (120 : Int)) = 103 by rw [if_neg q3, if_neg q5, if_neg q7, if_neg q9, if_pos q14]) (by decide) ?_
            refine hg_run 3 (pc' := 117) (ls' := [some (vr 22), some (vi l1), some (vi v1.1), some (vi v2.1)]) (st' := [vI v1.1, vI v2.1, vR 22]) rfl ?_
            rcases oi e with ⟨q15, e⟩ | ⟨q15, e⟩
            · refine hg_icT (tgt := 124) rfl (by decide) r2 r1 q15 ?_
              refine hg_run 1 (pc' := 125) (ls' := [some (vr 22), some (vi l1), some (vi v1.1), some (vi v2.1)]) (st' := [vI 0, vR 22]) rfl ?_
              exact t126_j125 hd (rgn 0 rfl) A2 e kr
            · refine hg_icF (tgt := 124) rfl (by decide) r2 r1 q15 ?_
              refine hg_run 2 (pc' := 125) (ls' := [some (vr 22), some (vi l1), some (vi v1.1), some (vi v2.1)]) (st' := [vI 1, vR 22]) rfl ?_
              exact t126_j125 hd (rgn 1 rfl) A2 e kr
          · refine hg_lsw (off := 120) (tgt := 131) rfl rfl rl1 (show (if (42 : Int) = l1 then (69 : Int) else if (43 : Int) = l1 then (49 : Int) else if (45 : Int) = l1 then (59 : Int) else if (47 : Int) = l1 then (79 : Int) else if (60 : Int) = l1 then (103 : Int) else (120 : Int)) = 120 by rw [if_neg q3, if_neg q5, if_neg q7, if_neg q9, if_neg q14]) (by decide) ?_
            refine hg_run 3 (pc' := 134) (ls' := [some (vr 22), some (vi l1), some (vi v1.1), some (vi v2.1)]) (st' := [vI v1.1, vI v2.1, vR 22]) rfl ?_
            rcases oi e with ⟨q17, e⟩ | ⟨q17, e⟩
            · refine hg_icF (tgt := 141) rfl (by decide) r2 r1 (show ¬ ¬ (v2.1 = v1.1) from fun f => f q17) ?_
              refine hg_run 2 (pc' := 142) (ls' := [some (vr 22), some (vi l1), some (vi v1.1), some (vi v2.1)]) (st' := [vI 1, vR 22]) rfl ?_
              exact t126_j142 hd (rgn 1 rfl) A2 e kr
            · refine hg_icT (tgt := 141) rfl (by decide) r2 r1 (show ¬ (v2.1 = v1.1) from q17) ?_
              refine hg_run 1 (pc' := 142) (ls' := [some (vr 22), some (vi l1), some (vi v1.1), some (vi v2.1)]) (st' := [vI 0, vR 22]) rfl ?_
              exact t126_j142 hd (rgn 0 rfl) A2 e kr
def c120_j181 (l2 : Int) (h : hS) : Option (Int × hS) :=
  (c126 l2 h).bind (fun h11 =>
  some (1, h11))
theorem t120_j181 {d : Nat} (hd : 2 ≤ d) {l2 : Int} {z1 : Option hO} {h : hS} {w : mmW} {o : Int × hS} {Q : mmO → Prop} (rl2 : rg l2) (A : Abs h w) (e : c120_j181 l2 h = some o) (kr : ∀ (v1 : Int) (h1 : hS), o = (v1, h1) → ∀ w', rg v1 → Abs h1 w' → Q (some (.int (Int32.ofInt v1)), w')) : hG d 120 181 [some (vr 22), z1, some (vi l2)] [] w Q := by
  unfold c120_j181 at e
  refine hg_run 2 (pc' := 183) (ls' := [some (vr 22), z1, some (vi l2)]) (st' := [vI l2, vR 22]) rfl ?_
  obtain ⟨h11, e11, e⟩ := ob e
  refine hg_cV (as := [vR 22, vI l2]) (st' := []) rfl (fun _ _ _ _ => rfl) rfl rfl (Nat.le_of_ble_eq_true rfl) (Nat.le_of_ble_eq_true rfl) (recvV A (a := 4) (Abs_ks A (i := 13) rfl).1) (t126 (by omega) A rl2 e11) (fun w11 A11 => ?_)
  refine hg_run 1 (pc' := 187) (ls' := [some (vr 22), z1, some (vi l2)]) (st' := [vI 1]) rfl ?_
  cases e
  exact hg_retI rfl (by decide) (fit_B (.inr rfl)) (kr _ _ rfl _ (rgn 1 rfl) A11)
def c120 (l1 : Nat) (l2 : Int) (h : hS) : Option (Int × hS) :=
  if (1 : Int) = l2 then
  (gR h l1 12 0).bind (fun v2 =>
  (kT h l1 12).bind (fun u4 =>
  (c119 l1 h).bind (fun v3 =>
  (c122 v2 v3.1 v3.2).bind (fun h5 =>
  some (1, h5)))))
  else
  if (2 : Int) = l2 then
  (kT h l1 12).bind (fun u8 =>
  (c119 l1 h).bind (fun v7 =>
  (c121 v7.1 v7.2).bind (fun h9 =>
  some (1, h9))))
  else
  if (42 : Int) = l2 then
  c120_j181 l2 h
  else
  if (43 : Int) = l2 then
  c120_j181 l2 h
  else
  if (45 : Int) = l2 then
  c120_j181 l2 h
  else
  if (47 : Int) = l2 then
  c120_j181 l2 h
  else
  if (60 : Int) = l2 then
  c120_j181 l2 h
  else
  if (61 : Int) = l2 then
  (gR h l1 12 0).bind (fun v17 =>
  (kT h l1 12).bind (fun u19 =>
  (c119 l1 h).bind (fun v18 =>
  (c124  v18.2).bind (fun v20 =>
  (c125 v17 v18.1 v20.1 v20.2).bind (fun h21 =>
  some (1, h21))))))
  else
  if (214 : Int) = l2 then
  (gI h l1 12 6).bind (fun v23 =>
  (c121 v23 h).bind (fun h24 =>
  some (1, h24)))
  else
  if (215 : Int) = l2 then
  (gI h l1 12 5).bind (fun v26 =>
  (c121 v26 h).bind (fun h27 =>
  some (1, h27)))
  else
  if (250 : Int) = l2 then
  c120_j181 l2 h
  else
  if (252 : Int) = l2 then
  (c124  h).bind (fun v30 =>
  (c121 (wneg v30.1) v30.2).bind (fun h31 =>
  some (1, h31)))
  else
  some (0, h)
theorem t120 {d : Nat} (hd : 3 ≤ d) {l1 : Nat} {l2 : Int} {h : hS} {w : mmW} {o : Int × hS} (A : Abs h w) (rl2 : rg l2) (e : c120 l1 l2 h = some o) : hEv d 120 [vR 22, vR l1, vI l2] w (qI o) := by
  obtain ⟨d, rfl⟩ : ∃ d1, d = d1 + 1 := ⟨d - 1, by omega⟩
  have hd : 2 ≤ d := by omega
  refine hEv_start (args := [vr 22, vr l1, vi l2]) (nl := 3) rfl (Nat.le_of_ble_eq_true rfl) ?_
  show hG d 120 0 [some (vr 22), some (vr l1), some (vi l2)] [] w _
  have kr : ∀ (v1 : Int) (h1 : hS), o = (v1, h1) → ∀ w', rg v1 → Abs h1 w' → qI o (some (.int (Int32.ofInt v1)), w') := fun v1 h1 q w' r A' => by cases q; exact ⟨rfl, r, A'⟩
  unfold c120 at e
  refine hg_run 1 (pc' := 1) (ls' := [some (vr 22), some (vr l1), some (vi l2)]) (st' := [vI l2]) rfl ?_
  rcases oi e with ⟨q1, e⟩ | ⟨q1, e⟩
  · refine hg_lsw (off := 117) (tgt := 118) rfl rfl rl2 (show (if (1 : Int) = l2 then (117 : Int) else if (2 : Int) = l2 then (107 : Int) else if (42 : Int) = l2 then (180 : Int) else if (43 : Int) = l2 then (180 : Int) else if (45 : Int) = l2 then (180 : Int) else if (47 : Int) = l2 then (180 : Int) else if (60 : Int) = l2 then (180 : Int) else if (61 : Int) = l2 then (162 : Int) else if (214 : Int) = l2 then (131 : Int) else if (215 : Int) = l2 then (141 : Int) else if (250 : Int) = l2 then (180 : Int) else if (252 : Int) = l2 then (151 : Int) else (187 : Int)) = 117 by rw [if_pos q1]) (by decide) ?_
    refine hg_run 2 (pc' := 120) (ls' := [some (vr 22), some (vr l1), some (vi l2)]) (st' := [vR l1, vR 22]) rfl ?_
    obtain ⟨v2, e2, e⟩ := ob e
    refine gd_5_0 rfl A e2 ?_
    refine hg_run 1 (pc' := 124) (ls' := [some (vr 22), some (vr l1), some (vi l2)]) (st' := [vR l1, vR v2, vR 22]) rfl ?_
    obtain ⟨u4, e4, e⟩ := ob e
    obtain ⟨v3, e3, e⟩ := ob e
    refine hg_cI (as := [vR l1]) (st' := [vR v2, vR 22]) rfl (fun _ _ _ _ => rfl) rfl rfl (Nat.le_of_ble_eq_true rfl) (Nat.le_of_ble_eq_true rfl) (recvV A (a := 5) (kT_e e4)) (t119 (by omega) A  e3) (fun w3 r3 A3 => ?_)
    obtain ⟨h5, e5, e⟩ := ob e
    refine hg_cV (as := [vR 22, vR v2, vI v3.1]) (st' := []) rfl (fun _ _ _ _ => rfl) rfl rfl (Nat.le_of_ble_eq_true rfl) (Nat.le_of_ble_eq_true rfl) (recvV A3 (a := 4) (Abs_ks A3 (i := 13) rfl).1) (t122 (by omega) A3 r3 e5) (fun w5 A5 => ?_)
    refine hg_run 1 (pc' := 131) (ls' := [some (vr 22), some (vr l1), some (vi l2)]) (st' := [vI 1]) rfl ?_
    cases e
    exact hg_retI rfl (by decide) (fit_B (.inr rfl)) (kr _ _ rfl _ (rgn 1 rfl) A5)
  · rcases oi e with ⟨q6, e⟩ | ⟨q6, e⟩
    · refine hg_lsw (off := 107) (tgt := 108) rfl rfl rl2 (show (if (1 : Int) = l2 then (117 : Int) else if (2 : Int) = l2 then (107 : Int) else if (42 : Int) = l2 then (180 : Int) else if (43 : Int) = l2 then (180 : Int) else if (45 : Int) = l2 then (180 : Int) else if (47 : Int) = l2 then (180 : Int) else if (60 : Int) = l2 then (180 : Int) else if (61 : Int) = l2 then (162 : Int) else if (214 : Int) = l2 then (131 : Int) else if (215 : Int) = l2 then (141 : Int) else if (250 : Int) = l2 then (180 : Int) else if (252 : Int) = l2 then (151 : Int) else (187 : Int)) = 107 by rw [if_neg q1, if_pos q6]) (by decide) ?_
      refine hg_run 2 (pc' := 110) (ls' := [some (vr 22), some (vr l1), some (vi l2)]) (st' := [vR l1, vR 22]) rfl ?_
      obtain ⟨u8, e8, e⟩ := ob e
      obtain ⟨v7, e7, e⟩ := ob e
      refine hg_cI (as := [vR l1]) (st' := [vR 22]) rfl (fun _ _ _ _ => rfl) rfl rfl (Nat.le_of_ble_eq_true rfl) (Nat.le_of_ble_eq_true rfl) (recvV A (a := 5) (kT_e e8)) (t119 (by omega) A  e7) (fun w7 r7 A7 => ?_)
      obtain ⟨h9, e9, e⟩ := ob e
      refine hg_cV (as := [vR 22, vI v7.1]) (st' := []) rfl (fun _ _ _ _ => rfl) rfl rfl (Nat.le_of_ble_eq_true rfl) (Nat.le_of_ble_eq_true rfl) (recvV A7 (a := 4) (Abs_ks A7 (i := 13) rfl).1) (t121 (by omega) A7 r7 e9) (fun w9 A9 => ?_)
      refine hg_run 1 (pc' := 117) (ls' := [some (vr 22), some (vr l1), some (vi l2)]) (st' := [vI 1]) rfl ?_
      cases e
      exact hg_retI rfl (by decide) (fit_B (.inr rfl)) (kr _ _ rfl _ (rgn 1 rfl) A9)
    · rcases oi e with ⟨q10, e⟩ | ⟨q10, e⟩
      · refine hg_lsw (off := 180) (tgt := 181) rfl rfl rl2 (show (if (1 : Int) = l2 then (117 : Int) else if (2 : Int) = l2 then (107 : Int) else if (42 : Int) = l2 then (180 : Int) else if (43 : Int) = l2 then (180 : Int) else if (45 : Int) = l2 then (180 : Int) else if (47 : Int) = l2 then (180 : Int) else if (60 : Int) = l2 then (180 : Int) else if (61 : Int) = l2 then (162 : Int) else if (214 : Int) = l2 then (131 : Int) else if (215 : Int) = l2 then (141 : Int) else if (250 : Int) = l2 then (180 : Int) else if (252 : Int) = l2 then (151 : Int) else (187 : Int)) = 180 by rw [if_neg q1, if_neg q6, if_pos q10]) (by decide) ?_
        exact t120_j181 hd rl2 A e kr
      · rcases oi e with ⟨q12, e⟩ | ⟨q12, e⟩
        · refine hg_lsw (off := 180) (tgt := 181) rfl rfl rl2 (show (if (1 : Int) = l2 then (117 : Int) else if (2 : Int) = l2 then (107 : Int) else if (42 : Int) = l2 then (180 : Int) else if (43 : Int) = l2 then (180 : Int) else if (45 : Int) = l2 then (180 : Int) else if (47 : Int) = l2 then (180 : Int) else if (60 : Int) = l2 then (180 : Int) else if (61 : Int) = l2 then (162 : Int) else if (214 : Int) = l2 then (131 : Int) else if (215 : Int) = l2 then (141 : Int) else if (250 : Int) = l2 then (180 : Int) else if (252 : Int) = l2 then (151 : Int) else (187 : Int)) = 180 by rw [if_neg q1, if_neg q6, if_neg q10, if_pos q12]) (by decide) ?_
          exact t120_j181 hd rl2 A e kr
        · rcases oi e with ⟨q13, e⟩ | ⟨q13, e⟩
          · refine hg_lsw (off := 180) (tgt := 181) rfl rfl rl2 (show (if (1 : Int) = l2 then (117 : Int) else if (2 : Int) = l2 then (107 : Int) else if (42 : Int) = l2 then (180 : Int) else if (43 : Int) = l2 then (180 : Int) else if (45 : Int) = l2 then (180 : Int) else if (47 : Int) = l2 then (180 : Int) else if (60 : Int) = l2 then (180 : Int) else if (61 : Int) = l2 then (162 : Int) else if (214 : Int) = l2 then (131 : Int) else if (215 : Int) = l2 then (141 : Int) else if (250 : Int) = l2 then (180 : Int) else if (252 : Int) = l2 then (151 : Int) else (187 : Int)) = 180 by rw [if_neg q1, if_neg q6, if_neg q10, if_neg q12, if_pos q13]) (by decide) ?_
            exact t120_j181 hd rl2 A e kr
          · rcases oi e with ⟨q14, e⟩ | ⟨q14, e⟩
            · refine hg_lsw (off := 180) (tgt := 181) rfl rfl rl2 (show (if (1 : Int) = l2 then (117 : Int) else if (2 : Int) = l2 then (107 : Int) else if (42 : Int) = l2 then (180 : Int) else if (43 : Int) = l2 then (180 : Int) else if (45 : Int) = l2 then (180 : Int) else if (47 : Int) = l2 then (180 : Int) else if (60 : Int) = l2 then (180 : Int) else if (61 : Int) = l2 then (162 : Int) else if (214 : Int) = l2 then (131 : Int) else if (215 : Int) = l2 then (141 : Int) else if (250 : Int) = l2 then (180 : Int) else if (252 : Int) = l2 then (151 : Int) else (187 : Int)) = 180 by rw [if_neg q1, if_neg q6, if_neg q10, if_neg q12, if_neg q13, if_pos q14]) (by decide) ?_
              exact t120_j181 hd rl2 A e kr
            · rcases oi e with ⟨q15, e⟩ | ⟨q15, e⟩
              · refine hg_lsw (off := 180) (tgt := 181) rfl rfl rl2 (show (if (1 : Int) = l2 then (117 : Int) else if (2 : Int) = l2 then (107 : Int) else if (42 : Int) = l2 then (180 : Int) else if (43 : Int) = l2 then (180 : Int) else if (45 : Int) = l2 then (180 : Int) else if (47 : Int) = l2 then (180 : Int) else if (60 : Int) = l2 then (180 : Int) else if (61 : Int) = l2 then (162 : Int) else if (214 : Int) = l2 then (131 : Int) else if (215 : Int) = l2 then (141 : Int) else if (250 : Int) = l2 then (180 : Int) else if (252 : Int) = l2 then (151 : Int) else (187 : Int)) = 180 by rw [if_neg q1, if_neg q6, if_neg q10, if_neg q12, if_neg q13, if_neg q14, if_pos q15]) (by decide) ?_
                exact t120_j181 hd rl2 A e kr
              · rcases oi e with ⟨q16, e⟩ | ⟨q16, e⟩
                · refine hg_lsw (off := 162) (tgt := 163) rfl rfl rl2 (show (if (1 : Int) = l2 then (117 : Int) else if (2 : Int) = l2 then (107 : Int) else if (42 : Int) = l2 then (180 : Int) else if (43 : Int) = l2 then (180 : Int) else if (45 : Int) = l2 then (180 : Int) else if (47 : Int) = l2 then (180 : Int) else if (60 : Int) = l2 then (180 : Int) else if (61 : Int) = l2 then (162 : Int) else if (214 : Int) = l2 then (131 : Int) else if (215 : Int) = l2 then (141 : Int) else if (250 : Int) = l2 then (180 : Int) else if (252 : Int) = l2 then (151 : Int) else (187 : Int)) = 162 by rw [if_neg q1, if_neg q6, if_neg q10, if_neg q12, if_neg q13, if_neg q14, if_neg q15, if_pos q16]) (by decide) ?_
                  refine hg_run 2 (pc' := 165) (ls' := [some (vr 22), some (vr l1), some (vi l2)]) (st' := [vR l1, vR 22]) rfl ?_
                  obtain ⟨v17, e17, e⟩ := ob e
                  refine gd_5_0 rfl A e17 ?_
                  refine hg_run 1 (pc' := 169) (ls' := [some (vr 22), some (vr l1), some (vi l2)]) (st' := [vR l1, vR v17, vR 22]) rfl ?_
                  obtain ⟨u19, e19, e⟩ := ob e
                  obtain ⟨v18, e18, e⟩ := ob e
                  refine hg_cI (as := [vR l1]) (st' := [vR v17, vR 22]) rfl (fun _ _ _ _ => rfl) rfl rfl (Nat.le_of_ble_eq_true rfl) (Nat.le_of_ble_eq_true rfl) (recvV A (a := 5) (kT_e e19)) (t119 (by omega) A  e18) (fun w18 r18 A18 => ?_)
                  refine hg_run 1 (pc' := 173) (ls' := [some (vr 22), some (vr l1), some (vi l2)]) (st' := [vR 22, vI v18.1, vR v17, vR 22]) rfl ?_
                  obtain ⟨v20, e20, e⟩ := ob e
                  refine hg_cI (as := [vR 22]) (st' := [vI v18.1, vR v17, vR 22]) rfl (fun _ _ _ _ => rfl) rfl rfl (Nat.le_of_ble_eq_true rfl) (Nat.le_of_ble_eq_true rfl) (recvV A18 (a := 4) (Abs_ks A18 (i := 13) rfl).1) (t124 (by omega) A18  e20) (fun w20 r20 A20 => ?_)
                  obtain ⟨h21, e21, e⟩ := ob e
                  refine hg_cV (as := [vR 22, vR v17, vI v18.1, vI v20.1]) (st' := []) rfl (fun _ _ _ _ => rfl) rfl rfl (Nat.le_of_ble_eq_true rfl) (Nat.le_of_ble_eq_true rfl) (recvV A20 (a := 4) (Abs_ks A20 (i := 13) rfl).1) (t125 (by omega) A20 r18 r20 e21) (fun w21 A21 => ?_)
                  refine hg_run 1 (pc' := 180) (ls' := [some (vr 22), some (vr l1), some (vi l2)]) (st' := [vI 1]) rfl ?_
                  cases e
                  exact hg_retI rfl (by decide) (fit_B (.inr rfl)) (kr _ _ rfl _ (rgn 1 rfl) A21)
                · rcases oi e with ⟨q22, e⟩ | ⟨q22, e⟩
                  · refine hg_lsw (off := 131) (tgt := 132) rfl rfl rl2 (show (if (1 : Int) = l2 then (117 : Int) else if (2 : Int) = l2 then (107 : Int) else if (42 : Int) = l2 then (180 : Int) else if (43 : Int) = l2 then (180 : Int) else if (45 : Int) = l2 then (180 : Int) else if (47 : Int) = l2 then (180 : Int) else if (60 : Int) = l2 then (180 : Int) else if (61 : Int) = l2 then (162 : Int) else if (214 : Int) = l2 then (131 : Int) else if (215 : Int) = l2 then (141 : Int) else if (250 : Int) = l2 then (180 : Int) else if (252 : Int) = l2 then (151 : Int) else (187 : Int)) = 131 by rw [if_neg q1, if_neg q6, if_neg q10, if_neg q12, if_neg q13, if_neg q14, if_neg q15, if_neg q16, if_pos q22]) (by decide) ?_
                    refine hg_run 2 (pc' := 134) (ls' := [some (vr 22), some (vr l1), some (vi l2)]) (st' := [vR l1, vR 22]) rfl ?_
                    obtain ⟨v23, e23, e⟩ := ob e
                    refine gd_5_6 rfl A e23 (fun r23 => ?_)
                    obtain ⟨h24, e24, e⟩ := ob e
                    refine hg_cV (as := [vR 22, vI v23]) (st' := []) rfl (fun _ _ _ _ => rfl) rfl rfl (Nat.le_of_ble_eq_true rfl) (Nat.le_of_ble_eq_true rfl) (recvV A (a := 4) (Abs_ks A (i := 13) rfl).1) (t121 (by omega) A r23 e24) (fun w24 A24 => ?_)
                    refine hg_run 1 (pc' := 141) (ls' := [some (vr 22), some (vr l1), some (vi l2)]) (st' := [vI 1]) rfl ?_
                    cases e
                    exact hg_retI rfl (by decide) (fit_B (.inr rfl)) (kr _ _ rfl _ (rgn 1 rfl) A24)
                  · rcases oi e with ⟨q25, e⟩ | ⟨q25, e⟩
                    · refine hg_lsw (off := 141) (tgt := 142) rfl rfl rl2 (show (if (1 : Int) = l2 then (117 : Int) else if (2 : Int) = l2 then (107 : Int) else if (42 : Int) = l2 then (180 : Int) else if (43 : Int) = l2 then (180 : Int) else if (45 : Int) = l2 then (180 : Int) else if (47 : Int) = l2 then (180 : Int) else if (60 : Int) = l2 then (180 : Int) else if (61 : Int) = l2 then (162 : Int) else if (214 : Int) = l2 then (131 : Int) else if (215 : Int) = l2 then (141 : Int) else if (250 : Int) = l2 then (180 : Int) else if (252 : Int) = l2 then (151 : Int) else (187 : Int)) = 141 by rw [if_neg q1, if_neg q6, if_neg q10, if_neg q12, if_neg q13, if_neg q14, if_neg q15, if_neg q16, if_neg q22, if_pos q25]) (by decide) ?_
                      refine hg_run 2 (pc' := 144) (ls' := [some (vr 22), some (vr l1), some (vi l2)]) (st' := [vR l1, vR 22]) rfl ?_
                      obtain ⟨v26, e26, e⟩ := ob e
                      refine gd_5_5 rfl A e26 (fun r26 => ?_)
                      obtain ⟨h27, e27, e⟩ := ob e
                      refine hg_cV (as := [vR 22, vI v26]) (st' := []) rfl (fun _ _ _ _ => rfl) rfl rfl (Nat.le_of_ble_eq_true rfl) (Nat.le_of_ble_eq_true rfl) (recvV A (a := 4) (Abs_ks A (i := 13) rfl).1) (t121 (by omega) A r26 e27) (fun w27 A27 => ?_)
                      refine hg_run 1 (pc' := 151) (ls' := [some (vr 22), some (vr l1), some (vi l2)]) (st' := [vI 1]) rfl ?_
                      cases e
                      exact hg_retI rfl (by decide) (fit_B (.inr rfl)) (kr _ _ rfl _ (rgn 1 rfl) A27)
                    · rcases oi e with ⟨q28, e⟩ | ⟨q28, e⟩
                      · refine hg_lsw (off := 180) (tgt := 181) rfl rfl rl2 (show (if (1 : Int) = l2 then (117 : Int) else if (2 : Int) = l2 then (107 : Int) else if (42 : Int) = l2 then (180 : Int) else if (43 : Int) = l2 then (180 : Int) else if (45 : Int) = l2 then (180 : Int) else if (47 : Int) = l2 then (180 : Int) else if (60 : Int) = l2 then (180 : Int) else if (61 : Int) = l2 then (162 : Int) else if (214 : Int) = l2 then (131 : Int) else if (215 : Int) = l2 then (141 : Int) else if (250 : Int) = l2 then (180 : Int) else if (252 : Int) = l2 then (151 : Int) else (187 : Int)) = 180 by rw [if_neg q1, if_neg q6, if_neg q10, if_neg q12, if_neg q13, if_neg q14, if_neg q15, if_neg q16, if_neg q22, if_neg q25, if_pos q28]) (by decide) ?_
                        exact t120_j181 hd rl2 A e kr
                      · rcases oi e with ⟨q29, e⟩ | ⟨q29, e⟩
                        · refine hg_lsw (off := 151) (tgt := 152) rfl rfl rl2 (show (if (1 : Int) = l2 then (117 : Int) else if (2 : Int) = l2 then (107 : Int) else if (42 : Int) = l2 then (180 : Int) else if (43 : Int) = l2 then (180 : Int) else if (45 : Int) = l2 then (180 : Int) else if (47 : Int) = l2 then (180 : Int) else if (60 : Int) = l2 then (180 : Int) else if (61 : Int) = l2 then (162 : Int) else if (214 : Int) = l2 then (131 : Int) else if (215 : Int) = l2 then (141 : Int) else if (250 : Int) = l2 then (180 : Int) else if (252 : Int) = l2 then (151 : Int) else (187 : Int)) = 151 by rw [if_neg q1, if_neg q6, if_neg q10, if_neg q12, if_neg q13, if_neg q14, if_neg q15, if_neg q16, if_neg q22, if_neg q25, if_neg q28, if_pos q29]) (by decide) ?_
                          refine hg_run 2 (pc' := 154) (ls' := [some (vr 22), some (vr l1), some (vi l2)]) (st' := [vR 22, vR 22]) rfl ?_
                          obtain ⟨v30, e30, e⟩ := ob e
                          refine hg_cI (as := [vR 22]) (st' := [vR 22]) rfl (fun _ _ _ _ => rfl) rfl rfl (Nat.le_of_ble_eq_true rfl) (Nat.le_of_ble_eq_true rfl) (recvV A (a := 4) (Abs_ks A (i := 13) rfl).1) (t124 (by omega) A  e30) (fun w30 r30 A30 => ?_)
                          refine hg_run 1 (pc' := 158) (ls' := [some (vr 22), some (vr l1), some (vi l2)]) (st' := [vI (wneg v30.1), vR 22]) rfl ?_
                          obtain ⟨h31, e31, e⟩ := ob e
                          refine hg_cV (as := [vR 22, vI (wneg v30.1)]) (st' := []) rfl (fun _ _ _ _ => rfl) rfl rfl (Nat.le_of_ble_eq_true rfl) (Nat.le_of_ble_eq_true rfl) (recvV A30 (a := 4) (Abs_ks A30 (i := 13) rfl).1) (t121 (by omega) A30 (rg_neg _) e31) (fun w31 A31 => ?_)
                          refine hg_run 1 (pc' := 162) (ls' := [some (vr 22), some (vr l1), some (vi l2)]) (st' := [vI 1]) rfl ?_
                          cases e
                          exact hg_retI rfl (by decide) (fit_B (.inr rfl)) (kr _ _ rfl _ (rgn 1 rfl) A31)
                        · refine hg_lsw (off := 187) (tgt := 188) rfl rfl rl2 (show (if (1 : Int) = l2 then (117 : Int) else if (2 : Int) = l2 then (107 : Int) else if (42 : Int) = l2 then (180 : Int) else if (43 : Int) = l2 then (180 : Int) else if (45 : Int) = l2 then (180 : Int) else if (47 : Int) = l2 then (180 : Int) else if (60 : Int) = l2 then (180 : Int) else if (61 : Int) = l2 then (162 : Int) else if (214 : Int) = l2 then (131 : Int) else if (215 : Int) = l2 then (141 : Int) else if (250 : Int) = l2 then (180 : Int) else if (252 : Int) = l2 then (151 : Int) else (187 : Int)) = 187 by rw [if_neg q1, if_neg q6, if_neg q10, if_neg q12, if_neg q13, if_neg q14, if_neg q15, if_neg q16, if_neg q22, if_neg q25, if_neg q28, if_neg q29]) (by decide) ?_
                          refine hg_run 1 (pc' := 189) (ls' := [some (vr 22), some (vr l1), some (vi l2)]) (st' := [vI 0]) rfl ?_
                          cases e
                          exact hg_retI rfl (by decide) (fit_B (.inl rfl)) (kr _ _ rfl _ (rgn 0 rfl) A)
def c128 (h : hS) : Option (hS) :=
  if (hI h 22 10) < 500 then
  (some (sI h 22 10 (wadd (hI h 22 10) 1))).bind (fun h2 =>
  some h2)
  else
  (some (sI h 22 7 4)).bind (fun h3 =>
  some h3)
theorem t128 {d : Nat} (hd : 1 ≤ d)  {h : hS} {w : mmW} {o : hS} (A : Abs h w)  (e : c128 h = some o) : hEv d 128 [vR 22] w (qV o) := by
  obtain ⟨d, rfl⟩ : ∃ d1, d = d1 + 1 := ⟨d - 1, by omega⟩
  have hd : 0 ≤ d := by omega
  refine hEv_start (args := [vr 22]) (nl := 1) rfl (Nat.le_of_ble_eq_true rfl) ?_
  show hG d 128 0 [some (vr 22)] [] w _
  have kr : ∀ h1 : hS, o = h1 → ∀ w', Abs h1 w' → qV o (none, w') := fun h1 q w' A' => by cases q; exact ⟨rfl, A'⟩
  unfold c128 at e
  refine hg_run 1 (pc' := 1) (ls' := [some (vr 22)]) (st' := [vR 22]) rfl ?_
  refine gs_22_10 rfl A ?_
  refine hg_run 1 (pc' := 7) (ls' := [some (vr 22)]) (st' := [vI 500, vI (hI h 22 10)]) rfl ?_
  rcases oi e with ⟨q1, e⟩ | ⟨q1, e⟩
  · refine hg_icT (tgt := 18) rfl (by decide) (Abs_rg A 22 10) (rgn 500 rfl) q1 ?_
    refine hg_run 2 (pc' := 20) (ls' := [some (vr 22)]) (st' := [vR 22, vR 22]) rfl ?_
    refine gs_22_10 rfl A ?_
    refine hg_run 2 (pc' := 25) (ls' := [some (vr 22)]) (st' := [vI (wadd (hI h 22 10) 1), vR 22]) rfl ?_
    obtain ⟨h2, e2, e⟩ := ob e
    refine ps_22_10 rfl A (rg_add _ _) e2 (fun w2 A2 => ?_)
    cases e
    exact hg_retV rfl (kr _ rfl _ A2)
  · refine hg_icF (tgt := 18) rfl (by decide) (Abs_rg A 22 10) (rgn 500 rfl) q1 ?_
    refine hg_run 2 (pc' := 12) (ls' := [some (vr 22)]) (st' := [vI 4, vR 22]) rfl ?_
    obtain ⟨h3, e3, e⟩ := ob e
    refine ps_22_7 rfl A (rgn 4 rfl) e3 (fun w3 A3 => ?_)
    refine hg_run 1 (pc' := 28) (ls' := [some (vr 22)]) (st' := []) rfl ?_
    cases e
    exact hg_retV rfl (kr _ rfl _ A3)
def c129 (l1 : Int) (h : hS) : Option (hS) :=
  if (hI h 22 3) = 0 then
  (some (sI h 22 8 l1)).bind (fun h5 =>
  (some (sI h5 22 7 0)).bind (fun h6 =>
  some h6))
  else
  (some (sI h 22 3 (wsub (hI h 22 3) 1))).bind (fun h2 =>
  (aRs h2 23 21 (hI h2 22 3)).bind (fun v3 =>
  (pI h2 v3 12 5 l1).bind (fun h4 =>
  some h4)))
theorem t129 {d : Nat} (hd : 1 ≤ d) {l1 : Int} {h : hS} {w : mmW} {o : hS} (A : Abs h w) (rl1 : rg l1) (e : c129 l1 h = some o) : hEv d 129 [vR 22, vI l1] w (qV o) := by
  obtain ⟨d, rfl⟩ : ∃ d1, d = d1 + 1 := ⟨d - 1, by omega⟩
  have hd : 0 ≤ d := by omega
  refine hEv_start (args := [vr 22, vi l1]) (nl := 2) rfl (Nat.le_of_ble_eq_true rfl) ?_
  show hG d 129 0 [some (vr 22), some (vi l1)] [] w _
  have kr : ∀ h1 : hS, o = h1 → ∀ w', Abs h1 w' → qV o (none, w') := fun h1 q w' A' => by cases q; exact ⟨rfl, A'⟩
  unfold c129 at e
  refine hg_run 1 (pc' := 1) (ls' := [some (vr 22), some (vi l1)]) (st' := [vR 22]) rfl ?_
  refine gs_22_3 rfl A ?_
  rcases oi e with ⟨q1, e⟩ | ⟨q1, e⟩
  · refine hg_ifF (tgt := 20) rfl (by decide) (Abs_rg A 22 3) (show ¬ ¬ ((hI h 22 3) = 0) from fun f => f q1) ?_
    refine hg_run 2 (pc' := 9) (ls' := [some (vr 22), some (vi l1)]) (st' := [vI l1, vR 22]) rfl ?_
    obtain ⟨h5, e5, e⟩ := ob e
    refine ps_22_8 rfl A rl1 e5 (fun w5 A5 => ?_)
    refine hg_run 2 (pc' := 14) (ls' := [some (vr 22), some (vi l1)]) (st' := [vI 0, vR 22]) rfl ?_
    obtain ⟨h6, e6, e⟩ := ob e
    refine ps_22_7 rfl A5 (rgn 0 rfl) e6 (fun w6 A6 => ?_)
    refine hg_run 1 (pc' := 43) (ls' := [some (vr 22), some (vi l1)]) (st' := []) rfl ?_
    cases e
    exact hg_retV rfl (kr _ rfl _ A6)
  · refine hg_ifT (tgt := 20) rfl (by decide) (Abs_rg A 22 3) (show ¬ ((hI h 22 3) = 0) from q1) ?_
    refine hg_run 2 (pc' := 22) (ls' := [some (vr 22), some (vi l1)]) (st' := [vR 22, vR 22]) rfl ?_
    refine gs_22_3 rfl A ?_
    refine hg_run 2 (pc' := 27) (ls' := [some (vr 22), some (vi l1)]) (st' := [vI (wsub (hI h 22 3) 1), vR 22]) rfl ?_
    obtain ⟨h2, e2, e⟩ := ob e
    refine ps_22_3 rfl A (rg_sub _ _) e2 (fun w2 A2 => ?_)
    refine hg_run 1 (pc' := 31) (ls' := [some (vr 22), some (vi l1)]) (st' := [vR 22]) rfl ?_
    refine gs_22_1 rfl A2 ?_
    refine hg_run 1 (pc' := 35) (ls' := [some (vr 22), some (vi l1)]) (st' := [vR 22, vR 23]) rfl ?_
    refine gs_22_3 rfl A2 ?_
    obtain ⟨v3, e3, e⟩ := ob e
    refine hg_aRs 6 rfl (fun _ _ _ _ => rfl) A2 (Abs_ks A2 (i := 14) rfl) rfl (by decide) e3 ?_
    refine hg_run 1 (pc' := 40) (ls' := [some (vr 22), some (vi l1)]) (st' := [vI l1, vR v3]) rfl ?_
    obtain ⟨h4, e4, e⟩ := ob e
    refine pd_5_5 rfl A2 rl1 e4 (fun w4 A4 => ?_)
    cases e
    exact hg_retV rfl (kr _ rfl _ A4)
def c131 (l1 : Nat) (l2 : Nat) (l3 : Int) (l4 : Int) (h : hS) : Option (hS) :=
  if (hI h 22 3) < 20 then
  (some (sI h 22 3 (wadd (hI h 22 3) 1))).bind (fun h2 =>
  (aRs h2 23 21 (hI h2 22 3)).bind (fun v3 =>
  (kT h2 v3 12).bind (fun u5 =>
  (c116 v3 l1 l2 l3 l4 h2).bind (fun h4 =>
  (aRs h4 23 21 (hI h4 22 3)).bind (fun v6 =>
  (c117 v6 h4).bind (fun h7 =>
  some h7))))))
  else
  (c123 1005 h).bind (fun h8 =>
  some h8)
theorem t131 {d : Nat} (hd : 2 ≤ d) {l1 : Nat} {l2 : Nat} {l3 : Int} {l4 : Int} {h : hS} {w : mmW} {o : hS} (A : Abs h w) (rl3 : rg l3) (rl4 : rg l4) (e : c131 l1 l2 l3 l4 h = some o) : hEv d 131 [vR 22, vR l1, vR l2, vI l3, vI l4] w (qV o) := by
  obtain ⟨d, rfl⟩ : ∃ d1, d = d1 + 1 := ⟨d - 1, by omega⟩
  have hd : 1 ≤ d := by omega
  refine hEv_start (args := [vr 22, vr l1, vr l2, vi l3, vi l4]) (nl := 5) rfl (Nat.le_of_ble_eq_true rfl) ?_
  show hG d 131 0 [some (vr 22), some (vr l1), some (vr l2), some (vi l3), some (vi l4)] [] w _
  have kr : ∀ h1 : hS, o = h1 → ∀ w', Abs h1 w' → qV o (none, w') := fun h1 q w' A' => by cases q; exact ⟨rfl, A'⟩
  unfold c131 at e
  refine hg_run 1 (pc' := 1) (ls' := [some (vr 22), some (vr l1), some (vr l2), some (vi l3), some (vi l4)]) (st' := [vR 22]) rfl ?_
  refine gs_22_3 rfl A ?_
  refine hg_run 1 (pc' := 6) (ls' := [some (vr 22), some (vr l1), some (vr l2), some (vi l3), some (vi l4)]) (st' := [vI 20, vI (hI h 22 3)]) rfl ?_
  rcases oi e with ⟨q1, e⟩ | ⟨q1, e⟩
  · refine hg_icT (tgt := 17) rfl (by decide) (Abs_rg A 22 3) (rgn 20 rfl) q1 ?_
    refine hg_run 2 (pc' := 19) (ls' := [some (vr 22), some (vr l1), some (vr l2), some (vi l3), some (vi l4)]) (st' := [vR 22, vR 22]) rfl ?_
    refine gs_22_3 rfl A ?_
    refine hg_run 2 (pc' := 24) (ls' := [some (vr 22), some (vr l1), some (vr l2), some (vi l3), some (vi l4)]) (st' := [vI (wadd (hI h 22 3) 1), vR 22]) rfl ?_
    obtain ⟨h2, e2, e⟩ := ob e
    refine ps_22_3 rfl A (rg_add _ _) e2 (fun w2 A2 => ?_)
    refine hg_run 1 (pc' := 28) (ls' := [some (vr 22), some (vr l1), some (vr l2), some (vi l3), some (vi l4)]) (st' := [vR 22]) rfl ?_
    refine gs_22_1 rfl A2 ?_
    refine hg_run 1 (pc' := 32) (ls' := [some (vr 22), some (vr l1), some (vr l2), some (vi l3), some (vi l4)]) (st' := [vR 22, vR 23]) rfl ?_
    refine gs_22_3 rfl A2 ?_
    obtain ⟨v3, e3, e⟩ := ob e
    refine hg_aRs 6 rfl (fun _ _ _ _ => rfl) A2 (Abs_ks A2 (i := 14) rfl) rfl (by decide) e3 ?_
    refine hg_run 4 (pc' := 41) (ls' := [some (vr 22), some (vr l1), some (vr l2), some (vi l3), some (vi l4)]) (st' := [vI l4, vI l3, vR l2, vR l1, vR v3]) rfl ?_
    obtain ⟨u5, e5, e⟩ := ob e
    obtain ⟨h4, e4, e⟩ := ob e
    refine hg_cV (as := [vR v3, vR l1, vR l2, vI l3, vI l4]) (st' := []) rfl (fun _ _ _ _ => rfl) rfl rfl (Nat.le_of_ble_eq_true rfl) (Nat.le_of_ble_eq_true rfl) (recvV A2 (a := 5) (kT_e e5)) (t116 (by omega) A2 rl3 rl4 e4) (fun w4 A4 => ?_)
    refine hg_run 2 (pc' := 46) (ls' := [some (vr 22), some (vr l1), some (vr l2), some (vi l3), some (vi l4)]) (st' := [vR 22, vR 22]) rfl ?_
    refine gs_22_1 rfl A4 ?_
    refine hg_run 1 (pc' := 50) (ls' := [some (vr 22), some (vr l1), some (vr l2), some (vi l3), some (vi l4)]) (st' := [vR 22, vR 23, vR 22]) rfl ?_
    refine gs_22_3 rfl A4 ?_
    obtain ⟨v6, e6, e⟩ := ob e
    refine hg_aRs 6 rfl (fun _ _ _ _ => rfl) A4 (Abs_ks A4 (i := 14) rfl) rfl (by decide) e6 ?_
    obtain ⟨h7, e7, e⟩ := ob e
    refine hg_cV (as := [vR 22, vR v6]) (st' := []) rfl (fun _ _ _ _ => rfl) rfl rfl (Nat.le_of_ble_eq_true rfl) (Nat.le_of_ble_eq_true rfl) (recvV A4 (a := 4) (Abs_ks A4 (i := 13) rfl).1) (t117 (by omega) A4  e7) (fun w7 A7 => ?_)
    cases e
    exact hg_retV rfl (kr _ rfl _ A7)
  · refine hg_icF (tgt := 17) rfl (by decide) (Abs_rg A 22 3) (rgn 20 rfl) q1 ?_
    refine hg_run 2 (pc' := 13) (ls' := [some (vr 22), some (vr l1), some (vr l2), some (vi l3), some (vi l4)]) (st' := [vI 1005, vR 22]) rfl ?_
    obtain ⟨h8, e8, e⟩ := ob e
    refine hg_cV (as := [vR 22, vI 1005]) (st' := []) rfl (fun _ _ _ _ => rfl) rfl rfl (Nat.le_of_ble_eq_true rfl) (Nat.le_of_ble_eq_true rfl) (recvV A (a := 4) (Abs_ks A (i := 13) rfl).1) (t123 (by omega) A (rgn 1005 rfl) e8) (fun w8 A8 => ?_)
    cases e
    exact hg_retV rfl (kr _ rfl _ A8)
def c130_j24 (s0 : Nat) (l1 : Nat) (h : hS) : Option (hS) :=
  (hnul s0).bind (fun b7 =>
  if b7 = true then
  (pI h l1 12 5 0).bind (fun h12 =>
  some h12)
  else
  (gR h l1 12 0).bind (fun v8 =>
  (gI h l1 12 2).bind (fun v9 =>
  (gI h l1 12 6).bind (fun v10 =>
  (c131 v8 s0 v9 v10 h).bind (fun h11 =>
  some h11)))))
theorem t130_j24 {d : Nat} (hd : 2 ≤ d) {s0 : Nat} {l1 : Nat} {z2 : Option hO} {z3 : Option hO} {h : hS} {w : mmW} {o : hS} {Q : mmO → Prop}  (A : Abs h w) (e : c130_j24 s0 l1 h = some o) (kr : ∀ h1 : hS, o = h1 → ∀ w', Abs h1 w' → Q (none, w')) : hG d 130 24 [some (vr 22), some (vr l1), z2, z3] [vR s0] w Q := by
  unfold c130_j24 at e
  refine hg_run 2 (pc' := 26) (ls' := [some (vr 22), some (vr l1), z2, some (vr s0)]) (st' := [vR s0]) rfl ?_
  obtain ⟨b7, e7, e⟩ := ob e
  rcases oi e with ⟨q7, e⟩ | ⟨q7, e⟩
  · refine hg_nul (yes := false) (tgt := 37) (t2 := 29) rfl (fun _ _ _ _ => rfl) (by decide) (ebT e7 q7) rfl ?_
    refine hg_run 2 (pc' := 31) (ls' := [some (vr 22), some (vr l1), z2, some (vr s0)]) (st' := [vI 0, vR l1]) rfl ?_
    obtain ⟨h12, e12, e⟩ := ob e
    refine pd_5_5 rfl A (rgn 0 rfl) e12 (fun w12 A12 => ?_)
    refine hg_run 1 (pc' := 54) (ls' := [some (vr 22), some (vr l1), z2, some (vr s0)]) (st' := []) rfl ?_
    cases e
    exact hg_retV rfl (kr _ rfl _ A12)
  · refine hg_nul (yes := false) (tgt := 37) (t2 := 37) rfl (fun _ _ _ _ => rfl) (by decide) (ebF e7 q7) rfl ?_
    refine hg_run 2 (pc' := 39) (ls' := [some (vr 22), some (vr l1), z2, some (vr s0)]) (st' := [vR l1, vR 22]) rfl ?_
    obtain ⟨v8, e8, e⟩ := ob e
    refine gd_5_0 rfl A e8 ?_
    refine hg_run 2 (pc' := 44) (ls' := [some (vr 22), some (vr l1), z2, some (vr s0)]) (st' := [vR l1, vR s0, vR v8, vR 22]) rfl ?_
    obtain ⟨v9, e9, e⟩ := ob e
    refine gd_5_2 rfl A e9 (fun r9 => ?_)
    refine hg_run 1 (pc' := 48) (ls' := [some (vr 22), some (vr l1), z2, some (vr s0)]) (st' := [vR l1, vI v9, vR s0, vR v8, vR 22]) rfl ?_
    obtain ⟨v10, e10, e⟩ := ob e
    refine gd_5_6 rfl A e10 (fun r10 => ?_)
    obtain ⟨h11, e11, e⟩ := ob e
    refine hg_cV (as := [vR 22, vR v8, vR s0, vI v9, vI v10]) (st' := []) rfl (fun _ _ _ _ => rfl) rfl rfl (Nat.le_of_ble_eq_true rfl) (Nat.le_of_ble_eq_true rfl) (recvV A (a := 4) (Abs_ks A (i := 13) rfl).1) (t131 (by omega) A r9 r10 e11) (fun w11 A11 => ?_)
    cases e
    exact hg_retV rfl (kr _ rfl _ A11)
def c130 (l1 : Nat) (h : hS) : Option (hS) :=
  (gR h l1 12 1).bind (fun v1 =>
  (gR h v1 24 1).bind (fun v2 =>
  (hnul v2).bind (fun b3 =>
  if b3 = true then
  c130_j24 0 l1 h
  else
  (gI h l1 12 2).bind (fun v4 =>
  (kT h v2 24).bind (fun u6 =>
  (c115 v2 v4 h).bind (fun v5 =>
  c130_j24 v5 l1 h))))))
theorem t130 {d : Nat} (hd : 3 ≤ d) {l1 : Nat} {h : hS} {w : mmW} {o : hS} (A : Abs h w)  (e : c130 l1 h = some o) : hEv d 130 [vR 22, vR l1] w (qV o) := by
  obtain ⟨d, rfl⟩ : ∃ d1, d = d1 + 1 := ⟨d - 1, by omega⟩
  have hd : 2 ≤ d := by omega
  refine hEv_start (args := [vr 22, vr l1]) (nl := 4) rfl (Nat.le_of_ble_eq_true rfl) ?_
  show hG d 130 0 [some (vr 22), some (vr l1), none, none] [] w _
  have kr : ∀ h1 : hS, o = h1 → ∀ w', Abs h1 w' → qV o (none, w') := fun h1 q w' A' => by cases q; exact ⟨rfl, A'⟩
  unfold c130 at e
  refine hg_run 1 (pc' := 1) (ls' := [some (vr 22), some (vr l1), none, none]) (st' := [vR l1]) rfl ?_
  obtain ⟨v1, e1, e⟩ := ob e
  refine gd_5_1 rfl A e1 ?_
  obtain ⟨v2, e2, e⟩ := ob e
  refine gd_11_1 rfl A e2 ?_
  refine hg_run 2 (pc' := 9) (ls' := [some (vr 22), some (vr l1), some (vr v2), none]) (st' := [vR v2]) rfl ?_
  obtain ⟨b3, e3, e⟩ := ob e
  rcases oi e with ⟨q3, e⟩ | ⟨q3, e⟩
  · refine hg_nul (yes := false) (tgt := 16) (t2 := 12) rfl (fun _ _ _ _ => rfl) (by decide) (ebT e3 q3) rfl ?_
    refine hg_run 2 (pc' := 24) (ls' := [some (vr 22), some (vr l1), some (vr v2), none]) (st' := [vR 0]) rfl ?_
    exact t130_j24 hd  A e kr
  · refine hg_nul (yes := false) (tgt := 16) (t2 := 16) rfl (fun _ _ _ _ => rfl) (by decide) (ebF e3 q3) rfl ?_
    refine hg_run 2 (pc' := 18) (ls' := [some (vr 22), some (vr l1), some (vr v2), none]) (st' := [vR l1, vR v2]) rfl ?_
    obtain ⟨v4, e4, e⟩ := ob e
    refine gd_5_2 rfl A e4 (fun r4 => ?_)
    obtain ⟨u6, e6, e⟩ := ob e
    obtain ⟨v5, e5, e⟩ := ob e
    refine hg_cRp (as := [vR v2, vI v4]) (st' := []) rfl (fun _ _ _ _ => rfl) rfl rfl (Nat.le_of_ble_eq_true rfl) (Nat.le_of_ble_eq_true rfl) (recvV A (a := 11) (kT_e e6)) (t115 (by omega) A r4 e5) ?_
    exact t130_j24 hd  A e kr
def c132 (l1 : Nat) (l2 : Int) (h : hS) : Option (hS) :=
  (gR h l1 16 2).bind (fun v1 =>
  (kT h v1 24).bind (fun u3 =>
  (c115 v1 l2 h).bind (fun v2 =>
  (hnul v2).bind (fun b4 =>
  if b4 = true then
  (c123 1004 h).bind (fun h6 =>
  some h6)
  else
  (c131 l1 v2 l2 0 h).bind (fun h5 =>
  some h5)))))
theorem t132 {d : Nat} (hd : 3 ≤ d) {l1 : Nat} {l2 : Int} {h : hS} {w : mmW} {o : hS} (A : Abs h w) (rl2 : rg l2) (e : c132 l1 l2 h = some o) : hEv d 132 [vR 22, vR l1, vI l2] w (qV o) := by
  obtain ⟨d, rfl⟩ : ∃ d1, d = d1 + 1 := ⟨d - 1, by omega⟩
  have hd : 2 ≤ d := by omega
  refine hEv_start (args := [vr 22, vr l1, vi l2]) (nl := 4) rfl (Nat.le_of_ble_eq_true rfl) ?_
  show hG d 132 0 [some (vr 22), some (vr l1), some (vi l2), none] [] w _
  have kr : ∀ h1 : hS, o = h1 → ∀ w', Abs h1 w' → qV o (none, w') := fun h1 q w' A' => by cases q; exact ⟨rfl, A'⟩
  unfold c132 at e
  refine hg_run 1 (pc' := 1) (ls' := [some (vr 22), some (vr l1), some (vi l2), none]) (st' := [vR l1]) rfl ?_
  obtain ⟨v1, e1, e⟩ := ob e
  refine gd_7_2 rfl A e1 ?_
  refine hg_run 1 (pc' := 5) (ls' := [some (vr 22), some (vr l1), some (vi l2), none]) (st' := [vI l2, vR v1]) rfl ?_
  obtain ⟨u3, e3, e⟩ := ob e
  obtain ⟨v2, e2, e⟩ := ob e
  refine hg_cRp (as := [vR v1, vI l2]) (st' := []) rfl (fun _ _ _ _ => rfl) rfl rfl (Nat.le_of_ble_eq_true rfl) (Nat.le_of_ble_eq_true rfl) (recvV A (a := 11) (kT_e e3)) (t115 (by omega) A rl2 e2) ?_
  refine hg_run 2 (pc' := 10) (ls' := [some (vr 22), some (vr l1), some (vi l2), some (vr v2)]) (st' := [vR v2]) rfl ?_
  obtain ⟨b4, e4, e⟩ := ob e
  rcases oi e with ⟨q4, e⟩ | ⟨q4, e⟩
  · refine hg_nul (yes := false) (tgt := 23) (t2 := 13) rfl (fun _ _ _ _ => rfl) (by decide) (ebT e4 q4) rfl ?_
    refine hg_run 2 (pc' := 17) (ls' := [some (vr 22), some (vr l1), some (vi l2), some (vr v2)]) (st' := [vI 1004, vR 22]) rfl ?_
    obtain ⟨h6, e6, e⟩ := ob e
    refine hg_cV (as := [vR 22, vI 1004]) (st' := []) rfl (fun _ _ _ _ => rfl) rfl rfl (Nat.le_of_ble_eq_true rfl) (Nat.le_of_ble_eq_true rfl) (recvV A (a := 4) (Abs_ks A (i := 13) rfl).1) (t123 (by omega) A (rgn 1004 rfl) e6) (fun w6 A6 => ?_)
    refine hg_run 1 (pc' := 31) (ls' := [some (vr 22), some (vr l1), some (vi l2), some (vr v2)]) (st' := []) rfl ?_
    cases e
    exact hg_retV rfl (kr _ rfl _ A6)
  · refine hg_nul (yes := false) (tgt := 23) (t2 := 23) rfl (fun _ _ _ _ => rfl) (by decide) (ebF e4 q4) rfl ?_
    refine hg_run 5 (pc' := 28) (ls' := [some (vr 22), some (vr l1), some (vi l2), some (vr v2)]) (st' := [vI 0, vI l2, vR v2, vR l1, vR 22]) rfl ?_
    obtain ⟨h5, e5, e⟩ := ob e
    refine hg_cV (as := [vR 22, vR l1, vR v2, vI l2, vI 0]) (st' := []) rfl (fun _ _ _ _ => rfl) rfl rfl (Nat.le_of_ble_eq_true rfl) (Nat.le_of_ble_eq_true rfl) (recvV A (a := 4) (Abs_ks A (i := 13) rfl).1) (t131 (by omega) A rl2 (rgn 0 rfl) e5) (fun w5 A5 => ?_)
    cases e
    exact hg_retV rfl (kr _ rfl _ A5)
def c133_j25 (h : hS) : Option (hS) :=
  (c123 1003 h).bind (fun h2 =>
  some h2)
theorem t133_j25 {d : Nat} (hd : 3 ≤ d)  {z1 : Option hO} {z2 : Option hO} {h : hS} {w : mmW} {o : hS} {Q : mmO → Prop}  (A : Abs h w) (e : c133_j25 h = some o) (kr : ∀ h1 : hS, o = h1 → ∀ w', Abs h1 w' → Q (none, w')) : hG d 133 25 [some (vr 22), z1, z2] [] w Q := by
  unfold c133_j25 at e
  refine hg_run 2 (pc' := 29) (ls' := [some (vr 22), z1, z2]) (st' := [vI 1003, vR 22]) rfl ?_
  obtain ⟨h2, e2, e⟩ := ob e
  refine hg_cV (as := [vR 22, vI 1003]) (st' := []) rfl (fun _ _ _ _ => rfl) rfl rfl (Nat.le_of_ble_eq_true rfl) (Nat.le_of_ble_eq_true rfl) (recvV A (a := 4) (Abs_ks A (i := 13) rfl).1) (t123 (by omega) A (rgn 1003 rfl) e2) (fun w2 A2 => ?_)
  refine hg_run 1 (pc' := 46) (ls' := [some (vr 22), z1, z2]) (st' := []) rfl ?_
  cases e
  exact hg_retV rfl (kr _ rfl _ A2)
def c133 (l1 : Int) (l2 : Int) (h : hS) : Option (hS) :=
  if l1 < 0 then
  c133_j25 h
  else
  if 40 ≤ l1 then
  c133_j25 h
  else
  (aRs h 19 40 l1).bind (fun v5 =>
  (gI h v5 16 1).bind (fun v6 =>
  if v6 = 0 then
  c133_j25 h
  else
  (aRs h 19 40 l1).bind (fun v8 =>
  (c132 v8 l2 h).bind (fun h9 =>
  some h9))))
theorem t133 {d : Nat} (hd : 4 ≤ d) {l1 : Int} {l2 : Int} {h : hS} {w : mmW} {o : hS} (A : Abs h w) (rl1 : rg l1) (rl2 : rg l2) (e : c133 l1 l2 h = some o) : hEv d 133 [vR 22, vI l1, vI l2] w (qV o) := by
  obtain ⟨d, rfl⟩ : ∃ d1, d = d1 + 1 := ⟨d - 1, by omega⟩
  have hd : 3 ≤ d := by omega
  refine hEv_start (args := [vr 22, vi l1, vi l2]) (nl := 3) rfl (Nat.le_of_ble_eq_true rfl) ?_
  show hG d 133 0 [some (vr 22), some (vi l1), some (vi l2)] [] w _
  have kr : ∀ h1 : hS, o = h1 → ∀ w', Abs h1 w' → qV o (none, w') := fun h1 q w' A' => by cases q; exact ⟨rfl, A'⟩
  unfold c133 at e
  refine hg_run 1 (pc' := 1) (ls' := [some (vr 22), some (vi l1), some (vi l2)]) (st' := [vI l1]) rfl ?_
  rcases oi e with ⟨q1, e⟩ | ⟨q1, e⟩
  · refine hg_ifT (tgt := 25) rfl (by decide) rl1 q1 ?_
    exact t133_j25 hd  A e kr
  · refine hg_ifF (tgt := 25) rfl (by decide) rl1 q1 ?_
    refine hg_run 2 (pc' := 6) (ls' := [some (vr 22), some (vi l1), some (vi l2)]) (st' := [vR 22, vI l1]) rfl ?_
    refine gs_22_0 rfl A ?_
    refine hg_len (t := 4) (v := 40) rfl A (Abs_ks A (i := 10) rfl).1 (by rw [(Abs_ks A (i := 10) rfl).2]; rfl) (fun _ => ?_)
    rcases oi e with ⟨q4, e⟩ | ⟨q4, e⟩
    · refine hg_icT (tgt := 25) rfl (by decide) rl1 (rgn 40 rfl) q4 ?_
      exact t133_j25 hd  A e kr
    · refine hg_icF (tgt := 25) rfl (by decide) rl1 (rgn 40 rfl) q4 ?_
      refine hg_run 1 (pc' := 14) (ls' := [some (vr 22), some (vi l1), some (vi l2)]) (st' := [vR 22]) rfl ?_
      refine gs_22_0 rfl A ?_
      refine hg_run 1 (pc' := 18) (ls' := [some (vr 22), some (vi l1), some (vi l2)]) (st' := [vI l1, vR 19]) rfl ?_
      obtain ⟨v5, e5, e⟩ := ob e
      refine hg_aRs 4 rfl (fun _ _ _ _ => rfl) A (Abs_ks A (i := 10) rfl) rfl (by decide) e5 ?_
      obtain ⟨v6, e6, e⟩ := ob e
      refine gd_7_1 rfl A e6 (fun r6 => ?_)
      rcases oi e with ⟨q7, e⟩ | ⟨q7, e⟩
      · refine hg_ifF (tgt := 35) rfl (by decide) r6 (show ¬ ¬ (v6 = 0) from fun f => f q7) ?_
        exact t133_j25 hd  A e kr
      · refine hg_ifT (tgt := 35) rfl (by decide) r6 (show ¬ (v6 = 0) from q7) ?_
        refine hg_run 2 (pc' := 37) (ls' := [some (vr 22), some (vi l1), some (vi l2)]) (st' := [vR 22, vR 22]) rfl ?_
        refine gs_22_0 rfl A ?_
        refine hg_run 1 (pc' := 41) (ls' := [some (vr 22), some (vi l1), some (vi l2)]) (st' := [vI l1, vR 19, vR 22]) rfl ?_
        obtain ⟨v8, e8, e⟩ := ob e
        refine hg_aRs 4 rfl (fun _ _ _ _ => rfl) A (Abs_ks A (i := 10) rfl) rfl (by decide) e8 ?_
        refine hg_run 1 (pc' := 43) (ls' := [some (vr 22), some (vi l1), some (vi l2)]) (st' := [vI l2, vR v8, vR 22]) rfl ?_
        obtain ⟨h9, e9, e⟩ := ob e
        refine hg_cV (as := [vR 22, vR v8, vI l2]) (st' := []) rfl (fun _ _ _ _ => rfl) rfl rfl (Nat.le_of_ble_eq_true rfl) (Nat.le_of_ble_eq_true rfl) (recvV A (a := 4) (Abs_ks A (i := 13) rfl).1) (t132 (by omega) A rl2 e9) (fun w9 A9 => ?_)
        cases e
        exact hg_retV rfl (kr _ rfl _ A9)
def c127_j112 (s0 : Nat) (s1 : Int) (h : hS) : Option (hS) :=
  (pI h s0 12 4 s1).bind (fun h29 =>
  some h29)
theorem t127_j112 {d : Nat} (hd : 4 ≤ d) {s0 : Nat} {s1 : Int} {z1 : Option hO} {z2 : Option hO} {z3 : Option hO} {h : hS} {w : mmW} {o : hS} {Q : mmO → Prop} (rs1 : rg s1) (A : Abs h w) (e : c127_j112 s0 s1 h = some o) (kr : ∀ h1 : hS, o = h1 → ∀ w', Abs h1 w' → Q (none, w')) : hG d 127 112 [some (vr 22), z1, z2, z3] [vI s1, vR s0] w Q := by
  unfold c127_j112 at e
  obtain ⟨h29, e29, e⟩ := ob e
  refine pd_5_4 rfl A rs1 e29 (fun w29 A29 => ?_)
  refine hg_run 1 (pc' := 216) (ls' := [some (vr 22), z1, z2, z3]) (st' := []) rfl ?_
  cases e
  exact hg_retV rfl (kr _ rfl _ A29)
def c127 (l1 : Nat) (l2 : Int) (h : hS) : Option (hS) :=
  if (206 : Int) = l2 then
  (c124  h).bind (fun v2 =>
  (c129 v2.1 v2.2).bind (fun h3 =>
  some h3))
  else
  if (207 : Int) = l2 then
  (c124  h).bind (fun v5 =>
  (c123 v5.1 v5.2).bind (fun h6 =>
  some h6))
  else
  if (208 : Int) = l2 then
  (c130 l1 h).bind (fun h8 =>
  some h8)
  else
  if (209 : Int) = l2 then
  (gR h l1 12 0).bind (fun v10 =>
  (kT h l1 12).bind (fun u12 =>
  (c119 l1 h).bind (fun v11 =>
  (c132 v10 v11.1 v11.2).bind (fun h13 =>
  some h13))))
  else
  if (210 : Int) = l2 then
  (c124  h).bind (fun v15 =>
  (kT v15.2 l1 12).bind (fun u17 =>
  (c119 l1 v15.2).bind (fun v16 =>
  (c133 v15.1 v16.1 v16.2).bind (fun h18 =>
  some h18))))
  else
  if (211 : Int) = l2 then
  if (hI h 22 6) = 0 then
  some h
  else
  if (hI h 22 3) = 0 then
  (some (sI h 22 7 5)).bind (fun h22 =>
  some h22)
  else
  some h
  else
  if (212 : Int) = l2 then
  (kT h l1 12).bind (fun u25 =>
  (c119 l1 h).bind (fun v24 =>
  (c124  v24.2).bind (fun v26 =>
  if v26.1 = 0 then
  c127_j112 l1 v24.1 v26.2
  else
  (gI v26.2 l1 12 4).bind (fun v28 =>
  c127_j112 l1 v28 v26.2))))
  else
  if (213 : Int) = l2 then
  (kT h l1 12).bind (fun u32 =>
  (c119 l1 h).bind (fun v31 =>
  (pI v31.2 l1 12 4 v31.1).bind (fun h33 =>
  some h33)))
  else
  if (253 : Int) = l2 then
  (c128  h).bind (fun h35 =>
  some h35)
  else
  (c129 0 h).bind (fun h36 =>
  some h36)
theorem t127 {d : Nat} (hd : 5 ≤ d) {l1 : Nat} {l2 : Int} {h : hS} {w : mmW} {o : hS} (A : Abs h w) (rl2 : rg l2) (e : c127 l1 l2 h = some o) : hEv d 127 [vR 22, vR l1, vI l2] w (qV o) := by
  obtain ⟨d, rfl⟩ : ∃ d1, d = d1 + 1 := ⟨d - 1, by omega⟩
  have hd : 4 ≤ d := by omega
  refine hEv_start (args := [vr 22, vr l1, vi l2]) (nl := 4) rfl (Nat.le_of_ble_eq_true rfl) ?_
  show hG d 127 0 [some (vr 22), some (vr l1), some (vi l2), none] [] w _
  have kr : ∀ h1 : hS, o = h1 → ∀ w', Abs h1 w' → qV o (none, w') := fun h1 q w' A' => by cases q; exact ⟨rfl, A'⟩
  unfold c127 at e
  refine hg_run 1 (pc' := 1) (ls' := [some (vr 22), some (vr l1), some (vi l2), none]) (st' := [vI l2]) rfl ?_
  rcases oi e with ⟨q1, e⟩ | ⟨q1, e⟩
  · refine hg_lsw (off := 128) (tgt := 129) rfl rfl rl2 (show (if (206 : Int) = l2 then (128 : Int) else if (207 : Int) = l2 then (139 : Int) else if (208 : Int) = l2 then (150 : Int) else if (209 : Int) = l2 then (158 : Int) else if (210 : Int) = l2 then (173 : Int) else if (211 : Int) = l2 then (188 : Int) else if (212 : Int) = l2 then (90 : Int) else if (213 : Int) = l2 then (117 : Int) else if (253 : Int) = l2 then (83 : Int) else (210 : Int)) = 128 by rw [if_pos q1]) (by decide) ?_
    refine hg_run 2 (pc' := 131) (ls' := [some (vr 22), some (vr l1), some (vi l2), none]) (st' := [vR 22, vR 22]) rfl ?_
    obtain ⟨v2, e2, e⟩ := ob e
    refine hg_cI (as := [vR 22]) (st' := [vR 22]) rfl (fun _ _ _ _ => rfl) rfl rfl (Nat.le_of_ble_eq_true rfl) (Nat.le_of_ble_eq_true rfl) (recvV A (a := 4) (Abs_ks A (i := 13) rfl).1) (t124 (by omega) A  e2) (fun w2 r2 A2 => ?_)
    obtain ⟨h3, e3, e⟩ := ob e
    refine hg_cV (as := [vR 22, vI v2.1]) (st' := []) rfl (fun _ _ _ _ => rfl) rfl rfl (Nat.le_of_ble_eq_true rfl) (Nat.le_of_ble_eq_true rfl) (recvV A2 (a := 4) (Abs_ks A2 (i := 13) rfl).1) (t129 (by omega) A2 r2 e3) (fun w3 A3 => ?_)
    refine hg_run 1 (pc' := 216) (ls' := [some (vr 22), some (vr l1), some (vi l2), none]) (st' := []) rfl ?_
    cases e
    exact hg_retV rfl (kr _ rfl _ A3)
  · rcases oi e with ⟨q4, e⟩ | ⟨q4, e⟩
    · refine hg_lsw (off := 139) (tgt := 140) rfl rfl rl2 (show (if (206 : Int) = l2 then (128 : Int) else if (207 : Int) = l2 then (139 : Int) else if (208 : Int) = l2 then (150 : Int) else if (209 : Int) = l2 then (158 : Int) else if (210 : Int) = l2 then (173 : Int) else if (211 : Int) = l2 then (188 : Int) else if (212 : Int) = l2 then (90 : Int) else if (213 : Int) = l2 then (117 : Int) else if (253 : Int) = l2 then (83 : Int) else (210 : Int)) = 139 by rw [if_neg q1, if_pos q4]) (by decide) ?_
      refine hg_run 2 (pc' := 142) (ls' := [some (vr 22), some (vr l1), some (vi l2), none]) (st' := [vR 22, vR 22]) rfl ?_
      obtain ⟨v5, e5, e⟩ := ob e
      refine hg_cI (as := [vR 22]) (st' := [vR 22]) rfl (fun _ _ _ _ => rfl) rfl rfl (Nat.le_of_ble_eq_true rfl) (Nat.le_of_ble_eq_true rfl) (recvV A (a := 4) (Abs_ks A (i := 13) rfl).1) (t124 (by omega) A  e5) (fun w5 r5 A5 => ?_)
      obtain ⟨h6, e6, e⟩ := ob e
      refine hg_cV (as := [vR 22, vI v5.1]) (st' := []) rfl (fun _ _ _ _ => rfl) rfl rfl (Nat.le_of_ble_eq_true rfl) (Nat.le_of_ble_eq_true rfl) (recvV A5 (a := 4) (Abs_ks A5 (i := 13) rfl).1) (t123 (by omega) A5 r5 e6) (fun w6 A6 => ?_)
      refine hg_run 1 (pc' := 216) (ls' := [some (vr 22), some (vr l1), some (vi l2), none]) (st' := []) rfl ?_
      cases e
      exact hg_retV rfl (kr _ rfl _ A6)
    · rcases oi e with ⟨q7, e⟩ | ⟨q7, e⟩
      · refine hg_lsw (off := 150) (tgt := 151) rfl rfl rl2 (show (if (206 : Int) = l2 then (128 : Int) else if (207 : Int) = l2 then (139 : Int) else if (208 : Int) = l2 then (150 : Int) else if (209 : Int) = l2 then (158 : Int) else if (210 : Int) = l2 then (173 : Int) else if (211 : Int) = l2 then (188 : Int) else if (212 : Int) = l2 then (90 : Int) else if (213 : Int) = l2 then (117 : Int) else if (253 : Int) = l2 then (83 : Int) else (210 : Int)) = 150 by rw [if_neg q1, if_neg q4, if_pos q7]) (by decide) ?_
        refine hg_run 2 (pc' := 153) (ls' := [some (vr 22), some (vr l1), some (vi l2), none]) (st' := [vR l1, vR 22]) rfl ?_
        obtain ⟨h8, e8, e⟩ := ob e
        refine hg_cV (as := [vR 22, vR l1]) (st' := []) rfl (fun _ _ _ _ => rfl) rfl rfl (Nat.le_of_ble_eq_true rfl) (Nat.le_of_ble_eq_true rfl) (recvV A (a := 4) (Abs_ks A (i := 13) rfl).1) (t130 (by omega) A  e8) (fun w8 A8 => ?_)
        refine hg_run 1 (pc' := 216) (ls' := [some (vr 22), some (vr l1), some (vi l2), none]) (st' := []) rfl ?_
        cases e
        exact hg_retV rfl (kr _ rfl _ A8)
      · rcases oi e with ⟨q9, e⟩ | ⟨q9, e⟩
        · refine hg_lsw (off := 158) (tgt := 159) rfl rfl rl2 (show (if (206 : Int) = l2 then (128 : Int) else if (207 : Int) = l2 then (139 : Int) else if (208 : Int) = l2 then (150 : Int) else if (209 : Int) = l2 then (158 : Int) else if (210 : Int) = l2 then (173 : Int) else if (211 : Int) = l2 then (188 : Int) else if (212 : Int) = l2 then (90 : Int) else if (213 : Int) = l2 then (117 : Int) else if (253 : Int) = l2 then (83 : Int) else (210 : Int)) = 158 by rw [if_neg q1, if_neg q4, if_neg q7, if_pos q9]) (by decide) ?_
          refine hg_run 2 (pc' := 161) (ls' := [some (vr 22), some (vr l1), some (vi l2), none]) (st' := [vR l1, vR 22]) rfl ?_
          obtain ⟨v10, e10, e⟩ := ob e
          refine gd_5_0 rfl A e10 ?_
          refine hg_run 1 (pc' := 165) (ls' := [some (vr 22), some (vr l1), some (vi l2), none]) (st' := [vR l1, vR v10, vR 22]) rfl ?_
          obtain ⟨u12, e12, e⟩ := ob e
          obtain ⟨v11, e11, e⟩ := ob e
          refine hg_cI (as := [vR l1]) (st' := [vR v10, vR 22]) rfl (fun _ _ _ _ => rfl) rfl rfl (Nat.le_of_ble_eq_true rfl) (Nat.le_of_ble_eq_true rfl) (recvV A (a := 5) (kT_e e12)) (t119 (by omega) A  e11) (fun w11 r11 A11 => ?_)
          obtain ⟨h13, e13, e⟩ := ob e
          refine hg_cV (as := [vR 22, vR v10, vI v11.1]) (st' := []) rfl (fun _ _ _ _ => rfl) rfl rfl (Nat.le_of_ble_eq_true rfl) (Nat.le_of_ble_eq_true rfl) (recvV A11 (a := 4) (Abs_ks A11 (i := 13) rfl).1) (t132 (by omega) A11 r11 e13) (fun w13 A13 => ?_)
          refine hg_run 1 (pc' := 216) (ls' := [some (vr 22), some (vr l1), some (vi l2), none]) (st' := []) rfl ?_
          cases e
          exact hg_retV rfl (kr _ rfl _ A13)
        · rcases oi e with ⟨q14, e⟩ | ⟨q14, e⟩
          · refine hg_lsw (off := 173) (tgt := 174) rfl rfl rl2 (show (if (206 : Int) = l2 then (128 : Int) else if (207 : Int) = l2 then (139 : Int) else if (208 : Int) = l2 then (150 : Int) else if (209 : Int) = l2 then (158 : Int) else if (210 : Int) = l2 then (173 : Int) else if (211 : Int) = l2 then (188 : Int) else if (212 : Int) = l2 then (90 : Int) else if (213 : Int) = l2 then (117 : Int) else if (253 : Int) = l2 then (83 : Int) else (210 : Int)) = 173 by rw [if_neg q1, if_neg q4, if_neg q7, if_neg q9, if_pos q14]) (by decide) ?_
            refine hg_run 2 (pc' := 176) (ls' := [some (vr 22), some (vr l1), some (vi l2), none]) (st' := [vR 22, vR 22]) rfl ?_
            obtain ⟨v15, e15, e⟩ := ob e
            refine hg_cI (as := [vR 22]) (st' := [vR 22]) rfl (fun _ _ _ _ => rfl) rfl rfl (Nat.le_of_ble_eq_true rfl) (Nat.le_of_ble_eq_true rfl) (recvV A (a := 4) (Abs_ks A (i := 13) rfl).1) (t124 (by omega) A  e15) (fun w15 r15 A15 => ?_)
            refine hg_run 1 (pc' := 180) (ls' := [some (vr 22), some (vr l1), some (vi l2), none]) (st' := [vR l1, vI v15.1, vR 22]) rfl ?_
            obtain ⟨u17, e17, e⟩ := ob e
            obtain ⟨v16, e16, e⟩ := ob e
            refine hg_cI (as := [vR l1]) (st' := [vI v15.1, vR 22]) rfl (fun _ _ _ _ => rfl) rfl rfl (Nat.le_of_ble_eq_true rfl) (Nat.le_of_ble_eq_true rfl) (recvV A15 (a := 5) (kT_e e17)) (t119 (by omega) A15  e16) (fun w16 r16 A16 => ?_)
            obtain ⟨h18, e18, e⟩ := ob e
            refine hg_cV (as := [vR 22, vI v15.1, vI v16.1]) (st' := []) rfl (fun _ _ _ _ => rfl) rfl rfl (Nat.le_of_ble_eq_true rfl) (Nat.le_of_ble_eq_true rfl) (recvV A16 (a := 4) (Abs_ks A16 (i := 13) rfl).1) (t133 (by omega) A16 r15 r16 e18) (fun w18 A18 => ?_)
            refine hg_run 1 (pc' := 216) (ls' := [some (vr 22), some (vr l1), some (vi l2), none]) (st' := []) rfl ?_
            cases e
            exact hg_retV rfl (kr _ rfl _ A18)
          · rcases oi e with ⟨q19, e⟩ | ⟨q19, e⟩
            · refine hg_lsw (off := 188) (tgt := 189) rfl rfl rl2 (show (if (206 : Int) = l2 then (128 : Int) else if (207 : Int) = l2 then (139 : Int) else if (208 : Int) = l2 then (150 : Int) else if (209 : Int) = l2 then (158 : Int) else if (210 : Int) = l2 then (173 : Int) else if (211 : Int) = l2 then (188 : Int) else if (212 : Int) = l2 then (90 : Int) else if (213 : Int) = l2 then (117 : Int) else if (253 : Int) = l2 then (83 : Int) else (210 : Int)) = 188 by rw [if_neg q1, if_neg q4, if_neg q7, if_neg q9, if_neg q14, if_pos q19]) (by decide) ?_
              refine hg_run 1 (pc' := 190) (ls' := [some (vr 22), some (vr l1), some (vi l2), none]) (st' := [vR 22]) rfl ?_
              refine gs_22_6 rfl A ?_
              rcases oi e with ⟨q20, e⟩ | ⟨q20, e⟩
              · refine hg_ifT (tgt := 216) rfl (by decide) (Abs_rg A 22 6) q20 ?_
                cases e
                exact hg_retV rfl (kr _ rfl _ A)
              · refine hg_ifF (tgt := 216) rfl (by decide) (Abs_rg A 22 6) q20 ?_
                refine hg_run 1 (pc' := 197) (ls' := [some (vr 22), some (vr l1), some (vi l2), none]) (st' := [vR 22]) rfl ?_
                refine gs_22_3 rfl A ?_
                rcases oi e with ⟨q21, e⟩ | ⟨q21, e⟩
                · refine hg_ifF (tgt := 216) rfl (by decide) (Abs_rg A 22 3) (show ¬ ¬ ((hI h 22 3) = 0) from fun f => f q21) ?_
                  refine hg_run 2 (pc' := 205) (ls' := [some (vr 22), some (vr l1), some (vi l2), none]) (st' := [vI 5, vR 22]) rfl ?_
                  obtain ⟨h22, e22, e⟩ := ob e
                  refine ps_22_7 rfl A (rgn 5 rfl) e22 (fun w22 A22 => ?_)
                  refine hg_run 1 (pc' := 216) (ls' := [some (vr 22), some (vr l1), some (vi l2), none]) (st' := []) rfl ?_
                  cases e
                  exact hg_retV rfl (kr _ rfl _ A22)
                · refine hg_ifT (tgt := 216) rfl (by decide) (Abs_rg A 22 3) (show ¬ ((hI h 22 3) = 0) from q21) ?_
                  cases e
                  exact hg_retV rfl (kr _ rfl _ A)
            · rcases oi e with ⟨q23, e⟩ | ⟨q23, e⟩
              · refine hg_lsw (off := 90) (tgt := 91) rfl rfl rl2 (show (if (206 : Int) = l2 then (128 : Int) else if (207 : Int) = l2 then (139 : Int) else if (208 : Int) = l2 then (150 : Int) else if (209 : Int) = l2 then (158 : Int) else if (210 : Int) = l2 then (173 : Int) else if (211 : Int) = l2 then (188 : Int) else if (212 : Int) = l2 then (90 : Int) else if (213 : Int) = l2 then (117 : Int) else if (253 : Int) = l2 then (83 : Int) else (210 : Int)) = 90 by rw [if_neg q1, if_neg q4, if_neg q7, if_neg q9, if_neg q14, if_neg q19, if_pos q23]) (by decide) ?_
                refine hg_run 1 (pc' := 92) (ls' := [some (vr 22), some (vr l1), some (vi l2), none]) (st' := [vR l1]) rfl ?_
                obtain ⟨u25, e25, e⟩ := ob e
                obtain ⟨v24, e24, e⟩ := ob e
                refine hg_cI (as := [vR l1]) (st' := []) rfl (fun _ _ _ _ => rfl) rfl rfl (Nat.le_of_ble_eq_true rfl) (Nat.le_of_ble_eq_true rfl) (recvV A (a := 5) (kT_e e25)) (t119 (by omega) A  e24) (fun w24 r24 A24 => ?_)
                refine hg_run 3 (pc' := 98) (ls' := [some (vr 22), some (vr l1), some (vi l2), some (vi v24.1)]) (st' := [vR 22, vR l1]) rfl ?_
                obtain ⟨v26, e26, e⟩ := ob e
                refine hg_cI (as := [vR 22]) (st' := [vR l1]) rfl (fun _ _ _ _ => rfl) rfl rfl (Nat.le_of_ble_eq_true rfl) (Nat.le_of_ble_eq_true rfl) (recvV A24 (a := 4) (Abs_ks A24 (i := 13) rfl).1) (t124 (by omega) A24  e26) (fun w26 r26 A26 => ?_)
                rcases oi e with ⟨q27, e⟩ | ⟨q27, e⟩
                · refine hg_ifF (tgt := 108) rfl (by decide) r26 (show ¬ ¬ (v26.1 = 0) from fun f => f q27) ?_
                  refine hg_run 2 (pc' := 112) (ls' := [some (vr 22), some (vr l1), some (vi l2), some (vi v24.1)]) (st' := [vI v24.1, vR l1]) rfl ?_
                  exact t127_j112 hd r24 A26 e kr
                · refine hg_ifT (tgt := 108) rfl (by decide) r26 (show ¬ (v26.1 = 0) from q27) ?_
                  refine hg_run 1 (pc' := 109) (ls' := [some (vr 22), some (vr l1), some (vi l2), some (vi v24.1)]) (st' := [vR l1, vR l1]) rfl ?_
                  obtain ⟨v28, e28, e⟩ := ob e
                  refine gd_5_4 rfl A26 e28 (fun r28 => ?_)
                  exact t127_j112 hd r28 A26 e kr
              · rcases oi e with ⟨q30, e⟩ | ⟨q30, e⟩
                · refine hg_lsw (off := 117) (tgt := 118) rfl rfl rl2 (show (if (206 : Int) = l2 then (128 : Int) else if (207 : Int) = l2 then (139 : Int) else if (208 : Int) = l2 then (150 : Int) else if (209 : Int) = l2 then (158 : Int) else if (210 : Int) = l2 then (173 : Int) else if (211 : Int) = l2 then (188 : Int) else if (212 : Int) = l2 then (90 : Int) else if (213 : Int) = l2 then (117 : Int) else if (253 : Int) = l2 then (83 : Int) else (210 : Int)) = 117 by rw [if_neg q1, if_neg q4, if_neg q7, if_neg q9, if_neg q14, if_neg q19, if_neg q23, if_pos q30]) (by decide) ?_
                  refine hg_run 2 (pc' := 120) (ls' := [some (vr 22), some (vr l1), some (vi l2), none]) (st' := [vR l1, vR l1]) rfl ?_
                  obtain ⟨u32, e32, e⟩ := ob e
                  obtain ⟨v31, e31, e⟩ := ob e
                  refine hg_cI (as := [vR l1]) (st' := [vR l1]) rfl (fun _ _ _ _ => rfl) rfl rfl (Nat.le_of_ble_eq_true rfl) (Nat.le_of_ble_eq_true rfl) (recvV A (a := 5) (kT_e e32)) (t119 (by omega) A  e31) (fun w31 r31 A31 => ?_)
                  obtain ⟨h33, e33, e⟩ := ob e
                  refine pd_5_4 rfl A31 r31 e33 (fun w33 A33 => ?_)
                  refine hg_run 1 (pc' := 216) (ls' := [some (vr 22), some (vr l1), some (vi l2), none]) (st' := []) rfl ?_
                  cases e
                  exact hg_retV rfl (kr _ rfl _ A33)
                · rcases oi e with ⟨q34, e⟩ | ⟨q34, e⟩
                  · refine hg_lsw (off := 83) (tgt := 84) rfl rfl rl2 (show (if (206 : Int) = l2 then (128 : Int) else if (207 : Int) = l2 then (139 : Int) else if (208 : Int) = l2 then (150 : Int) else if (209 : Int) = l2 then (158 : Int) else if (210 : Int) = l2 then (173 : Int) else if (211 : Int) = l2 then (188 : Int) else if (212 : Int) = l2 then (90 : Int) else if (213 : Int) = l2 then (117 : Int) else if (253 : Int) = l2 then (83 : Int) else (210 : Int)) = 83 by rw [if_neg q1, if_neg q4, if_neg q7, if_neg q9, if_neg q14, if_neg q19, if_neg q23, if_neg q30, if_pos q34]) (by decide) ?_
                    refine hg_run 1 (pc' := 85) (ls' := [some (vr 22), some (vr l1), some (vi l2), none]) (st' := [vR 22]) rfl ?_
                    obtain ⟨h35, e35, e⟩ := ob e
                    refine hg_cV (as := [vR 22]) (st' := []) rfl (fun _ _ _ _ => rfl) rfl rfl (Nat.le_of_ble_eq_true rfl) (Nat.le_of_ble_eq_true rfl) (recvV A (a := 4) (Abs_ks A (i := 13) rfl).1) (t128 (by omega) A  e35) (fun w35 A35 => ?_)
                    refine hg_run 1 (pc' := 216) (ls' := [some (vr 22), some (vr l1), some (vi l2), none]) (st' := []) rfl ?_
                    cases e
                    exact hg_retV rfl (kr _ rfl _ A35)
                  · refine hg_lsw (off := 210) (tgt := 211) rfl rfl rl2 (show (if (206 : Int) = l2 then (128 : Int) else if (207 : Int) = l2 then (139 : Int) else if (208 : Int) = l2 then (150 : Int) else if (209 : Int) = l2 then (158 : Int) else if (210 : Int) = l2 then (173 : Int) else if (211 : Int) = l2 then (188 : Int) else if (212 : Int) = l2 then (90 : Int) else if (213 : Int) = l2 then (117 : Int) else if (253 : Int) = l2 then (83 : Int) else (210 : Int)) = 210 by rw [if_neg q1, if_neg q4, if_neg q7, if_neg q9, if_neg q14, if_neg q19, if_neg q23, if_neg q30, if_neg q34]) (by decide) ?_
                    refine hg_run 2 (pc' := 213) (ls' := [some (vr 22), some (vr l1), some (vi l2), none]) (st' := [vI 0, vR 22]) rfl ?_
                    obtain ⟨h36, e36, e⟩ := ob e
                    refine hg_cV (as := [vR 22, vI 0]) (st' := []) rfl (fun _ _ _ _ => rfl) rfl rfl (Nat.le_of_ble_eq_true rfl) (Nat.le_of_ble_eq_true rfl) (recvV A (a := 4) (Abs_ks A (i := 13) rfl).1) (t129 (by omega) A (rgn 0 rfl) e36) (fun w36 A36 => ?_)
                    cases e
                    exact hg_retV rfl (kr _ rfl _ A36)
def c118_j80 (l3 : Int) (h : hS) : Option ((Int × hS) ⊕ (hS)) :=
  some (.inl ((wadd l3 1), h))
theorem t118_j80 {d : Nat} (hd : 5 ≤ d) {l3 : Int} {z1 : Option hO} {z2 : Option hO} {z4 : Option hO} {z5 : Option hO} {h : hS} {w : mmW} {o : (Int × hS) ⊕ (hS)} {Q : mmO → Prop} (rl3 : rg l3) (A : Abs h w) (e : c118_j80 l3 h = some o) (kb : ∀ (s_0 : Int) (s_1 : hS), o = .inl (s_0, s_1) → ∀ w', ∀ (y4 y5 : Option hO), rg s_0 → Abs s_1 w' → hG d 118 29 [some (vr 22), z1, z2, some (vi s_0), y4, y5] [] w' Q) (ke : ∀ (x_0 : hS), o = .inr (x_0) → ∀ w', ∀ (y3 y4 y5 : Option hO), Abs x_0 w' → hG d 118 86 [some (vr 22), z1, z2, y3, y4, y5] [] w' Q) : hG d 118 80 [some (vr 22), z1, z2, some (vi l3), z4, z5] [] w Q := by
  unfold c118_j80 at e
  refine hg_run 2 (pc' := 29) (ls' := [some (vr 22), z1, z2, some (vi (wadd l3 1)), z4, z5]) (st' := []) rfl ?_
  cases e
  exact kb (wadd l3 1) h rfl _ _ _ (rg_add _ _) A
def c118_b29 (l3 : Int) (h : hS) : Option ((Int × hS) ⊕ (hS)) :=
  if 1000000 ≤ l3 then
  some (.inr (h))
  else
  if (hI h 22 7) = (-1) then
  (aRs h 23 21 (hI h 22 3)).bind (fun v9 =>
  (kT h v9 12).bind (fun u11 =>
  (c119 v9 h).bind (fun v10 =>
  (c120 v9 v10.1 v10.2).bind (fun v12 =>
  if v12.1 = 0 then
  (c127 v9 v10.1 v12.2).bind (fun h14 =>
  c118_j80 l3 h14)
  else
  c118_j80 l3 v12.2))))
  else
  some (.inr (h))
theorem t118_b29 {d : Nat} (hd : 5 ≤ d) {l3 : Int} {z1 : Option hO} {z2 : Option hO} {z4 : Option hO} {z5 : Option hO} {h : hS} {w : mmW} {o : (Int × hS) ⊕ (hS)} {Q : mmO → Prop} (rl3 : rg l3) (A : Abs h w) (e : c118_b29 l3 h = some o) (kb : ∀ (s_0 : Int) (s_1 : hS), o = .inl (s_0, s_1) → ∀ w', ∀ (y4 y5 : Option hO), rg s_0 → Abs s_1 w' → hG d 118 29 [some (vr 22), z1, z2, some (vi s_0), y4, y5] [] w' Q) (ke : ∀ (x_0 : hS), o = .inr (x_0) → ∀ w', ∀ (y3 y4 y5 : Option hO), Abs x_0 w' → hG d 118 86 [some (vr 22), z1, z2, y3, y4, y5] [] w' Q) : hG d 118 29 [some (vr 22), z1, z2, some (vi l3), z4, z5] [] w Q := by
  unfold c118_b29 at e
  refine hg_run 2 (pc' := 32) (ls' := [some (vr 22), z1, z2, some (vi l3), z4, z5]) (st' := [vI 1000000, vI l3]) rfl ?_
  rcases oi e with ⟨q7, e⟩ | ⟨q7, e⟩
  · refine hg_icT (tgt := 86) rfl (by decide) rl3 (rgn 1000000 rfl) q7 ?_
    cases e
    exact ke h rfl _ _ _ _  A
  · refine hg_icF (tgt := 86) rfl (by decide) rl3 (rgn 1000000 rfl) q7 ?_
    refine hg_run 1 (pc' := 36) (ls' := [some (vr 22), z1, z2, some (vi l3), z4, z5]) (st' := [vR 22]) rfl ?_
    refine gs_22_7 rfl A ?_
    refine hg_run 1 (pc' := 40) (ls' := [some (vr 22), z1, z2, some (vi l3), z4, z5]) (st' := [vI (-1), vI (hI h 22 7)]) rfl ?_
    rcases oi e with ⟨q8, e⟩ | ⟨q8, e⟩
    · refine hg_icF (tgt := 86) rfl (by decide) (Abs_rg A 22 7) (rgn (-1) rfl) (show ¬ ¬ ((hI h 22 7) = (-1)) from fun f => f q8) ?_
      refine hg_run 1 (pc' := 44) (ls' := [some (vr 22), z1, z2, some (vi l3), z4, z5]) (st' := [vR 22]) rfl ?_
      refine gs_22_1 rfl A ?_
      refine hg_run 1 (pc' := 48) (ls' := [some (vr 22), z1, z2, some (vi l3), z4, z5]) (st' := [vR 22, vR 23]) rfl ?_
      refine gs_22_3 rfl A ?_
      obtain ⟨v9, e9, e⟩ := ob e
      refine hg_aRs 6 rfl (fun _ _ _ _ => rfl) A (Abs_ks A (i := 14) rfl) rfl (by decide) e9 ?_
      refine hg_run 2 (pc' := 56) (ls' := [some (vr 22), z1, z2, some (vi l3), some (vr v9), z5]) (st' := [vR v9]) rfl ?_
      obtain ⟨u11, e11, e⟩ := ob e
      obtain ⟨v10, e10, e⟩ := ob e
      refine hg_cI (as := [vR v9]) (st' := []) rfl (fun _ _ _ _ => rfl) rfl rfl (Nat.le_of_ble_eq_true rfl) (Nat.le_of_ble_eq_true rfl) (recvV A (a := 5) (kT_e e11)) (t119 (by omega) A  e10) (fun w10 r10 A10 => ?_)
      refine hg_run 4 (pc' := 66) (ls' := [some (vr 22), z1, z2, some (vi l3), some (vr v9), some (vi v10.1)]) (st' := [vI v10.1, vR v9, vR 22]) rfl ?_
      obtain ⟨v12, e12, e⟩ := ob e
      refine hg_cI (as := [vR 22, vR v9, vI v10.1]) (st' := []) rfl (fun _ _ _ _ => rfl) rfl rfl (Nat.le_of_ble_eq_true rfl) (Nat.le_of_ble_eq_true rfl) (recvV A10 (a := 4) (Abs_ks A10 (i := 13) rfl).1) (t120 (by omega) A10 r10 e12) (fun w12 r12 A12 => ?_)
      rcases oi e with ⟨q13, e⟩ | ⟨q13, e⟩
      · refine hg_ifF (tgt := 80) rfl (by decide) r12 (show ¬ ¬ (v12.1 = 0) from fun f => f q13) ?_
        refine hg_run 3 (pc' := 77) (ls' := [some (vr 22), z1, z2, some (vi l3), some (vr v9), some (vi v10.1)]) (st' := [vI v10.1, vR v9, vR 22]) rfl ?_
        obtain ⟨h14, e14, e⟩ := ob e
        refine hg_cV (as := [vR 22, vR v9, vI v10.1]) (st' := []) rfl (fun _ _ _ _ => rfl) rfl rfl (Nat.le_of_ble_eq_true rfl) (Nat.le_of_ble_eq_true rfl) (recvV A12 (a := 4) (Abs_ks A12 (i := 13) rfl).1) (t127 (by omega) A12 r10 e14) (fun w14 A14 => ?_)
        exact t118_j80 hd rl3 A14 e kb ke
      · refine hg_ifT (tgt := 80) rfl (by decide) r12 (show ¬ (v12.1 = 0) from q13) ?_
        exact t118_j80 hd rl3 A12 e kb ke
    · refine hg_icT (tgt := 86) rfl (by decide) (Abs_rg A 22 7) (rgn (-1) rfl) (show ¬ ((hI h 22 7) = (-1)) from q8) ?_
      cases e
      exact ke h rfl _ _ _ _  A
theorem t118_l29 {d : Nat} (hd : 5 ≤ d)  {z1 : Option hO} {z2 : Option hO} {Q : mmO → Prop}  (n : Nat) {l3 : Int} {z4 z5 : Option hO} {h : hS} {w : mmW} {r : hS} (rl3 : rg l3) (A : Abs h w) (e : lp (fun s => c118_b29  s.1 s.2) n (l3, h) = some r) (ke : ∀ (x_0 : hS), r = (x_0) → ∀ w', ∀ (y3 y4 y5 : Option hO), Abs x_0 w' → hG d 118 86 [some (vr 22), z1, z2, y3, y4, y5] [] w' Q) : hG d 118 29 [some (vr 22), z1, z2, some (vi l3), z4, z5] [] w Q := by
  induction n generalizing l3 z4 z5 h w with
  | zero => cases e
  | succ n ih =>
    rcases lp_succ e with ⟨s1, e1, e2⟩ | e1
    · exact t118_b29 hd rl3 A e1 (fun s_0 s_1 q w1 y4 y5 rl3 A1 => by cases q; exact ih rl3 A1 e2) (fun x_0 q => by cases q)
    · exact t118_b29 hd rl3 A e1 (fun s_0 s_1 q => by cases q) (fun x_0 q => by cases q; exact ke _ rfl)
def c118 (l1 : Nat) (l2 : Int) (h : hS) : Option (Int × hS) :=
  (wRs h 23 21 12 0 l1).bind (fun h1 =>
  (some (sI h1 22 3 0)).bind (fun h2 =>
  (some (sI h2 22 5 0)).bind (fun h3 =>
  (kB l2).bind (fun u5 =>
  (some (sI h3 22 6 l2)).bind (fun h4 =>
  (some (sI h4 22 7 (-1))).bind (fun h6 =>
  (lp (fun s => c118_b29  s.1 s.2) hF0 (0, h6)).bind (fun r15 =>
  if (hI r15 22 7) = (-1) then
  some (4, r15)
  else
  some ((hI r15 22 7), r15))))))))
theorem t118 {d : Nat} (hd : 6 ≤ d) {l1 : Nat} {l2 : Int} {h : hS} {w : mmW} {o : Int × hS} (A : Abs h w) (rl2 : rg l2) (e : c118 l1 l2 h = some o) : hEv d 118 [vR 22, vR l1, vI l2] w (qI o) := by
  obtain ⟨d, rfl⟩ : ∃ d1, d = d1 + 1 := ⟨d - 1, by omega⟩
  have hd : 5 ≤ d := by omega
  refine hEv_start (args := [vr 22, vr l1, vi l2]) (nl := 6) rfl (Nat.le_of_ble_eq_true rfl) ?_
  show hG d 118 0 [some (vr 22), some (vr l1), some (vi l2), none, none, none] [] w _
  have kr : ∀ (v1 : Int) (h1 : hS), o = (v1, h1) → ∀ w', rg v1 → Abs h1 w' → qI o (some (.int (Int32.ofInt v1)), w') := fun v1 h1 q w' r A' => by cases q; exact ⟨rfl, r, A'⟩
  unfold c118 at e
  refine hg_run 1 (pc' := 1) (ls' := [some (vr 22), some (vr l1), some (vi l2), none, none, none]) (st' := [vR 22]) rfl ?_
  refine gs_22_1 rfl A ?_
  refine hg_run 2 (pc' := 6) (ls' := [some (vr 22), some (vr l1), some (vi l2), none, none, none]) (st' := [vR l1, vI 0, vR 23]) rfl ?_
  obtain ⟨h1, e1, e⟩ := ob e
  refine hg_wRs 6 rfl A (Abs_ks A (i := 14) rfl) (by decide) (by decide) (by decide) e1 (fun w1 A1 => ?_)
  refine hg_run 2 (pc' := 9) (ls' := [some (vr 22), some (vr l1), some (vi l2), none, none, none]) (st' := [vI 0, vR 22]) rfl ?_
  obtain ⟨h2, e2, e⟩ := ob e
  refine ps_22_3 rfl A1 (rgn 0 rfl) e2 (fun w2 A2 => ?_)
  refine hg_run 2 (pc' := 14) (ls' := [some (vr 22), some (vr l1), some (vi l2), none, none, none]) (st' := [vI 0, vR 22]) rfl ?_
  obtain ⟨h3, e3, e⟩ := ob e
  refine ps_22_5 rfl A2 (rgn 0 rfl) e3 (fun w3 A3 => ?_)
  refine hg_run 2 (pc' := 19) (ls' := [some (vr 22), some (vr l1), some (vi l2), none, none, none]) (st' := [vI l2, vR 22]) rfl ?_
  obtain ⟨u5, e5, e⟩ := ob e
  obtain ⟨h4, e4, e⟩ := ob e
  refine ps_22_6 rfl A3 rl2 (kB_e e5) e4 (fun w4 A4 => ?_)
  refine hg_run 2 (pc' := 24) (ls' := [some (vr 22), some (vr l1), some (vi l2), none, none, none]) (st' := [vI (-1), vR 22]) rfl ?_
  obtain ⟨h6, e6, e⟩ := ob e
  refine ps_22_7 rfl A4 (rgn (-1) rfl) e6 (fun w6 A6 => ?_)
  refine hg_run 2 (pc' := 29) (ls' := [some (vr 22), some (vr l1), some (vi l2), some (vi 0), none, none]) (st' := []) rfl ?_
  obtain ⟨r15, e15, e⟩ := ob e
  refine t118_l29 hd  _ (rgn 0 rfl) A6 e15 ?_
  intro x15_0 qq15 w15 z15_3 z15_4 z15_5 A15
  subst qq15
  refine hg_run 1 (pc' := 87) (ls' := [some (vr 22), some (vr l1), some (vi l2), z15_3, z15_4, z15_5]) (st' := [vR 22]) rfl ?_
  refine gs_22_7 rfl A15 ?_
  refine hg_run 1 (pc' := 91) (ls' := [some (vr 22), some (vr l1), some (vi l2), z15_3, z15_4, z15_5]) (st' := [vI (-1), vI (hI r15 22 7)]) rfl ?_
  rcases oi e with ⟨q16, e⟩ | ⟨q16, e⟩
  · refine hg_icF (tgt := 98) rfl (by decide) (Abs_rg A15 22 7) (rgn (-1) rfl) (show ¬ ¬ ((hI r15 22 7) = (-1)) from fun f => f q16) ?_
    refine hg_run 2 (pc' := 102) (ls' := [some (vr 22), some (vr l1), some (vi l2), z15_3, z15_4, z15_5]) (st' := [vI 4]) rfl ?_
    cases e
    exact hg_retI rfl (by decide) (fit_I _) (kr _ _ rfl _ (rgn 4 rfl) A15)
  · refine hg_icT (tgt := 98) rfl (by decide) (Abs_rg A15 22 7) (rgn (-1) rfl) (show ¬ ((hI r15 22 7) = (-1)) from q16) ?_
    refine hg_run 1 (pc' := 99) (ls' := [some (vr 22), some (vr l1), some (vi l2), z15_3, z15_4, z15_5]) (st' := [vR 22]) rfl ?_
    refine gs_22_7 rfl A15 ?_
    cases e
    exact hg_retI rfl (by decide) (fit_I _) (kr _ _ rfl _ (Abs_rg A15 22 7) A15)
def c113 (l1 : Nat) (l2 : Int) (l3 : Int) (h : hS) : Option (Int × hS) :=
  (c114  h).bind (fun h1 =>
  (gR h1 l1 16 2).bind (fun v2 =>
  (kT h1 v2 24).bind (fun u4 =>
  (c115 v2 l2 h1).bind (fun v3 =>
  (hnul v3).bind (fun b5 =>
  if b5 = true then
  some (2, h1)
  else
  (kT h1 24 12).bind (fun u7 =>
  (c116 24 l1 v3 l2 l3 h1).bind (fun h6 =>
  (c117 24 h6).bind (fun h8 =>
  (c118 24 0 h8).bind (fun v9 =>
  some (v9.1, v9.2))))))))))
theorem t113 {d : Nat} (hd : 7 ≤ d) {l1 : Nat} {l2 : Int} {l3 : Int} {h : hS} {w : mmW} {o : Int × hS} (A : Abs h w) (rl2 : rg l2) (rl3 : rg l3) (e : c113 l1 l2 l3 h = some o) : hEv d 113 [vR 22, vR l1, vI l2, vI l3] w (qI o) := by
  obtain ⟨d, rfl⟩ : ∃ d1, d = d1 + 1 := ⟨d - 1, by omega⟩
  have hd : 6 ≤ d := by omega
  refine hEv_start (args := [vr 22, vr l1, vi l2, vi l3]) (nl := 5) rfl (Nat.le_of_ble_eq_true rfl) ?_
  show hG d 113 0 [some (vr 22), some (vr l1), some (vi l2), some (vi l3), none] [] w _
  have kr : ∀ (v1 : Int) (h1 : hS), o = (v1, h1) → ∀ w', rg v1 → Abs h1 w' → qI o (some (.int (Int32.ofInt v1)), w') := fun v1 h1 q w' r A' => by cases q; exact ⟨rfl, r, A'⟩
  unfold c113 at e
  refine hg_run 1 (pc' := 1) (ls' := [some (vr 22), some (vr l1), some (vi l2), some (vi l3), none]) (st' := [vR 22]) rfl ?_
  obtain ⟨h1, e1, e⟩ := ob e
  refine hg_cV (as := [vR 22]) (st' := []) rfl (fun _ _ _ _ => rfl) rfl rfl (Nat.le_of_ble_eq_true rfl) (Nat.le_of_ble_eq_true rfl) (recvV A (a := 4) (Abs_ks A (i := 13) rfl).1) (t114 (by omega) A  e1) (fun w1 A1 => ?_)
  refine hg_run 1 (pc' := 5) (ls' := [some (vr 22), some (vr l1), some (vi l2), some (vi l3), none]) (st' := [vR l1]) rfl ?_
  obtain ⟨v2, e2, e⟩ := ob e
  refine gd_7_2 rfl A1 e2 ?_
  refine hg_run 1 (pc' := 9) (ls' := [some (vr 22), some (vr l1), some (vi l2), some (vi l3), none]) (st' := [vI l2, vR v2]) rfl ?_
  obtain ⟨u4, e4, e⟩ := ob e
  obtain ⟨v3, e3, e⟩ := ob e
  refine hg_cRp (as := [vR v2, vI l2]) (st' := []) rfl (fun _ _ _ _ => rfl) rfl rfl (Nat.le_of_ble_eq_true rfl) (Nat.le_of_ble_eq_true rfl) (recvV A1 (a := 11) (kT_e e4)) (t115 (by omega) A1 rl2 e3) ?_
  refine hg_run 2 (pc' := 16) (ls' := [some (vr 22), some (vr l1), some (vi l2), some (vi l3), some (vr v3)]) (st' := [vR v3]) rfl ?_
  obtain ⟨b5, e5, e⟩ := ob e
  rcases oi e with ⟨q5, e⟩ | ⟨q5, e⟩
  · refine hg_nul (yes := false) (tgt := 21) (t2 := 19) rfl (fun _ _ _ _ => rfl) (by decide) (ebT e5 q5) rfl ?_
    refine hg_run 1 (pc' := 20) (ls' := [some (vr 22), some (vr l1), some (vi l2), some (vi l3), some (vr v3)]) (st' := [vI 2]) rfl ?_
    cases e
    exact hg_retI rfl (by decide) (fit_I _) (kr _ _ rfl _ (rgn 2 rfl) A1)
  · refine hg_nul (yes := false) (tgt := 21) (t2 := 21) rfl (fun _ _ _ _ => rfl) (by decide) (ebF e5 q5) rfl ?_
    refine hg_run 1 (pc' := 22) (ls' := [some (vr 22), some (vr l1), some (vi l2), some (vi l3), some (vr v3)]) (st' := [vR 22]) rfl ?_
    refine gs_22_2 rfl A1 ?_
    refine hg_run 4 (pc' := 30) (ls' := [some (vr 22), some (vr l1), some (vi l2), some (vi l3), some (vr v3)]) (st' := [vI l3, vI l2, vR v3, vR l1, vR 24]) rfl ?_
    obtain ⟨u7, e7, e⟩ := ob e
    obtain ⟨h6, e6, e⟩ := ob e
    refine hg_cV (as := [vR 24, vR l1, vR v3, vI l2, vI l3]) (st' := []) rfl (fun _ _ _ _ => rfl) rfl rfl (Nat.le_of_ble_eq_true rfl) (Nat.le_of_ble_eq_true rfl) (recvV A1 (a := 5) (kT_e e7)) (t116 (by omega) A1 rl2 rl3 e6) (fun w6 A6 => ?_)
    refine hg_run 2 (pc' := 35) (ls' := [some (vr 22), some (vr l1), some (vi l2), some (vi l3), some (vr v3)]) (st' := [vR 22, vR 22]) rfl ?_
    refine gs_22_2 rfl A6 ?_
    obtain ⟨h8, e8, e⟩ := ob e
    refine hg_cV (as := [vR 22, vR 24]) (st' := []) rfl (fun _ _ _ _ => rfl) rfl rfl (Nat.le_of_ble_eq_true rfl) (Nat.le_of_ble_eq_true rfl) (recvV A6 (a := 4) (Abs_ks A6 (i := 13) rfl).1) (t117 (by omega) A6  e8) (fun w8 A8 => ?_)
    refine hg_run 2 (pc' := 43) (ls' := [some (vr 22), some (vr l1), some (vi l2), some (vi l3), some (vr v3)]) (st' := [vR 22, vR 22]) rfl ?_
    refine gs_22_2 rfl A8 ?_
    refine hg_run 1 (pc' := 47) (ls' := [some (vr 22), some (vr l1), some (vi l2), some (vi l3), some (vr v3)]) (st' := [vI 0, vR 24, vR 22]) rfl ?_
    obtain ⟨v9, e9, e⟩ := ob e
    refine hg_cI (as := [vR 22, vR 24, vI 0]) (st' := []) rfl (fun _ _ _ _ => rfl) rfl rfl (Nat.le_of_ble_eq_true rfl) (Nat.le_of_ble_eq_true rfl) (recvV A8 (a := 4) (Abs_ks A8 (i := 13) rfl).1) (t118 (by omega) A8 (rgn 0 rfl) e9) (fun w9 r9 A9 => ?_)
    cases e
    exact hg_retI rfl (by decide) (fit_I _) (kr _ _ rfl _ r9 A9)
def c112 (l1 : Int) (l2 : Int) (l3 : Int) (h : hS) : Option (Int × hS) :=
  (some (sI h 8 11 0)).bind (fun h1 =>
  (some (sI h1 8 12 0)).bind (fun h2 =>
  (some (sI h2 8 13 0)).bind (fun h3 =>
  (c103 l1 h3).bind (fun v4 =>
  if v4 = 0 then
  some (3, h3)
  else
  (aRs h3 19 40 l1).bind (fun v6 =>
  (c113 v6 l2 l3 h3).bind (fun v7 =>
  (some (sI v7.2 8 11 (hI v7.2 22 8))).bind (fun h8 =>
  (some (sI h8 8 12 (hI h8 22 9))).bind (fun h9 =>
  (some (sI h9 8 13 (hI h9 22 10))).bind (fun h10 =>
  some (v7.1, h10))))))))))
theorem t112 {d : Nat} (hd : 8 ≤ d) {l1 : Int} {l2 : Int} {l3 : Int} {h : hS} {w : mmW} {o : Int × hS} (A : Abs h w) (rl1 : rg l1) (rl2 : rg l2) (rl3 : rg l3) (e : c112 l1 l2 l3 h = some o) : hEv d 112 [vR 8, vI l1, vI l2, vI l3] w (qI o) := by
  obtain ⟨d, rfl⟩ : ∃ d1, d = d1 + 1 := ⟨d - 1, by omega⟩
  have hd : 7 ≤ d := by omega
  refine hEv_start (args := [vr 8, vi l1, vi l2, vi l3]) (nl := 5) rfl (Nat.le_of_ble_eq_true rfl) ?_
  show hG d 112 0 [some (vr 8), some (vi l1), some (vi l2), some (vi l3), none] [] w _
  have kr : ∀ (v1 : Int) (h1 : hS), o = (v1, h1) → ∀ w', rg v1 → Abs h1 w' → qI o (some (.int (Int32.ofInt v1)), w') := fun v1 h1 q w' r A' => by cases q; exact ⟨rfl, r, A'⟩
  unfold c112 at e
  refine hg_run 4 (pc' := 5) (ls' := [some (vr 8), some (vi l1), some (vi l2), some (vi l3), some (vi 3)]) (st' := [vI 0, vR 8]) rfl ?_
  obtain ⟨h1, e1, e⟩ := ob e
  refine ps_8_11 rfl A (rgn 0 rfl) e1 (fun w1 A1 => ?_)
  refine hg_run 2 (pc' := 10) (ls' := [some (vr 8), some (vi l1), some (vi l2), some (vi l3), some (vi 3)]) (st' := [vI 0, vR 8]) rfl ?_
  obtain ⟨h2, e2, e⟩ := ob e
  refine ps_8_12 rfl A1 (rgn 0 rfl) e2 (fun w2 A2 => ?_)
  refine hg_run 2 (pc' := 15) (ls' := [some (vr 8), some (vi l1), some (vi l2), some (vi l3), some (vi 3)]) (st' := [vI 0, vR 8]) rfl ?_
  obtain ⟨h3, e3, e⟩ := ob e
  refine ps_8_13 rfl A2 (rgn 0 rfl) e3 (fun w3 A3 => ?_)
  refine hg_run 2 (pc' := 20) (ls' := [some (vr 8), some (vi l1), some (vi l2), some (vi l3), some (vi 3)]) (st' := [vI l1, vR 8]) rfl ?_
  obtain ⟨v4, e4, e⟩ := ob e
  refine hg_cIp (as := [vR 8, vI l1]) (st' := []) rfl (fun _ _ _ _ => rfl) rfl rfl (Nat.le_of_ble_eq_true rfl) (Nat.le_of_ble_eq_true rfl) (recvV A3 (a := 0) (Abs_ks A3 (i := 0) rfl).1) (t103 (by omega) A3 rl1 e4) (fun r4 => ?_)
  rcases oi e with ⟨q5, e⟩ | ⟨q5, e⟩
  · refine hg_ifT (tgt := 76) rfl (by decide) r4 q5 ?_
    refine hg_run 1 (pc' := 78) (ls' := [some (vr 8), some (vi l1), some (vi l2), some (vi l3), some (vi 3)]) (st' := [vI 3]) rfl ?_
    cases e
    exact hg_retI rfl (by decide) (fit_I _) (kr _ _ rfl _ (rgn 3 rfl) A3)
  · refine hg_ifF (tgt := 76) rfl (by decide) r4 q5 ?_
    refine hg_run 1 (pc' := 27) (ls' := [some (vr 8), some (vi l1), some (vi l2), some (vi l3), some (vi 3)]) (st' := [vR 8]) rfl ?_
    refine gs_8_5 rfl A3 ?_
    refine hg_run 1 (pc' := 31) (ls' := [some (vr 8), some (vi l1), some (vi l2), some (vi l3), some (vi 3)]) (st' := [vR 8, vR 22]) rfl ?_
    refine gs_8_2 rfl A3 ?_
    refine hg_run 1 (pc' := 35) (ls' := [some (vr 8), some (vi l1), some (vi l2), some (vi l3), some (vi 3)]) (st' := [vI l1, vR 19, vR 22]) rfl ?_
    obtain ⟨v6, e6, e⟩ := ob e
    refine hg_aRs 4 rfl (fun _ _ _ _ => rfl) A3 (Abs_ks A3 (i := 10) rfl) rfl (by decide) e6 ?_
    refine hg_run 2 (pc' := 38) (ls' := [some (vr 8), some (vi l1), some (vi l2), some (vi l3), some (vi 3)]) (st' := [vI l3, vI l2, vR v6, vR 22]) rfl ?_
    obtain ⟨v7, e7, e⟩ := ob e
    refine hg_cI (as := [vR 22, vR v6, vI l2, vI l3]) (st' := []) rfl (fun _ _ _ _ => rfl) rfl rfl (Nat.le_of_ble_eq_true rfl) (Nat.le_of_ble_eq_true rfl) (recvV A3 (a := 4) (Abs_ks A3 (i := 13) rfl).1) (t113 (by omega) A3 rl2 rl3 e7) (fun w7 r7 A7 => ?_)
    refine hg_run 3 (pc' := 45) (ls' := [some (vr 8), some (vi l1), some (vi l2), some (vi l3), some (vi v7.1)]) (st' := [vR 8, vR 8]) rfl ?_
    refine gs_8_5 rfl A7 ?_
    refine gs_22_8 rfl A7 ?_
    obtain ⟨h8, e8, e⟩ := ob e
    refine ps_8_11 rfl A7 (Abs_rg A7 22 8) e8 (fun w8 A8 => ?_)
    refine hg_run 2 (pc' := 56) (ls' := [some (vr 8), some (vi l1), some (vi l2), some (vi l3), some (vi v7.1)]) (st' := [vR 8, vR 8]) rfl ?_
    refine gs_8_5 rfl A8 ?_
    refine gs_22_9 rfl A8 ?_
    obtain ⟨h9, e9, e⟩ := ob e
    refine ps_8_12 rfl A8 (Abs_rg A8 22 9) e9 (fun w9 A9 => ?_)
    refine hg_run 2 (pc' := 67) (ls' := [some (vr 8), some (vi l1), some (vi l2), some (vi l3), some (vi v7.1)]) (st' := [vR 8, vR 8]) rfl ?_
    refine gs_8_5 rfl A9 ?_
    refine gs_22_10 rfl A9 ?_
    obtain ⟨h10, e10, e⟩ := ob e
    refine ps_8_13 rfl A9 (Abs_rg A9 22 10) e10 (fun w10 A10 => ?_)
    refine hg_run 1 (pc' := 78) (ls' := [some (vr 8), some (vi l1), some (vi l2), some (vi l3), some (vi v7.1)]) (st' := [vI v7.1]) rfl ?_
    cases e
    exact hg_retI rfl (by decide) (fit_I _) (kr _ _ rfl _ r7 A10)
def c134 (l1 : Int) (h : hS) : Option (Int) :=
  if l1 < 0 ∨ 2 < l1 then
  some (-1)
  else
  if l1 = 0 then
  some (hI h 8 11)
  else
  if l1 = 1 then
  some (hI h 8 12)
  else
  if l1 = 2 then
  some (hI h 8 13)
  else
  none
theorem t134 {d : Nat} (hd : 1 ≤ d) {l1 : Int} {h : hS} {w : mmW} {o : Int} (A : Abs h w) (rl1 : rg l1) (e : c134 l1 h = some o) : hEv d 134 [vR 8, vI l1] w (qIp o w) := by
  obtain ⟨d, rfl⟩ : ∃ d1, d = d1 + 1 := ⟨d - 1, by omega⟩
  have hd : 0 ≤ d := by omega
  refine hEv_start (args := [vr 8, vi l1]) (nl := 2) rfl (Nat.le_of_ble_eq_true rfl) ?_
  show hG d 134 0 [some (vr 8), some (vi l1)] [] w _
  have kr : ∀ v1 : Int, o = v1 → rg v1 → qIp o w (some (.int (Int32.ofInt v1)), w) := fun v1 q r => by cases q; exact ⟨rfl, r⟩
  unfold c134 at e
  refine hg_run 1 (pc' := 1) (ls' := [some (vr 8), some (vi l1)]) (st' := [vI l1]) rfl ?_
  rcases oi e with ⟨q1, e⟩ | ⟨q1, e⟩
  · refine hg_tsD (tgt := 43) rfl rl1 q1 (by decide) ?_
    refine hg_run 1 (pc' := 44) (ls' := [some (vr 8), some (vi l1)]) (st' := [vI (-1)]) rfl ?_
    cases e
    exact hg_retI rfl (by decide) (fit_I _) (kr _ rfl (rgn (-1) rfl))
  · rcases oi e with ⟨q2, e⟩ | ⟨q2, e⟩
    · refine hg_tsC (tgt := 28) rfl rl1 q2 (by decide) rfl (by decide) ?_
      refine hg_run 1 (pc' := 29) (ls' := [some (vr 8), some (vi l1)]) (st' := [vR 8]) rfl ?_
      refine gs_8_11 rfl A ?_
      cases e
      exact hg_retI rfl (by decide) (fit_I _) (kr _ rfl (Abs_rg A 8 11))
    · rcases oi e with ⟨q3, e⟩ | ⟨q3, e⟩
      · refine hg_tsC (tgt := 33) rfl rl1 q3 (by decide) rfl (by decide) ?_
        refine hg_run 1 (pc' := 34) (ls' := [some (vr 8), some (vi l1)]) (st' := [vR 8]) rfl ?_
        refine gs_8_12 rfl A ?_
        cases e
        exact hg_retI rfl (by decide) (fit_I _) (kr _ rfl (Abs_rg A 8 12))
      · rcases oi e with ⟨q4, e⟩ | ⟨q4, e⟩
        · refine hg_tsC (tgt := 38) rfl rl1 q4 (by decide) rfl (by decide) ?_
          refine hg_run 1 (pc' := 39) (ls' := [some (vr 8), some (vi l1)]) (st' := [vR 8]) rfl ?_
          refine gs_8_13 rfl A ?_
          cases e
          exact hg_retI rfl (by decide) (fit_I _) (kr _ rfl (Abs_rg A 8 13))
        · cases e
def c135_j22 (l1 : Int) (h : hS) : Option (Int × hS) :=
  (some (sI h 8 10 l1)).bind (fun h2 =>
  some (1, h2))
theorem t135_j22 {d : Nat} (hd : 0 ≤ d) {l1 : Int}  {h : hS} {w : mmW} {o : Int × hS} {Q : mmO → Prop} (rl1 : rg l1) (A : Abs h w) (e : c135_j22 l1 h = some o) (kr : ∀ (v1 : Int) (h1 : hS), o = (v1, h1) → ∀ w', rg v1 → Abs h1 w' → Q (some (.int (Int32.ofInt v1)), w')) : hG d 135 22 [some (vr 8), some (vi l1)] [] w Q := by
  unfold c135_j22 at e
  refine hg_run 2 (pc' := 24) (ls' := [some (vr 8), some (vi l1)]) (st' := [vI l1, vR 8]) rfl ?_
  obtain ⟨h2, e2, e⟩ := ob e
  refine ps_8_10 rfl A rl1 e2 (fun w2 A2 => ?_)
  refine hg_run 1 (pc' := 28) (ls' := [some (vr 8), some (vi l1)]) (st' := [vI 1]) rfl ?_
  cases e
  exact hg_retI rfl (by decide) (fit_B (.inr rfl)) (kr _ _ rfl _ (rgn 1 rfl) A2)
def c135 (l1 : Int) (h : hS) : Option (Int × hS) :=
  if l1 = (-1) then
  c135_j22 l1 h
  else
  if l1 < 0 then
  some (0, h)
  else
  if l1 < (hI h 15 2) then
  c135_j22 l1 h
  else
  some (0, h)
theorem t135 {d : Nat} (hd : 1 ≤ d) {l1 : Int} {h : hS} {w : mmW} {o : Int × hS} (A : Abs h w) (rl1 : rg l1) (e : c135 l1 h = some o) : hEv d 135 [vR 8, vI l1] w (qI o) := by
  obtain ⟨d, rfl⟩ : ∃ d1, d = d1 + 1 := ⟨d - 1, by omega⟩
  have hd : 0 ≤ d := by omega
  refine hEv_start (args := [vr 8, vi l1]) (nl := 2) rfl (Nat.le_of_ble_eq_true rfl) ?_
  show hG d 135 0 [some (vr 8), some (vi l1)] [] w _
  have kr : ∀ (v1 : Int) (h1 : hS), o = (v1, h1) → ∀ w', rg v1 → Abs h1 w' → qI o (some (.int (Int32.ofInt v1)), w') := fun v1 h1 q w' r A' => by cases q; exact ⟨rfl, r, A'⟩
  unfold c135 at e
  refine hg_run 2 (pc' := 2) (ls' := [some (vr 8), some (vi l1)]) (st' := [vI (-1), vI l1]) rfl ?_
  rcases oi e with ⟨q1, e⟩ | ⟨q1, e⟩
  · refine hg_icT (tgt := 22) rfl (by decide) rl1 (rgn (-1) rfl) q1 ?_
    exact t135_j22 hd rl1 A e kr
  · refine hg_icF (tgt := 22) rfl (by decide) rl1 (rgn (-1) rfl) q1 ?_
    refine hg_run 1 (pc' := 6) (ls' := [some (vr 8), some (vi l1)]) (st' := [vI l1]) rfl ?_
    rcases oi e with ⟨q3, e⟩ | ⟨q3, e⟩
    · refine hg_ifT (tgt := 20) rfl (by decide) rl1 q3 ?_
      refine hg_run 1 (pc' := 21) (ls' := [some (vr 8), some (vi l1)]) (st' := [vI 0]) rfl ?_
      cases e
      exact hg_retI rfl (by decide) (fit_B (.inl rfl)) (kr _ _ rfl _ (rgn 0 rfl) A)
    · refine hg_ifF (tgt := 20) rfl (by decide) rl1 q3 ?_
      refine hg_run 2 (pc' := 11) (ls' := [some (vr 8), some (vi l1)]) (st' := [vR 8, vI l1]) rfl ?_
      refine gs_8_1 rfl A ?_
      refine gs_15_2 rfl A ?_
      rcases oi e with ⟨q4, e⟩ | ⟨q4, e⟩
      · refine hg_icT (tgt := 22) rfl (by decide) rl1 (Abs_rg A 15 2) q4 ?_
        exact t135_j22 hd rl1 A e kr
      · refine hg_icF (tgt := 22) rfl (by decide) rl1 (Abs_rg A 15 2) q4 ?_
        refine hg_run 1 (pc' := 21) (ls' := [some (vr 8), some (vi l1)]) (st' := [vI 0]) rfl ?_
        cases e
        exact hg_retI rfl (by decide) (fit_B (.inl rfl)) (kr _ _ rfl _ (rgn 0 rfl) A)
def c137 (l1 : Nat) (h : hS) : Option (Int × hS) :=
  (c114  h).bind (fun h1 =>
  (c118 l1 1 h1).bind (fun v2 =>
  some (v2.1, v2.2)))
theorem t137 {d : Nat} (hd : 7 ≤ d) {l1 : Nat} {h : hS} {w : mmW} {o : Int × hS} (A : Abs h w)  (e : c137 l1 h = some o) : hEv d 137 [vR 22, vR l1] w (qI o) := by
  obtain ⟨d, rfl⟩ : ∃ d1, d = d1 + 1 := ⟨d - 1, by omega⟩
  have hd : 6 ≤ d := by omega
  refine hEv_start (args := [vr 22, vr l1]) (nl := 2) rfl (Nat.le_of_ble_eq_true rfl) ?_
  show hG d 137 0 [some (vr 22), some (vr l1)] [] w _
  have kr : ∀ (v1 : Int) (h1 : hS), o = (v1, h1) → ∀ w', rg v1 → Abs h1 w' → qI o (some (.int (Int32.ofInt v1)), w') := fun v1 h1 q w' r A' => by cases q; exact ⟨rfl, r, A'⟩
  unfold c137 at e
  refine hg_run 1 (pc' := 1) (ls' := [some (vr 22), some (vr l1)]) (st' := [vR 22]) rfl ?_
  obtain ⟨h1, e1, e⟩ := ob e
  refine hg_cV (as := [vR 22]) (st' := []) rfl (fun _ _ _ _ => rfl) rfl rfl (Nat.le_of_ble_eq_true rfl) (Nat.le_of_ble_eq_true rfl) (recvV A (a := 4) (Abs_ks A (i := 13) rfl).1) (t114 (by omega) A  e1) (fun w1 A1 => ?_)
  refine hg_run 3 (pc' := 7) (ls' := [some (vr 22), some (vr l1)]) (st' := [vI 1, vR l1, vR 22]) rfl ?_
  obtain ⟨v2, e2, e⟩ := ob e
  refine hg_cI (as := [vR 22, vR l1, vI 1]) (st' := []) rfl (fun _ _ _ _ => rfl) rfl rfl (Nat.le_of_ble_eq_true rfl) (Nat.le_of_ble_eq_true rfl) (recvV A1 (a := 4) (Abs_ks A1 (i := 13) rfl).1) (t118 (by omega) A1 (rgn 1 rfl) e2) (fun w2 r2 A2 => ?_)
  cases e
  exact hg_retI rfl (by decide) (fit_I _) (kr _ _ rfl _ r2 A2)
def c138_j40 (s0 : Nat) (s1 : Int) (h : hS) : Option (hS) :=
  (pI h s0 20 6 s1).bind (fun h6 =>
  some h6)
theorem t138_j40 {d : Nat} (hd : 0 ≤ d) {s0 : Nat} {s1 : Int} {z0 : Option hO} {z1 : Option hO} {z2 : Option hO} {h : hS} {w : mmW} {o : hS} {Q : mmO → Prop} (rs1 : rg s1) (A : Abs h w) (e : c138_j40 s0 s1 h = some o) (kr : ∀ h1 : hS, o = h1 → ∀ w', Abs h1 w' → Q (none, w')) : hG d 138 40 [z0, z1, z2] [vI s1, vR s0] w Q := by
  unfold c138_j40 at e
  obtain ⟨h6, e6, e⟩ := ob e
  refine pd_9_6 rfl A rs1 e6 (fun w6 A6 => ?_)
  cases e
  exact hg_retV rfl (kr _ rfl _ A6)
def c138_j15 (l0 : Nat) (l1 : Int) (l2 : Int) (h : hS) : Option (hS) :=
  if l1 = 5 then
  some h
  else
  (pI h l0 20 2 0).bind (fun h3 =>
  (pI h3 l0 20 5 l1).bind (fun h4 =>
  if l1 = 0 then
  c138_j40 l0 l2 h4
  else
  c138_j40 l0 0 h4))
theorem t138_j15 {d : Nat} (hd : 0 ≤ d) {l0 : Nat} {l1 : Int} {l2 : Int}  {h : hS} {w : mmW} {o : hS} {Q : mmO → Prop} (rl1 : rg l1) (rl2 : rg l2) (A : Abs h w) (e : c138_j15 l0 l1 l2 h = some o) (kr : ∀ h1 : hS, o = h1 → ∀ w', Abs h1 w' → Q (none, w')) : hG d 138 15 [some (vr l0), some (vi l1), some (vi l2)] [] w Q := by
  unfold c138_j15 at e
  refine hg_run 2 (pc' := 17) (ls' := [some (vr l0), some (vi l1), some (vi l2)]) (st' := [vI 5, vI l1]) rfl ?_
  rcases oi e with ⟨q2, e⟩ | ⟨q2, e⟩
  · refine hg_icT (tgt := 43) rfl (by decide) rl1 (rgn 5 rfl) q2 ?_
    cases e
    exact hg_retV rfl (kr _ rfl _ A)
  · refine hg_icF (tgt := 43) rfl (by decide) rl1 (rgn 5 rfl) q2 ?_
    refine hg_run 2 (pc' := 22) (ls' := [some (vr l0), some (vi l1), some (vi l2)]) (st' := [vI 0, vR l0]) rfl ?_
    obtain ⟨h3, e3, e⟩ := ob e
    refine pd_9_2 rfl A (rgn 0 rfl) (.inl rfl) e3 (fun w3 A3 => ?_)
    refine hg_run 2 (pc' := 27) (ls' := [some (vr l0), some (vi l1), some (vi l2)]) (st' := [vI l1, vR l0]) rfl ?_
    obtain ⟨h4, e4, e⟩ := ob e
    refine pd_9_5 rfl A3 rl1 e4 (fun w4 A4 => ?_)
    refine hg_run 2 (pc' := 32) (ls' := [some (vr l0), some (vi l1), some (vi l2)]) (st' := [vI l1, vR l0]) rfl ?_
    rcases oi e with ⟨q5, e⟩ | ⟨q5, e⟩
    · refine hg_ifF (tgt := 39) rfl (by decide) rl1 (show ¬ ¬ (l1 = 0) from fun f => f q5) ?_
      refine hg_run 2 (pc' := 40) (ls' := [some (vr l0), some (vi l1), some (vi l2)]) (st' := [vI l2, vR l0]) rfl ?_
      exact t138_j40 hd rl2 A4 e kr
    · refine hg_ifT (tgt := 39) rfl (by decide) rl1 (show ¬ (l1 = 0) from q5) ?_
      refine hg_run 1 (pc' := 40) (ls' := [some (vr l0), some (vi l1), some (vi l2)]) (st' := [vI 0, vR l0]) rfl ?_
      exact t138_j40 hd (rgn 0 rfl) A4 e kr
def c138 (l0 : Nat) (l1 : Int) (l2 : Int) (h : hS) : Option (hS) :=
  if l1 = 3 then
  c138_j15 l0 l1 l2 h
  else
  (gI h l0 20 4).bind (fun v7 =>
  (pI h l0 20 4 (wadd v7 1)).bind (fun h8 =>
  c138_j15 l0 l1 l2 h8))
theorem t138 {d : Nat} (hd : 1 ≤ d) {l0 : Nat} {l1 : Int} {l2 : Int} {h : hS} {w : mmW} {o : hS} (A : Abs h w) (rl1 : rg l1) (rl2 : rg l2) (e : c138 l0 l1 l2 h = some o) : hEv d 138 [vR l0, vI l1, vI l2] w (qV o) := by
  obtain ⟨d, rfl⟩ : ∃ d1, d = d1 + 1 := ⟨d - 1, by omega⟩
  have hd : 0 ≤ d := by omega
  refine hEv_start (args := [vr l0, vi l1, vi l2]) (nl := 3) rfl (Nat.le_of_ble_eq_true rfl) ?_
  show hG d 138 0 [some (vr l0), some (vi l1), some (vi l2)] [] w _
  have kr : ∀ h1 : hS, o = h1 → ∀ w', Abs h1 w' → qV o (none, w') := fun h1 q w' A' => by cases q; exact ⟨rfl, A'⟩
  unfold c138 at e
  refine hg_run 2 (pc' := 2) (ls' := [some (vr l0), some (vi l1), some (vi l2)]) (st' := [vI 3, vI l1]) rfl ?_
  rcases oi e with ⟨q1, e⟩ | ⟨q1, e⟩
  · refine hg_icT (tgt := 15) rfl (by decide) rl1 (rgn 3 rfl) q1 ?_
    exact t138_j15 hd rl1 rl2 A e kr
  · refine hg_icF (tgt := 15) rfl (by decide) rl1 (rgn 3 rfl) q1 ?_
    refine hg_run 2 (pc' := 7) (ls' := [some (vr l0), some (vi l1), some (vi l2)]) (st' := [vR l0, vR l0]) rfl ?_
    obtain ⟨v7, e7, e⟩ := ob e
    refine gd_9_4 rfl A e7 (fun r7 => ?_)
    refine hg_run 2 (pc' := 12) (ls' := [some (vr l0), some (vi l1), some (vi l2)]) (st' := [vI (wadd v7 1), vR l0]) rfl ?_
    obtain ⟨h8, e8, e⟩ := ob e
    refine pd_9_4 rfl A (rg_add _ _) e8 (fun w8 A8 => ?_)
    exact t138_j15 hd rl1 rl2 A8 e kr
def c141 (l0 : Nat) (h : hS) : Option (Nat × hS) :=
  (some (mkH h 24 19)).bind (fun h1 =>
  (gI h1 l0 24 0).bind (fun v2 =>
  (k8 (hN h)).bind (fun u4 =>
  (c57 (hN h) v2 h1).bind (fun h3 =>
  (gI h3 l0 24 2).bind (fun v5 =>
  (pI h3 (hN h) 24 2 v5).bind (fun h6 =>
  (gI h6 l0 24 4).bind (fun v7 =>
  (pI h6 (hN h) 24 4 v7).bind (fun h8 =>
  (gR h8 l0 24 5).bind (fun v9 =>
  (gR h8 (hN h) 24 5).bind (fun v10 =>
  (gI h8 l0 24 4).bind (fun v11 =>
  (cpI h8 v9 v10 1 0 0 v11).bind (fun h12 =>
  (gR h12 l0 24 6).bind (fun v13 =>
  (gR h12 (hN h) 24 6).bind (fun v14 =>
  (gI h12 l0 24 4).bind (fun v15 =>
  (cpI h12 v13 v14 1 0 0 v15).bind (fun h16 =>
  (gR h16 l0 24 5).bind (fun v17 =>
  (gR h16 (hN h) 24 7).bind (fun v18 =>
  (gI h16 l0 24 4).bind (fun v19 =>
  (cpI h16 v17 v18 1 0 0 v19).bind (fun h20 =>
  (gI h20 l0 24 8).bind (fun v21 =>
  (pI h20 (hN h) 24 8 v21).bind (fun h22 =>
  (gR h22 l0 24 9).bind (fun v23 =>
  (gR h22 (hN h) 24 9).bind (fun v24 =>
  (gI h22 l0 24 8).bind (fun v25 =>
  (cpI h22 v23 v24 1 0 0 v25).bind (fun h26 =>
  (gR h26 l0 24 10).bind (fun v27 =>
  (gR h26 (hN h) 24 10).bind (fun v28 =>
  (gI h26 l0 24 8).bind (fun v29 =>
  (cpI h26 v27 v28 1 0 0 v29).bind (fun h30 =>
  (gI h30 l0 24 11).bind (fun v31 =>
  (pI h30 (hN h) 24 11 v31).bind (fun h32 =>
  (gR h32 l0 24 12).bind (fun v33 =>
  (gR h32 (hN h) 24 12).bind (fun v34 =>
  (gI h32 l0 24 11).bind (fun v35 =>
  (cpI h32 v33 v34 1 0 0 v35).bind (fun h36 =>
  (gR h36 l0 24 13).bind (fun v37 =>
  (gR h36 (hN h) 24 13).bind (fun v38 =>
  (gI h36 l0 24 11).bind (fun v39 =>
  (cpR h36 v37 v38 21 1 0 0 v39).bind (fun h40 =>
  some ((hN h), h40)))))))))))))))))))))))))))))))))))))))))
set_option maxRecDepth 100000 in
theorem t141 {d : Nat} (hd : 2 ≤ d) {l0 : Nat} {h : hS} {w : mmW} {o : Nat × hS} (A : Abs h w)  (e : c141 l0 h = some o) : hEv d 141 [vR l0] w (qR o) := by
  obtain ⟨d, rfl⟩ : ∃ d1, d = d1 + 1 := ⟨d - 1, by omega⟩
  have hd : 1 ≤ d := by omega
  refine hEv_start (args := [vr l0]) (nl := 2) rfl (Nat.le_of_ble_eq_true rfl) ?_
  show hG d 141 0 [some (vr l0), none] [] w _
  have kr : ∀ (v1 : Nat) (h1 : hS), o = (v1, h1) → ∀ w', Abs h1 w' → qR o (some (rv v1), w') := fun v1 h1 q w' A' => by cases q; exact ⟨rfl, A'⟩
  unfold c141 at e
  obtain ⟨h1, e1, e⟩ := ob e
  refine hg_new (a := 11) rfl A (by decide +kernel) (by decide) e1 (fun w1 A1 => ?_)
  refine hg_run 2 (pc' := 5) (ls' := [some (vr l0), none]) (st' := [vR l0, vR (hN h), vR (hN h)]) rfl ?_
  obtain ⟨v2, e2, e⟩ := ob e
  refine gd_11_0 rfl A1 e2 (fun r2 => ?_)
  obtain ⟨u4, e4, e⟩ := ob e
  obtain ⟨h3, e3, e⟩ := ob e
  refine hg_cV (as := [vR (hN h), vI v2]) (st' := [vR (hN h)]) rfl (fun _ _ _ _ => rfl) rfl rfl (Nat.le_of_ble_eq_true rfl) (Nat.le_of_ble_eq_true rfl) (recv1 (k8_e e4)) (t57 (by omega) A1 r2 e3) (fun w3 A3 => ?_)
  refine hg_run 3 (pc' := 14) (ls' := [some (vr l0), some (vr (hN h))]) (st' := [vR l0, vR (hN h)]) rfl ?_
  obtain ⟨v5, e5, e⟩ := ob e
  refine gd_11_2 rfl A3 e5 (fun r5 => ?_)
  obtain ⟨h6, e6, e⟩ := ob e
  refine pd_11_2 rfl A3 r5 e6 (fun w6 A6 => ?_)
  refine hg_run 2 (pc' := 22) (ls' := [some (vr l0), some (vr (hN h))]) (st' := [vR l0, vR (hN h)]) rfl ?_
  obtain ⟨v7, e7, e⟩ := ob e
  refine gd_11_4 rfl A6 e7 (fun r7 => ?_)
  obtain ⟨h8, e8, e⟩ := ob e
  refine pd_11_4 rfl A6 r7 e8 (fun w8 A8 => ?_)
  refine hg_run 1 (pc' := 29) (ls' := [some (vr l0), some (vr (hN h))]) (st' := [vR l0]) rfl ?_
  obtain ⟨v9, e9, e⟩ := ob e
  refine gd_11_5 rfl A8 e9 ?_
  refine hg_run 2 (pc' := 34) (ls' := [some (vr l0), some (vr (hN h))]) (st' := [vR (hN h), vI 0, vR v9]) rfl ?_
  obtain ⟨v10, e10, e⟩ := ob e
  refine gd_11_5 rfl A8 e10 ?_
  refine hg_run 2 (pc' := 39) (ls' := [some (vr l0), some (vr (hN h))]) (st' := [vR l0, vI 0, vR v10, vI 0, vR v9]) rfl ?_
  obtain ⟨v11, e11, e⟩ := ob e
  refine gd_11_4 rfl A8 e11 (fun r11 => ?_)
  obtain ⟨h12, e12, e⟩ := ob e
  refine hg_cpI (t := 0) rfl A8 (by decide) (Nat.le_of_ble_eq_true rfl) e12 (fun w12 A12 => ?_)
  refine hg_run 1 (pc' := 46) (ls' := [some (vr l0), some (vr (hN h))]) (st' := [vR l0]) rfl ?_
  obtain ⟨v13, e13, e⟩ := ob e
  refine gd_11_6 rfl A12 e13 ?_
  refine hg_run 2 (pc' := 51) (ls' := [some (vr l0), some (vr (hN h))]) (st' := [vR (hN h), vI 0, vR v13]) rfl ?_
  obtain ⟨v14, e14, e⟩ := ob e
  refine gd_11_6 rfl A12 e14 ?_
  refine hg_run 2 (pc' := 56) (ls' := [some (vr l0), some (vr (hN h))]) (st' := [vR l0, vI 0, vR v14, vI 0, vR v13]) rfl ?_
  obtain ⟨v15, e15, e⟩ := ob e
  refine gd_11_4 rfl A12 e15 (fun r15 => ?_)
  obtain ⟨h16, e16, e⟩ := ob e
  refine hg_cpI (t := 0) rfl A12 (by decide) (Nat.le_of_ble_eq_true rfl) e16 (fun w16 A16 => ?_)
  refine hg_run 1 (pc' := 63) (ls' := [some (vr l0), some (vr (hN h))]) (st' := [vR l0]) rfl ?_
  obtain ⟨v17, e17, e⟩ := ob e
  refine gd_11_5 rfl A16 e17 ?_
  refine hg_run 2 (pc' := 68) (ls' := [some (vr l0), some (vr (hN h))]) (st' := [vR (hN h), vI 0, vR v17]) rfl ?_
  obtain ⟨v18, e18, e⟩ := ob e
  refine gd_11_7 rfl A16 e18 ?_
  refine hg_run 2 (pc' := 73) (ls' := [some (vr l0), some (vr (hN h))]) (st' := [vR l0, vI 0, vR v18, vI 0, vR v17]) rfl ?_
  obtain ⟨v19, e19, e⟩ := ob e
  refine gd_11_4 rfl A16 e19 (fun r19 => ?_)
  obtain ⟨h20, e20, e⟩ := ob e
  refine hg_cpI (t := 0) rfl A16 (by decide) (Nat.le_of_ble_eq_true rfl) e20 (fun w20 A20 => ?_)
  refine hg_run 2 (pc' := 81) (ls' := [some (vr l0), some (vr (hN h))]) (st' := [vR l0, vR (hN h)]) rfl ?_
  obtain ⟨v21, e21, e⟩ := ob e
  refine gd_11_8 rfl A20 e21 (fun r21 => ?_)
  obtain ⟨h22, e22, e⟩ := ob e
  refine pd_11_8 rfl A20 r21 e22 (fun w22 A22 => ?_)
  refine hg_run 1 (pc' := 88) (ls' := [some (vr l0), some (vr (hN h))]) (st' := [vR l0]) rfl ?_
  obtain ⟨v23, e23, e⟩ := ob e
  refine gd_11_9 rfl A22 e23 ?_
  refine hg_run 2 (pc' := 93) (ls' := [some (vr l0), some (vr (hN h))]) (st' := [vR (hN h), vI 0, vR v23]) rfl ?_
  obtain ⟨v24, e24, e⟩ := ob e
  refine gd_11_9 rfl A22 e24 ?_
  refine hg_run 2 (pc' := 98) (ls' := [some (vr l0), some (vr (hN h))]) (st' := [vR l0, vI 0, vR v24, vI 0, vR v23]) rfl ?_
  obtain ⟨v25, e25, e⟩ := ob e
  refine gd_11_8 rfl A22 e25 (fun r25 => ?_)
  obtain ⟨h26, e26, e⟩ := ob e
  refine hg_cpI (t := 0) rfl A22 (by decide) (Nat.le_of_ble_eq_true rfl) e26 (fun w26 A26 => ?_)
  refine hg_run 1 (pc' := 105) (ls' := [some (vr l0), some (vr (hN h))]) (st' := [vR l0]) rfl ?_
  obtain ⟨v27, e27, e⟩ := ob e
  refine gd_11_10 rfl A26 e27 ?_
  refine hg_run 2 (pc' := 110) (ls' := [some (vr l0), some (vr (hN h))]) (st' := [vR (hN h), vI 0, vR v27]) rfl ?_
  obtain ⟨v28, e28, e⟩ := ob e
  refine gd_11_10 rfl A26 e28 ?_
  refine hg_run 2 (pc' := 115) (ls' := [some (vr l0), some (vr (hN h))]) (st' := [vR l0, vI 0, vR v28, vI 0, vR v27]) rfl ?_
  obtain ⟨v29, e29, e⟩ := ob e
  refine gd_11_8 rfl A26 e29 (fun r29 => ?_)
  obtain ⟨h30, e30, e⟩ := ob e
  refine hg_cpI (t := 0) rfl A26 (by decide) (Nat.le_of_ble_eq_true rfl) e30 (fun w30 A30 => ?_)
  refine hg_run 2 (pc' := 123) (ls' := [some (vr l0), some (vr (hN h))]) (st' := [vR l0, vR (hN h)]) rfl ?_
  obtain ⟨v31, e31, e⟩ := ob e
  refine gd_11_11 rfl A30 e31 (fun r31 => ?_)
  obtain ⟨h32, e32, e⟩ := ob e
  refine pd_11_11 rfl A30 r31 e32 (fun w32 A32 => ?_)
  refine hg_run 1 (pc' := 130) (ls' := [some (vr l0), some (vr (hN h))]) (st' := [vR l0]) rfl ?_
  obtain ⟨v33, e33, e⟩ := ob e
  refine gd_11_12 rfl A32 e33 ?_
  refine hg_run 2 (pc' := 135) (ls' := [some (vr l0), some (vr (hN h))]) (st' := [vR (hN h), vI 0, vR v33]) rfl ?_
  obtain ⟨v34, e34, e⟩ := ob e
  refine gd_11_12 rfl A32 e34 ?_
  refine hg_run 2 (pc' := 140) (ls' := [some (vr l0), some (vr (hN h))]) (st' := [vR l0, vI 0, vR v34, vI 0, vR v33]) rfl ?_
  obtain ⟨v35, e35, e⟩ := ob e
  refine gd_11_11 rfl A32 e35 (fun r35 => ?_)
  obtain ⟨h36, e36, e⟩ := ob e
  refine hg_cpI (t := 0) rfl A32 (by decide) (Nat.le_of_ble_eq_true rfl) e36 (fun w36 A36 => ?_)
  refine hg_run 1 (pc' := 147) (ls' := [some (vr l0), some (vr (hN h))]) (st' := [vR l0]) rfl ?_
  obtain ⟨v37, e37, e⟩ := ob e
  refine gd_11_13 rfl A36 e37 ?_
  refine hg_run 2 (pc' := 152) (ls' := [some (vr l0), some (vr (hN h))]) (st' := [vR (hN h), vI 0, vR v37]) rfl ?_
  obtain ⟨v38, e38, e⟩ := ob e
  refine gd_11_13 rfl A36 e38 ?_
  refine hg_run 2 (pc' := 157) (ls' := [some (vr l0), some (vr (hN h))]) (st' := [vR l0, vI 0, vR v38, vI 0, vR v37]) rfl ?_
  obtain ⟨v39, e39, e⟩ := ob e
  refine gd_11_11 rfl A36 e39 (fun r39 => ?_)
  obtain ⟨h40, e40, e⟩ := ob e
  refine hg_cpR (t := 10) rfl A36 (by decide) (by decide) (Nat.le_of_ble_eq_true rfl) e40 (fun w40 A40 => ?_)
  refine hg_run 1 (pc' := 164) (ls' := [some (vr l0), some (vr (hN h))]) (st' := [vR (hN h)]) rfl ?_
  cases e
  exact hg_retR rfl (kr _ _ rfl _ A40)
def c140_b18 (l0 : Nat) (l1 : Nat) (l2 : Int) (h : hS) : Option ((Int × hS) ⊕ (hS)) :=
  (gI h l0 18 1).bind (fun v6 =>
  if v6 ≤ l2 then
  some (.inr (h))
  else
  (gR h l1 18 0).bind (fun v8 =>
  (gR h l0 18 0).bind (fun v9 =>
  (aR h v9 17 l2).bind (fun v10 =>
  (kT h v10 24).bind (fun u12 =>
  (c141 v10 h).bind (fun v11 =>
  (wR v11.2 v8 17 24 l2 v11.1).bind (fun h13 =>
  some (.inl ((wadd l2 1), h13)))))))))
theorem t140_b18 {d : Nat} (hd : 2 ≤ d) {l0 : Nat} {l1 : Nat} {l2 : Int} {z3 : Option hO} {h : hS} {w : mmW} {o : (Int × hS) ⊕ (hS)} {Q : mmO → Prop} (rl2 : rg l2) (A : Abs h w) (e : c140_b18 l0 l1 l2 h = some o) (kb : ∀ (s_0 : Int) (s_1 : hS), o = .inl (s_0, s_1) → ∀ w', rg s_0 → Abs s_1 w' → hG d 140 18 [some (vr l0), some (vr l1), some (vi s_0), z3] [] w' Q) (ke : ∀ (x_0 : hS), o = .inr (x_0) → ∀ w', ∀ (y2 : Option hO), Abs x_0 w' → hG d 140 47 [some (vr l0), some (vr l1), y2, z3] [] w' Q) : hG d 140 18 [some (vr l0), some (vr l1), some (vi l2), z3] [] w Q := by
  unfold c140_b18 at e
  refine hg_run 2 (pc' := 20) (ls' := [some (vr l0), some (vr l1), some (vi l2), z3]) (st' := [vR l0, vI l2]) rfl ?_
  obtain ⟨v6, e6, e⟩ := ob e
  refine gd_8_1 rfl A e6 (fun r6 => ?_)
  rcases oi e with ⟨q7, e⟩ | ⟨q7, e⟩
  · refine hg_icT (tgt := 47) rfl (by decide) rl2 r6 q7 ?_
    cases e
    exact ke h rfl _ _  A
  · refine hg_icF (tgt := 47) rfl (by decide) rl2 r6 q7 ?_
    refine hg_run 1 (pc' := 27) (ls' := [some (vr l0), some (vr l1), some (vi l2), z3]) (st' := [vR l1]) rfl ?_
    obtain ⟨v8, e8, e⟩ := ob e
    refine gd_8_0 rfl A e8 ?_
    refine hg_run 2 (pc' := 32) (ls' := [some (vr l0), some (vr l1), some (vi l2), z3]) (st' := [vR l0, vI l2, vR v8]) rfl ?_
    obtain ⟨v9, e9, e⟩ := ob e
    refine gd_8_0 rfl A e9 ?_
    refine hg_run 1 (pc' := 36) (ls' := [some (vr l0), some (vr l1), some (vi l2), z3]) (st' := [vI l2, vR v9, vI l2, vR v8]) rfl ?_
    obtain ⟨v10, e10, e⟩ := ob e
    refine hg_aRd 8 rfl (fun _ _ _ _ => rfl) A rfl (by decide) e10 ?_
    obtain ⟨u12, e12, e⟩ := ob e
    obtain ⟨v11, e11, e⟩ := ob e
    refine hg_cR (as := [vR v10]) (st' := [vI l2, vR v8]) rfl (fun _ _ _ _ => rfl) rfl rfl (Nat.le_of_ble_eq_true rfl) (Nat.le_of_ble_eq_true rfl) (recvV A (a := 11) (kT_e e12)) (t141 (by omega) A  e11) (fun w11 A11 => ?_)
    obtain ⟨h13, e13, e⟩ := ob e
    refine hg_wRd 8 rfl A11 (by decide) (by decide) e13 (fun w13 A13 => ?_)
    refine hg_run 2 (pc' := 18) (ls' := [some (vr l0), some (vr l1), some (vi (wadd l2 1)), z3]) (st' := []) rfl ?_
    cases e
    exact kb (wadd l2 1) h13 rfl _ (rg_add _ _) A13
theorem t140_l18 {d : Nat} (hd : 2 ≤ d) {l0 : Nat} {l1 : Nat} {z3 : Option hO} {Q : mmO → Prop}  (n : Nat) {l2 : Int}  {h : hS} {w : mmW} {r : hS} (rl2 : rg l2) (A : Abs h w) (e : lp (fun s => c140_b18 l0 l1 s.1 s.2) n (l2, h) = some r) (ke : ∀ (x_0 : hS), r = (x_0) → ∀ w', ∀ (y2 : Option hO), Abs x_0 w' → hG d 140 47 [some (vr l0), some (vr l1), y2, z3] [] w' Q) : hG d 140 18 [some (vr l0), some (vr l1), some (vi l2), z3] [] w Q := by
  induction n generalizing l2 h w with
  | zero => cases e
  | succ n ih =>
    rcases lp_succ e with ⟨s1, e1, e2⟩ | e1
    · exact t140_b18 hd rl2 A e1 (fun s_0 s_1 q w1 rl2 A1 => by cases q; exact ih rl2 A1 e2) (fun x_0 q => by cases q)
    · exact t140_b18 hd rl2 A e1 (fun s_0 s_1 q => by cases q) (fun x_0 q => by cases q; exact ke _ rfl)
def c140_j89 (s0 : Nat) (s1 : Nat) (l2 : Int) (h : hS) : Option ((Int × hS) ⊕ (hS)) :=
  (pR h s0 24 1 s1).bind (fun h26 =>
  some (.inl ((wadd l2 1), h26)))
theorem t140_j89 {d : Nat} (hd : 2 ≤ d) {s0 : Nat} {s1 : Nat} {l2 : Int} {l0 : Nat} {l1 : Nat} {z3 : Option hO} {h : hS} {w : mmW} {o : (Int × hS) ⊕ (hS)} {Q : mmO → Prop} (rl2 : rg l2) (A : Abs h w) (e : c140_j89 s0 s1 l2 h = some o) (kb : ∀ (s_0 : Int) (s_1 : hS), o = .inl (s_0, s_1) → ∀ w', ∀ (y3 : Option hO), rg s_0 → Abs s_1 w' → hG d 140 49 [some (vr l0), some (vr l1), some (vi s_0), y3] [] w' Q) (ke : ∀ (x_0 : hS), o = .inr (x_0) → ∀ w', ∀ (y2 y3 : Option hO), Abs x_0 w' → hG d 140 98 [some (vr l0), some (vr l1), y2, y3] [] w' Q) : hG d 140 89 [some (vr l0), some (vr l1), some (vi l2), z3] [vR s1, vR s0] w Q := by
  unfold c140_j89 at e
  obtain ⟨h26, e26, e⟩ := ob e
  refine pd_11_1 rfl A e26 (fun w26 A26 => ?_)
  refine hg_run 2 (pc' := 49) (ls' := [some (vr l0), some (vr l1), some (vi (wadd l2 1)), z3]) (st' := []) rfl ?_
  cases e
  exact kb (wadd l2 1) h26 rfl _ _ (rg_add _ _) A26
def c140_b49 (l0 : Nat) (l1 : Nat) (l2 : Int) (h : hS) : Option ((Int × hS) ⊕ (hS)) :=
  (gI h l0 18 1).bind (fun v15 =>
  if v15 ≤ l2 then
  some (.inr (h))
  else
  (gR h l0 18 0).bind (fun v17 =>
  (aR h v17 17 l2).bind (fun v18 =>
  (gR h v18 24 1).bind (fun v19 =>
  (gR h l1 18 0).bind (fun v20 =>
  (aR h v20 17 l2).bind (fun v21 =>
  (hnul v19).bind (fun b22 =>
  if b22 = true then
  c140_j89 v21 0 l2 h
  else
  (gI h v19 24 0).bind (fun v23 =>
  (kT h l1 18).bind (fun u25 =>
  (c47 l1 v23 h).bind (fun v24 =>
  c140_j89 v21 v24 l2 h))))))))))
theorem t140_b49 {d : Nat} (hd : 2 ≤ d) {l0 : Nat} {l1 : Nat} {l2 : Int} {z3 : Option hO} {h : hS} {w : mmW} {o : (Int × hS) ⊕ (hS)} {Q : mmO → Prop} (rl2 : rg l2) (A : Abs h w) (e : c140_b49 l0 l1 l2 h = some o) (kb : ∀ (s_0 : Int) (s_1 : hS), o = .inl (s_0, s_1) → ∀ w', ∀ (y3 : Option hO), rg s_0 → Abs s_1 w' → hG d 140 49 [some (vr l0), some (vr l1), some (vi s_0), y3] [] w' Q) (ke : ∀ (x_0 : hS), o = .inr (x_0) → ∀ w', ∀ (y2 y3 : Option hO), Abs x_0 w' → hG d 140 98 [some (vr l0), some (vr l1), y2, y3] [] w' Q) : hG d 140 49 [some (vr l0), some (vr l1), some (vi l2), z3] [] w Q := by
  unfold c140_b49 at e
  refine hg_run 2 (pc' := 51) (ls' := [some (vr l0), some (vr l1), some (vi l2), z3]) (st' := [vR l0, vI l2]) rfl ?_
  obtain ⟨v15, e15, e⟩ := ob e
  refine gd_8_1 rfl A e15 (fun r15 => ?_)
  rcases oi e with ⟨q16, e⟩ | ⟨q16, e⟩
  · refine hg_icT (tgt := 98) rfl (by decide) rl2 r15 q16 ?_
    cases e
    exact ke h rfl _ _ _  A
  · refine hg_icF (tgt := 98) rfl (by decide) rl2 r15 q16 ?_
    refine hg_run 1 (pc' := 58) (ls' := [some (vr l0), some (vr l1), some (vi l2), z3]) (st' := [vR l0]) rfl ?_
    obtain ⟨v17, e17, e⟩ := ob e
    refine gd_8_0 rfl A e17 ?_
    refine hg_run 1 (pc' := 62) (ls' := [some (vr l0), some (vr l1), some (vi l2), z3]) (st' := [vI l2, vR v17]) rfl ?_
    obtain ⟨v18, e18, e⟩ := ob e
    refine hg_aRd 8 rfl (fun _ _ _ _ => rfl) A rfl (by decide) e18 ?_
    obtain ⟨v19, e19, e⟩ := ob e
    refine gd_11_1 rfl A e19 ?_
    refine hg_run 2 (pc' := 68) (ls' := [some (vr l0), some (vr l1), some (vi l2), some (vr v19)]) (st' := [vR l1]) rfl ?_
    obtain ⟨v20, e20, e⟩ := ob e
    refine gd_8_0 rfl A e20 ?_
    refine hg_run 1 (pc' := 72) (ls' := [some (vr l0), some (vr l1), some (vi l2), some (vr v19)]) (st' := [vI l2, vR v20]) rfl ?_
    obtain ⟨v21, e21, e⟩ := ob e
    refine hg_aRd 8 rfl (fun _ _ _ _ => rfl) A rfl (by decide) e21 ?_
    refine hg_run 1 (pc' := 74) (ls' := [some (vr l0), some (vr l1), some (vi l2), some (vr v19)]) (st' := [vR v19, vR v21]) rfl ?_
    obtain ⟨b22, e22, e⟩ := ob e
    rcases oi e with ⟨q22, e⟩ | ⟨q22, e⟩
    · refine hg_nul (yes := false) (tgt := 81) (t2 := 77) rfl (fun _ _ _ _ => rfl) (by decide) (ebT e22 q22) rfl ?_
      refine hg_run 2 (pc' := 89) (ls' := [some (vr l0), some (vr l1), some (vi l2), some (vr v19)]) (st' := [vR 0, vR v21]) rfl ?_
      exact t140_j89 hd rl2 A e kb ke
    · refine hg_nul (yes := false) (tgt := 81) (t2 := 81) rfl (fun _ _ _ _ => rfl) (by decide) (ebF e22 q22) rfl ?_
      refine hg_run 2 (pc' := 83) (ls' := [some (vr l0), some (vr l1), some (vi l2), some (vr v19)]) (st' := [vR v19, vR l1, vR v21]) rfl ?_
      obtain ⟨v23, e23, e⟩ := ob e
      refine gd_11_0 rfl A e23 (fun r23 => ?_)
      obtain ⟨u25, e25, e⟩ := ob e
      obtain ⟨v24, e24, e⟩ := ob e
      refine hg_cRp (as := [vR l1, vI v23]) (st' := [vR v21]) rfl (fun _ _ _ _ => rfl) rfl rfl (Nat.le_of_ble_eq_true rfl) (Nat.le_of_ble_eq_true rfl) (recvV A (a := 8) (kT_e e25)) (t47 (by omega) A r23 e24) ?_
      exact t140_j89 hd rl2 A e kb ke
theorem t140_l49 {d : Nat} (hd : 2 ≤ d) {l0 : Nat} {l1 : Nat}  {Q : mmO → Prop}  (n : Nat) {l2 : Int} {z3 : Option hO} {h : hS} {w : mmW} {r : hS} (rl2 : rg l2) (A : Abs h w) (e : lp (fun s => c140_b49 l0 l1 s.1 s.2) n (l2, h) = some r) (ke : ∀ (x_0 : hS), r = (x_0) → ∀ w', ∀ (y2 y3 : Option hO), Abs x_0 w' → hG d 140 98 [some (vr l0), some (vr l1), y2, y3] [] w' Q) : hG d 140 49 [some (vr l0), some (vr l1), some (vi l2), z3] [] w Q := by
  induction n generalizing l2 z3 h w with
  | zero => cases e
  | succ n ih =>
    rcases lp_succ e with ⟨s1, e1, e2⟩ | e1
    · exact t140_b49 hd rl2 A e1 (fun s_0 s_1 q w1 y3 rl2 A1 => by cases q; exact ih rl2 A1 e2) (fun x_0 q => by cases q)
    · exact t140_b49 hd rl2 A e1 (fun s_0 s_1 q => by cases q) (fun x_0 q => by cases q; exact ke _ rfl)
def c140 (l0 : Nat) (h : hS) : Option (Nat × hS) :=
  (some (mkH h 18 2)).bind (fun h1 =>
  (k8 (hN h)).bind (fun u3 =>
  (c18 (hN h) h1).bind (fun h2 =>
  (gI h2 l0 18 1).bind (fun v4 =>
  (pI h2 (hN h) 18 1 v4).bind (fun h5 =>
  (lp (fun s => c140_b18 l0 (hN h) s.1 s.2) hF0 (0, h5)).bind (fun r14 =>
  (lp (fun s => c140_b49 l0 (hN h) s.1 s.2) hF0 (0, r14)).bind (fun r27 =>
  some ((hN h), r27))))))))
theorem t140 {d : Nat} (hd : 3 ≤ d) {l0 : Nat} {h : hS} {w : mmW} {o : Nat × hS} (A : Abs h w)  (e : c140 l0 h = some o) : hEv d 140 [vR l0] w (qR o) := by
  obtain ⟨d, rfl⟩ : ∃ d1, d = d1 + 1 := ⟨d - 1, by omega⟩
  have hd : 2 ≤ d := by omega
  refine hEv_start (args := [vr l0]) (nl := 4) rfl (Nat.le_of_ble_eq_true rfl) ?_
  show hG d 140 0 [some (vr l0), none, none, none] [] w _
  have kr : ∀ (v1 : Nat) (h1 : hS), o = (v1, h1) → ∀ w', Abs h1 w' → qR o (some (rv v1), w') := fun v1 h1 q w' A' => by cases q; exact ⟨rfl, A'⟩
  unfold c140 at e
  obtain ⟨h1, e1, e⟩ := ob e
  refine hg_new (a := 8) rfl A (by decide +kernel) (by decide) e1 (fun w1 A1 => ?_)
  refine hg_run 1 (pc' := 4) (ls' := [some (vr l0), none, none, none]) (st' := [vR (hN h), vR (hN h)]) rfl ?_
  obtain ⟨u3, e3, e⟩ := ob e
  obtain ⟨h2, e2, e⟩ := ob e
  refine hg_cV (as := [vR (hN h)]) (st' := [vR (hN h)]) rfl (fun _ _ _ _ => rfl) rfl rfl (Nat.le_of_ble_eq_true rfl) (Nat.le_of_ble_eq_true rfl) (recv1 (k8_e e3)) (t18 (by omega) A1  e2) (fun w2 A2 => ?_)
  refine hg_run 3 (pc' := 10) (ls' := [some (vr l0), some (vr (hN h)), none, none]) (st' := [vR l0, vR (hN h)]) rfl ?_
  obtain ⟨v4, e4, e⟩ := ob e
  refine gd_8_1 rfl A2 e4 (fun r4 => ?_)
  obtain ⟨h5, e5, e⟩ := ob e
  refine pd_8_1 rfl A2 r4 e5 (fun w5 A5 => ?_)
  refine hg_run 2 (pc' := 18) (ls' := [some (vr l0), some (vr (hN h)), some (vi 0), none]) (st' := []) rfl ?_
  obtain ⟨r14, e14, e⟩ := ob e
  refine t140_l18 hd  _ (rgn 0 rfl) A5 e14 ?_
  intro x14_0 qq14 w14 z14_2 A14
  subst qq14
  refine hg_run 2 (pc' := 49) (ls' := [some (vr l0), some (vr (hN h)), some (vi 0), none]) (st' := []) rfl ?_
  obtain ⟨r27, e27, e⟩ := ob e
  refine t140_l49 hd  _ (rgn 0 rfl) A14 e27 ?_
  intro x27_0 qq27 w27 z27_2 z27_3 A27
  subst qq27
  refine hg_run 1 (pc' := 99) (ls' := [some (vr l0), some (vr (hN h)), z27_2, z27_3]) (st' := [vR (hN h)]) rfl ?_
  cases e
  exact hg_retR rfl (kr _ _ rfl _ A27)
def c143 (l0 : Nat) (h : hS) : Option (Int) :=
  (gI h l0 8 1).bind (fun v1 =>
  some v1)
theorem t143 {d : Nat} (hd : 1 ≤ d) {l0 : Nat} {h : hS} {w : mmW} {o : Int} (A : Abs h w)  (e : c143 l0 h = some o) : hEv d 143 [vR l0] w (qIp o w) := by
  obtain ⟨d, rfl⟩ : ∃ d1, d = d1 + 1 := ⟨d - 1, by omega⟩
  have hd : 0 ≤ d := by omega
  refine hEv_start (args := [vr l0]) (nl := 1) rfl (Nat.le_of_ble_eq_true rfl) ?_
  show hG d 143 0 [some (vr l0)] [] w _
  have kr : ∀ v1 : Int, o = v1 → rg v1 → qIp o w (some (.int (Int32.ofInt v1)), w) := fun v1 q r => by cases q; exact ⟨rfl, r⟩
  unfold c143 at e
  refine hg_run 1 (pc' := 1) (ls' := [some (vr l0)]) (st' := [vR l0]) rfl ?_
  obtain ⟨v1, e1, e⟩ := ob e
  refine gd_3_1 rfl A e1 (fun r1 => ?_)
  cases e
  exact hg_retI rfl (by decide) (fit_I _) (kr _ rfl r1)
def c8_j9  : Option (Int) :=
  none
theorem t8_j9 {d : Nat} (hd : 0 ≤ d)  {l0 : Int} {l1 : Int} {l2 : Nat} {h : hS} {w : mmW} {o : Int} {Q : mmO → Prop}  (A : Abs h w) (e : c8_j9  = some o) (kr : ∀ v1 : Int, o = v1 → rg v1 → Q (some (.int (Int32.ofInt v1)), w)) : hG d 8 9 [some (vi l0), some (vi l1), some (vr l2)] [] w Q := by
  unfold c8_j9 at e
  refine hg_run 3 (pc' := 12) (ls' := [some (vi l0), some (vi l1), some (vr l2)]) (st' := [vI l1, vI l0, vR l2]) rfl ?_
  cases e
def c8 (l0 : Int) (l1 : Int) (l2 : Nat) (h : hS) : Option (Int) :=
  if l0 < 0 then
  c8_j9 
  else
  if l0 < l1 then
  some l0
  else
  c8_j9 
theorem t8 {d : Nat} (hd : 1 ≤ d) {l0 : Int} {l1 : Int} {l2 : Nat} {h : hS} {w : mmW} {o : Int} (A : Abs h w) (rl0 : rg l0) (rl1 : rg l1) (e : c8 l0 l1 l2 h = some o) : hEv d 8 [vI l0, vI l1, vR l2] w (qIp o w) := by
  obtain ⟨d, rfl⟩ : ∃ d1, d = d1 + 1 := ⟨d - 1, by omega⟩
  have hd : 0 ≤ d := by omega
  refine hEv_start (args := [vi l0, vi l1, vr l2]) (nl := 3) rfl (Nat.le_of_ble_eq_true rfl) ?_
  show hG d 8 0 [some (vi l0), some (vi l1), some (vr l2)] [] w _
  have kr : ∀ v1 : Int, o = v1 → rg v1 → qIp o w (some (.int (Int32.ofInt v1)), w) := fun v1 q r => by cases q; exact ⟨rfl, r⟩
  unfold c8 at e
  refine hg_run 1 (pc' := 1) (ls' := [some (vi l0), some (vi l1), some (vr l2)]) (st' := [vI l0]) rfl ?_
  rcases oi e with ⟨q1, e⟩ | ⟨q1, e⟩
  · refine hg_ifT (tgt := 9) rfl (by decide) rl0 q1 ?_
    exact t8_j9 hd  A e kr
  · refine hg_ifF (tgt := 9) rfl (by decide) rl0 q1 ?_
    refine hg_run 2 (pc' := 6) (ls' := [some (vi l0), some (vi l1), some (vr l2)]) (st' := [vI l1, vI l0]) rfl ?_
    rcases oi e with ⟨q2, e⟩ | ⟨q2, e⟩
    · refine hg_icT (tgt := 16) rfl (by decide) rl0 rl1 q2 ?_
      refine hg_run 1 (pc' := 17) (ls' := [some (vi l0), some (vi l1), some (vr l2)]) (st' := [vI l0]) rfl ?_
      cases e
      exact hg_retI rfl (by decide) (fit_I _) (kr _ rfl rl0)
    · refine hg_icF (tgt := 16) rfl (by decide) rl0 rl1 q2 ?_
      exact t8_j9 hd  A e kr
def c145 (l0 : Int) (l1 : Int) (h : hS) : Option (Int) :=
  (c8 l0 l1 0 h).bind (fun v1 =>
  some v1)
theorem t145 {d : Nat} (hd : 2 ≤ d) {l0 : Int} {l1 : Int} {h : hS} {w : mmW} {o : Int} (A : Abs h w) (rl0 : rg l0) (rl1 : rg l1) (e : c145 l0 l1 h = some o) : hEv d 145 [vI l0, vI l1] w (qIp o w) := by
  obtain ⟨d, rfl⟩ : ∃ d1, d = d1 + 1 := ⟨d - 1, by omega⟩
  have hd : 1 ≤ d := by omega
  refine hEv_start (args := [vi l0, vi l1]) (nl := 2) rfl (Nat.le_of_ble_eq_true rfl) ?_
  show hG d 145 0 [some (vi l0), some (vi l1)] [] w _
  have kr : ∀ v1 : Int, o = v1 → rg v1 → qIp o w (some (.int (Int32.ofInt v1)), w) := fun v1 q r => by cases q; exact ⟨rfl, r⟩
  unfold c145 at e
  refine hg_run 3 (pc' := 3) (ls' := [some (vi l0), some (vi l1)]) (st' := [vR 0, vI l1, vI l0]) rfl ?_
  obtain ⟨v1, e1, e⟩ := ob e
  refine hg_cIp (as := [vI l0, vI l1, vR 0]) (st' := []) rfl (fun _ _ _ _ => rfl) rfl rfl (Nat.le_of_ble_eq_true rfl) (Nat.le_of_ble_eq_true rfl) recv0 (t8 (by omega) A rl0 rl1 e1) (fun r1 => ?_)
  cases e
  exact hg_retI rfl (by decide) (fit_I _) (kr _ rfl r1)
def c146 (l0 : Nat) (l1 : Int) (h : hS) : Option (Nat) :=
  (gR h l0 8 0).bind (fun v1 =>
  (aR h v1 19 l1).bind (fun v2 =>
  some v2))
theorem t146 {d : Nat} (hd : 1 ≤ d) {l0 : Nat} {l1 : Int} {h : hS} {w : mmW} {o : Nat} (A : Abs h w) (rl1 : rg l1) (e : c146 l0 l1 h = some o) : hEv d 146 [vR l0, vI l1] w (qRp o w) := by
  obtain ⟨d, rfl⟩ : ∃ d1, d = d1 + 1 := ⟨d - 1, by omega⟩
  have hd : 0 ≤ d := by omega
  refine hEv_start (args := [vr l0, vi l1]) (nl := 2) rfl (Nat.le_of_ble_eq_true rfl) ?_
  show hG d 146 0 [some (vr l0), some (vi l1)] [] w _
  have kr : ∀ v1 : Nat, o = v1 → qRp o w (some (rv v1), w) := fun v1 q => by cases q; rfl
  unfold c146 at e
  refine hg_run 1 (pc' := 1) (ls' := [some (vr l0), some (vi l1)]) (st' := [vR l0]) rfl ?_
  obtain ⟨v1, e1, e⟩ := ob e
  refine gd_3_0 rfl A e1 ?_
  refine hg_run 1 (pc' := 5) (ls' := [some (vr l0), some (vi l1)]) (st' := [vI l1, vR v1]) rfl ?_
  obtain ⟨v2, e2, e⟩ := ob e
  refine hg_aRd 9 rfl (fun _ _ _ _ => rfl) A rfl (by decide) e2 ?_
  cases e
  exact hg_retR rfl (kr _ rfl)
def c144 (l0 : Nat) (l1 : Int) (h : hS) : Option (Nat) :=
  (gI h l0 8 1).bind (fun v1 =>
  (c145 l1 v1 h).bind (fun v2 =>
  (kT h l0 8).bind (fun u4 =>
  (c146 l0 l1 h).bind (fun v3 =>
  some v3))))
theorem t144 {d : Nat} (hd : 3 ≤ d) {l0 : Nat} {l1 : Int} {h : hS} {w : mmW} {o : Nat} (A : Abs h w) (rl1 : rg l1) (e : c144 l0 l1 h = some o) : hEv d 144 [vR l0, vI l1] w (qRp o w) := by
  obtain ⟨d, rfl⟩ : ∃ d1, d = d1 + 1 := ⟨d - 1, by omega⟩
  have hd : 2 ≤ d := by omega
  refine hEv_start (args := [vr l0, vi l1]) (nl := 2) rfl (Nat.le_of_ble_eq_true rfl) ?_
  show hG d 144 0 [some (vr l0), some (vi l1)] [] w _
  have kr : ∀ v1 : Nat, o = v1 → qRp o w (some (rv v1), w) := fun v1 q => by cases q; rfl
  unfold c144 at e
  refine hg_run 2 (pc' := 2) (ls' := [some (vr l0), some (vi l1)]) (st' := [vR l0, vI l1]) rfl ?_
  obtain ⟨v1, e1, e⟩ := ob e
  refine gd_3_1 rfl A e1 (fun r1 => ?_)
  obtain ⟨v2, e2, e⟩ := ob e
  refine hg_cIp (as := [vI l1, vI v1]) (st' := []) rfl (fun _ _ _ _ => rfl) rfl rfl (Nat.le_of_ble_eq_true rfl) (Nat.le_of_ble_eq_true rfl) recv0 (t145 (by omega) A rl1 r1 e2) (fun r2 => ?_)
  refine hg_run 3 (pc' := 11) (ls' := [some (vr l0), some (vi l1)]) (st' := [vI l1, vR l0]) rfl ?_
  obtain ⟨u4, e4, e⟩ := ob e
  obtain ⟨v3, e3, e⟩ := ob e
  refine hg_cRp (as := [vR l0, vI l1]) (st' := []) rfl (fun _ _ _ _ => rfl) rfl rfl (Nat.le_of_ble_eq_true rfl) (Nat.le_of_ble_eq_true rfl) (recvV A (a := 3) (kT_e e4)) (t146 (by omega) A rl1 e3) ?_
  cases e
  exact hg_retR rfl (kr _ rfl)
def c148_j40 (l2 : Int) (l3 : Int) : Option ((Int × Int) ⊕ ((Int) ⊕ (Int × hS))) :=
  some (.inl (l2, (wadd l3 1)))
theorem t148_j40 {d : Nat} (hd : 0 ≤ d) {l2 : Int} {l3 : Int} {l0 : Nat} {l1 : Nat} {h : hS} {w : mmW} {o : (Int × Int) ⊕ ((Int) ⊕ (Int × hS))} {Q : mmO → Prop} (rl2 : rg l2) (rl3 : rg l3) (A : Abs h w) (e : c148_j40 l2 l3 = some o) (kb : ∀ (s_0 : Int) (s_1 : Int), o = .inl (s_0, s_1) → rg s_0 → rg s_1 → hG d 148 4 [some (vr l0), some (vr l1), some (vi s_0), some (vi s_1)] [] w Q) (ke : ∀ (x_0 : Int), o = .inr (.inl (x_0)) → ∀ (y3 : Option hO), rg x_0 → hG d 148 46 [some (vr l0), some (vr l1), some (vi x_0), y3] [] w Q) (kr : ∀ (v1 : Int) (h1 : hS), o = .inr (.inr (v1, h1)) → ∀ w', rg v1 → Abs h1 w' → Q (some (.int (Int32.ofInt v1)), w')) : hG d 148 40 [some (vr l0), some (vr l1), some (vi l2), some (vi l3)] [] w Q := by
  unfold c148_j40 at e
  refine hg_run 2 (pc' := 4) (ls' := [some (vr l0), some (vr l1), some (vi l2), some (vi (wadd l3 1))]) (st' := []) rfl ?_
  cases e
  exact kb l2 (wadd l3 1) rfl rl2 (rg_add _ _)
def c148_b4 (l0 : Nat) (l1 : Nat) (h : hS) (l2 : Int) (l3 : Int) : Option ((Int × Int) ⊕ ((Int) ⊕ (Int × hS))) :=
  (gI h l0 18 1).bind (fun v1 =>
  if v1 ≤ l3 then
  some (.inr (.inl (l2)))
  else
  (gR h l0 18 0).bind (fun v3 =>
  (aR h v3 17 l3).bind (fun v4 =>
  (gR h v4 24 1).bind (fun v5 =>
  (hreq v5 l1).bind (fun b6 =>
  if b6 = true then
  some (.inr (.inr (6, h)))
  else
  (gR h l0 18 0).bind (fun v7 =>
  (aR h v7 17 l3).bind (fun v8 =>
  (hreq v8 l1).bind (fun b9 =>
  if b9 = true then
  c148_j40 l3 l3
  else
  c148_j40 l2 l3))))))))
theorem t148_b4 {d : Nat} (hd : 0 ≤ d) {l0 : Nat} {l1 : Nat} {l2 : Int} {l3 : Int}  {h : hS} {w : mmW} {o : (Int × Int) ⊕ ((Int) ⊕ (Int × hS))} {Q : mmO → Prop} (rl2 : rg l2) (rl3 : rg l3) (A : Abs h w) (e : c148_b4 l0 l1 h l2 l3 = some o) (kb : ∀ (s_0 : Int) (s_1 : Int), o = .inl (s_0, s_1) → rg s_0 → rg s_1 → hG d 148 4 [some (vr l0), some (vr l1), some (vi s_0), some (vi s_1)] [] w Q) (ke : ∀ (x_0 : Int), o = .inr (.inl (x_0)) → ∀ (y3 : Option hO), rg x_0 → hG d 148 46 [some (vr l0), some (vr l1), some (vi x_0), y3] [] w Q) (kr : ∀ (v1 : Int) (h1 : hS), o = .inr (.inr (v1, h1)) → ∀ w', rg v1 → Abs h1 w' → Q (some (.int (Int32.ofInt v1)), w')) : hG d 148 4 [some (vr l0), some (vr l1), some (vi l2), some (vi l3)] [] w Q := by
  unfold c148_b4 at e
  refine hg_run 2 (pc' := 6) (ls' := [some (vr l0), some (vr l1), some (vi l2), some (vi l3)]) (st' := [vR l0, vI l3]) rfl ?_
  obtain ⟨v1, e1, e⟩ := ob e
  refine gd_8_1 rfl A e1 (fun r1 => ?_)
  rcases oi e with ⟨q2, e⟩ | ⟨q2, e⟩
  · refine hg_icT (tgt := 46) rfl (by decide) rl3 r1 q2 ?_
    cases e
    exact ke l2 rfl _ rl2
  · refine hg_icF (tgt := 46) rfl (by decide) rl3 r1 q2 ?_
    refine hg_run 1 (pc' := 13) (ls' := [some (vr l0), some (vr l1), some (vi l2), some (vi l3)]) (st' := [vR l0]) rfl ?_
    obtain ⟨v3, e3, e⟩ := ob e
    refine gd_8_0 rfl A e3 ?_
    refine hg_run 1 (pc' := 17) (ls' := [some (vr l0), some (vr l1), some (vi l2), some (vi l3)]) (st' := [vI l3, vR v3]) rfl ?_
    obtain ⟨v4, e4, e⟩ := ob e
    refine hg_aRd 8 rfl (fun _ _ _ _ => rfl) A rfl (by decide) e4 ?_
    obtain ⟨v5, e5, e⟩ := ob e
    refine gd_11_1 rfl A e5 ?_
    refine hg_run 1 (pc' := 22) (ls' := [some (vr l0), some (vr l1), some (vi l2), some (vi l3)]) (st' := [vR l1, vR v5]) rfl ?_
    obtain ⟨b6, e6, e⟩ := ob e
    rcases oi e with ⟨q6, e⟩ | ⟨q6, e⟩
    · refine hg_acm (tgt := 28) (t2 := 25) rfl (by decide) (ebT e6 q6) rfl ?_
      refine hg_run 1 (pc' := 27) (ls' := [some (vr l0), some (vr l1), some (vi l2), some (vi l3)]) (st' := [vI 6]) rfl ?_
      cases e
      exact hg_retI rfl (by decide) (fit_I _) (kr _ _ rfl _ (rgn 6 rfl) A)
    · refine hg_acm (tgt := 28) (t2 := 28) rfl (by decide) (ebF e6 q6) rfl ?_
      refine hg_run 1 (pc' := 29) (ls' := [some (vr l0), some (vr l1), some (vi l2), some (vi l3)]) (st' := [vR l0]) rfl ?_
      obtain ⟨v7, e7, e⟩ := ob e
      refine gd_8_0 rfl A e7 ?_
      refine hg_run 1 (pc' := 33) (ls' := [some (vr l0), some (vr l1), some (vi l2), some (vi l3)]) (st' := [vI l3, vR v7]) rfl ?_
      obtain ⟨v8, e8, e⟩ := ob e
      refine hg_aRd 8 rfl (fun _ _ _ _ => rfl) A rfl (by decide) e8 ?_
      refine hg_run 1 (pc' := 35) (ls' := [some (vr l0), some (vr l1), some (vi l2), some (vi l3)]) (st' := [vR l1, vR v8]) rfl ?_
      obtain ⟨b9, e9, e⟩ := ob e
      rcases oi e with ⟨q9, e⟩ | ⟨q9, e⟩
      · refine hg_acm (tgt := 40) (t2 := 38) rfl (by decide) (ebT e9 q9) rfl ?_
        refine hg_run 2 (pc' := 40) (ls' := [some (vr l0), some (vr l1), some (vi l3), some (vi l3)]) (st' := []) rfl ?_
        exact t148_j40 hd rl3 rl3 A e kb ke kr
      · refine hg_acm (tgt := 40) (t2 := 40) rfl (by decide) (ebF e9 q9) rfl ?_
        exact t148_j40 hd rl2 rl3 A e kb ke kr
theorem t148_l4 {d : Nat} (hd : 0 ≤ d) {l0 : Nat} {l1 : Nat}  {h : hS} {w : mmW} {Q : mmO → Prop}  (n : Nat) {l2 : Int} {l3 : Int}  {r : (Int) ⊕ (Int × hS)} (rl2 : rg l2) (rl3 : rg l3) (A : Abs h w) (e : lp (fun s => c148_b4 l0 l1 h s.1 s.2) n (l2, l3) = some r) (ke : ∀ (x_0 : Int), r = .inl (x_0) → ∀ (y3 : Option hO), rg x_0 → hG d 148 46 [some (vr l0), some (vr l1), some (vi x_0), y3] [] w Q) (kr : ∀ (v1 : Int) (h1 : hS), r = .inr (v1, h1) → ∀ w', rg v1 → Abs h1 w' → Q (some (.int (Int32.ofInt v1)), w')) : hG d 148 4 [some (vr l0), some (vr l1), some (vi l2), some (vi l3)] [] w Q := by
  induction n generalizing l2 l3 with
  | zero => cases e
  | succ n ih =>
    rcases lp_succ e with ⟨s1, e1, e2⟩ | e1
    · exact t148_b4 hd rl2 rl3 A e1 (fun s_0 s_1 q rl2 rl3 => by cases q; exact ih rl2 rl3 e2) (fun x_0 q => by cases q) (fun v0 h0 q => by cases q)
    · exact t148_b4 hd rl2 rl3 A e1 (fun s_0 s_1 q => by cases q) (fun x_0 q => by cases q; exact ke _ rfl) (fun v0 h0 q => by cases q; exact kr _ _ rfl)
def c148 (l0 : Nat) (l1 : Nat) (h : hS) : Option (Int × hS) :=
  (lp (fun s => c148_b4 l0 l1 h s.1 s.2) hF0 ((-1), 0)).bind (fun r10 => xs r10 (fun x10 =>
  if x10 = (-1) then
  some (0, h)
  else
  (gR h l0 18 0).bind (fun v12 =>
  (gR h l0 18 0).bind (fun v13 =>
  (gI h l0 18 1).bind (fun v14 =>
  (cpR h v12 v13 17 24 (wadd x10 1) x10 (wsub (wsub v14 1) x10)).bind (fun h15 =>
  (gI h15 l0 18 1).bind (fun v16 =>
  (pI h15 l0 18 1 (wsub v16 1)).bind (fun h17 =>
  (gR h17 l0 18 0).bind (fun v18 =>
  (gI h17 l0 18 1).bind (fun v19 =>
  (wR h17 v18 17 24 v19 0).bind (fun h20 =>
  some (0, h20))))))))))) (fun o10 => some o10))
theorem t148 {d : Nat} (hd : 1 ≤ d) {l0 : Nat} {l1 : Nat} {h : hS} {w : mmW} {o : Int × hS} (A : Abs h w)  (e : c148 l0 l1 h = some o) : hEv d 148 [vR l0, vR l1] w (qI o) := by
  obtain ⟨d, rfl⟩ : ∃ d1, d = d1 + 1 := ⟨d - 1, by omega⟩
  have hd : 0 ≤ d := by omega
  refine hEv_start (args := [vr l0, vr l1]) (nl := 4) rfl (Nat.le_of_ble_eq_true rfl) ?_
  show hG d 148 0 [some (vr l0), some (vr l1), none, none] [] w _
  have kr : ∀ (v1 : Int) (h1 : hS), o = (v1, h1) → ∀ w', rg v1 → Abs h1 w' → qI o (some (.int (Int32.ofInt v1)), w') := fun v1 h1 q w' r A' => by cases q; exact ⟨rfl, r, A'⟩
  unfold c148 at e
  refine hg_run 4 (pc' := 4) (ls' := [some (vr l0), some (vr l1), some (vi (-1)), some (vi 0)]) (st' := []) rfl ?_
  obtain ⟨r10, e10, e⟩ := ob e
  refine t148_l4 hd  _ (rgn (-1) rfl) (rgn 0 rfl) A e10 ?_ ?_
  · intro x10_0 qq10 z10_3 q10_2
    subst qq10
    have e := xs_l e
    refine hg_run 2 (pc' := 48) (ls' := [some (vr l0), some (vr l1), some (vi x10_0), z10_3]) (st' := [vI (-1), vI x10_0]) rfl ?_
    rcases oi e with ⟨q11, e⟩ | ⟨q11, e⟩
    · refine hg_icT (tgt := 94) rfl (by decide) q10_2 (rgn (-1) rfl) q11 ?_
      refine hg_run 1 (pc' := 95) (ls' := [some (vr l0), some (vr l1), some (vi x10_0), z10_3]) (st' := [vI 0]) rfl ?_
      cases e
      exact hg_retI rfl (by decide) (fit_I _) (kr _ _ rfl _ (rgn 0 rfl) A)
    · refine hg_icF (tgt := 94) rfl (by decide) q10_2 (rgn (-1) rfl) q11 ?_
      refine hg_run 1 (pc' := 52) (ls' := [some (vr l0), some (vr l1), some (vi x10_0), z10_3]) (st' := [vR l0]) rfl ?_
      obtain ⟨v12, e12, e⟩ := ob e
      refine gd_8_0 rfl A e12 ?_
      refine hg_run 4 (pc' := 59) (ls' := [some (vr l0), some (vr l1), some (vi x10_0), z10_3]) (st' := [vR l0, vI (wadd x10_0 1), vR v12]) rfl ?_
      obtain ⟨v13, e13, e⟩ := ob e
      refine gd_8_0 rfl A e13 ?_
      refine hg_run 2 (pc' := 64) (ls' := [some (vr l0), some (vr l1), some (vi x10_0), z10_3]) (st' := [vR l0, vI x10_0, vR v13, vI (wadd x10_0 1), vR v12]) rfl ?_
      obtain ⟨v14, e14, e⟩ := ob e
      refine gd_8_1 rfl A e14 (fun r14 => ?_)
      refine hg_run 4 (pc' := 71) (ls' := [some (vr l0), some (vr l1), some (vi x10_0), z10_3]) (st' := [vI (wsub (wsub v14 1) x10_0), vI x10_0, vR v13, vI (wadd x10_0 1), vR v12]) rfl ?_
      obtain ⟨h15, e15, e⟩ := ob e
      refine hg_cpR (t := 8) rfl A (by decide) (by decide) (Nat.le_of_ble_eq_true rfl) e15 (fun w15 A15 => ?_)
      refine hg_run 2 (pc' := 76) (ls' := [some (vr l0), some (vr l1), some (vi x10_0), z10_3]) (st' := [vR l0, vR l0]) rfl ?_
      obtain ⟨v16, e16, e⟩ := ob e
      refine gd_8_1 rfl A15 e16 (fun r16 => ?_)
      refine hg_run 2 (pc' := 81) (ls' := [some (vr l0), some (vr l1), some (vi x10_0), z10_3]) (st' := [vI (wsub v16 1), vR l0]) rfl ?_
      obtain ⟨h17, e17, e⟩ := ob e
      refine pd_8_1 rfl A15 (rg_sub _ _) e17 (fun w17 A17 => ?_)
      refine hg_run 1 (pc' := 85) (ls' := [some (vr l0), some (vr l1), some (vi x10_0), z10_3]) (st' := [vR l0]) rfl ?_
      obtain ⟨v18, e18, e⟩ := ob e
      refine gd_8_0 rfl A17 e18 ?_
      refine hg_run 1 (pc' := 89) (ls' := [some (vr l0), some (vr l1), some (vi x10_0), z10_3]) (st' := [vR l0, vR v18]) rfl ?_
      obtain ⟨v19, e19, e⟩ := ob e
      refine gd_8_1 rfl A17 e19 (fun r19 => ?_)
      refine hg_run 1 (pc' := 93) (ls' := [some (vr l0), some (vr l1), some (vi x10_0), z10_3]) (st' := [vR 0, vI v19, vR v18]) rfl ?_
      obtain ⟨h20, e20, e⟩ := ob e
      refine hg_wRd 8 rfl A17 (by decide) (by decide) e20 (fun w20 A20 => ?_)
      refine hg_run 1 (pc' := 95) (ls' := [some (vr l0), some (vr l1), some (vi x10_0), z10_3]) (st' := [vI 0]) rfl ?_
      cases e
      exact hg_retI rfl (by decide) (fit_I _) (kr _ _ rfl _ (rgn 0 rfl) A20)
  · intro v10 h10 qq10 w10 r10 A10
    subst qq10
    have e := xs_r e
    cases e
    exact kr _ _ rfl w10 r10 A10
def c150_b2 (l1 : Int) (h : hS) (l2 : Nat) : Option ((Nat) ⊕ ((Unit) ⊕ (Int))) :=
  (hnul l2).bind (fun b1 =>
  if b1 = true then
  some (.inr (.inl ()))
  else
  (gI h l2 24 0).bind (fun v2 =>
  if v2 = l1 then
  some (.inr (.inr 1))
  else
  (gR h l2 24 1).bind (fun v4 =>
  some (.inl (v4)))))
theorem t150_b2 {d : Nat} (hd : 0 ≤ d) {l1 : Int} {l2 : Nat} {z0 : Option hO} {h : hS} {w : mmW} {o : (Nat) ⊕ ((Unit) ⊕ (Int))} {Q : mmO → Prop} (rl1 : rg l1) (A : Abs h w) (e : c150_b2 l1 h l2 = some o) (kb : ∀ (s_0 : Nat), o = .inl (s_0) → hG d 150 2 [z0, some (vi l1), some (vr s_0)] [] w Q) (ke : o = .inr (.inl ()) → ∀ (y2 : Option hO), hG d 150 24 [z0, some (vi l1), y2] [] w Q) (kr : ∀ v1 : Int, o = .inr (.inr v1) → rg v1 → Q (some (.int (Int32.ofInt v1)), w)) : hG d 150 2 [z0, some (vi l1), some (vr l2)] [] w Q := by
  unfold c150_b2 at e
  refine hg_run 1 (pc' := 3) (ls' := [z0, some (vi l1), some (vr l2)]) (st' := [vR l2]) rfl ?_
  obtain ⟨b1, e1, e⟩ := ob e
  rcases oi e with ⟨q1, e⟩ | ⟨q1, e⟩
  · refine hg_nul (yes := true) (tgt := 24) (t2 := 24) rfl (fun _ _ _ _ => rfl) (by decide) (ebT e1 q1) rfl ?_
    cases e
    exact ke  rfl _ 
  · refine hg_nul (yes := true) (tgt := 24) (t2 := 6) rfl (fun _ _ _ _ => rfl) (by decide) (ebF e1 q1) rfl ?_
    refine hg_run 1 (pc' := 7) (ls' := [z0, some (vi l1), some (vr l2)]) (st' := [vR l2]) rfl ?_
    obtain ⟨v2, e2, e⟩ := ob e
    refine gd_11_0 rfl A e2 (fun r2 => ?_)
    refine hg_run 1 (pc' := 11) (ls' := [z0, some (vi l1), some (vr l2)]) (st' := [vI l1, vI v2]) rfl ?_
    rcases oi e with ⟨q3, e⟩ | ⟨q3, e⟩
    · refine hg_icF (tgt := 16) rfl (by decide) r2 rl1 (show ¬ ¬ (v2 = l1) from fun f => f q3) ?_
      refine hg_run 1 (pc' := 15) (ls' := [z0, some (vi l1), some (vr l2)]) (st' := [vI 1]) rfl ?_
      cases e
      exact hg_retI rfl (by decide) (fit_B (.inr rfl)) (kr _ rfl (rgn 1 rfl))
    · refine hg_icT (tgt := 16) rfl (by decide) r2 rl1 (show ¬ (v2 = l1) from q3) ?_
      refine hg_run 1 (pc' := 17) (ls' := [z0, some (vi l1), some (vr l2)]) (st' := [vR l2]) rfl ?_
      obtain ⟨v4, e4, e⟩ := ob e
      refine gd_11_1 rfl A e4 ?_
      refine hg_run 2 (pc' := 2) (ls' := [z0, some (vi l1), some (vr v4)]) (st' := []) rfl ?_
      cases e
      exact kb v4 rfl 
theorem t150_l2 {d : Nat} (hd : 0 ≤ d) {l1 : Int} {z0 : Option hO} {h : hS} {w : mmW} {Q : mmO → Prop} (rl1 : rg l1) (n : Nat) {l2 : Nat}  {r : (Unit) ⊕ (Int)}  (A : Abs h w) (e : lp (fun s => c150_b2 l1 h s) n (l2) = some r) (ke : r = .inl () → ∀ (y2 : Option hO), hG d 150 24 [z0, some (vi l1), y2] [] w Q) (kr : ∀ v1 : Int, r = .inr v1 → rg v1 → Q (some (.int (Int32.ofInt v1)), w)) : hG d 150 2 [z0, some (vi l1), some (vr l2)] [] w Q := by
  induction n generalizing l2 with
  | zero => cases e
  | succ n ih =>
    rcases lp_succ e with ⟨s1, e1, e2⟩ | e1
    · exact t150_b2 hd rl1 A e1 (fun s_0 q  => by cases q; exact ih  e2) (fun  q => by cases q) (fun v0 q => by cases q)
    · exact t150_b2 hd rl1 A e1 (fun s_0 q => by cases q) (fun  q => by cases q; exact ke  rfl) (fun v0 q => by cases q; exact kr _ rfl)
def c150 (l0 : Nat) (l1 : Int) (h : hS) : Option (Int) :=
  (lp (fun s => c150_b2 l1 h s) hF0 (l0)).bind (fun r5 => xs r5 (fun x5 =>
  some 0) (fun o5 => some o5))
theorem t150 {d : Nat} (hd : 1 ≤ d) {l0 : Nat} {l1 : Int} {h : hS} {w : mmW} {o : Int} (A : Abs h w) (rl1 : rg l1) (e : c150 l0 l1 h = some o) : hEv d 150 [vR l0, vI l1] w (qIp o w) := by
  obtain ⟨d, rfl⟩ : ∃ d1, d = d1 + 1 := ⟨d - 1, by omega⟩
  have hd : 0 ≤ d := by omega
  refine hEv_start (args := [vr l0, vi l1]) (nl := 3) rfl (Nat.le_of_ble_eq_true rfl) ?_
  show hG d 150 0 [some (vr l0), some (vi l1), none] [] w _
  have kr : ∀ v1 : Int, o = v1 → rg v1 → qIp o w (some (.int (Int32.ofInt v1)), w) := fun v1 q r => by cases q; exact ⟨rfl, r⟩
  unfold c150 at e
  refine hg_run 2 (pc' := 2) (ls' := [some (vr l0), some (vi l1), some (vr l0)]) (st' := []) rfl ?_
  obtain ⟨r5, e5, e⟩ := ob e
  refine t150_l2 hd rl1 _  A e5 ?_ ?_
  · intro  qq5 z5_2
    subst qq5
    have e := xs_l e
    refine hg_run 1 (pc' := 25) (ls' := [some (vr l0), some (vi l1), z5_2]) (st' := [vI 0]) rfl ?_
    cases e
    exact hg_retI rfl (by decide) (fit_B (.inl rfl)) (kr _ rfl (rgn 0 rfl))
  · intro v5 qq5 r5
    subst qq5
    have e := xs_r e
    cases e
    exact kr _ rfl r5
def c149_j34 (l1 : Nat) (l3 : Nat) (h : hS) : Option (Int × hS) :=
  (pR h l1 24 1 l3).bind (fun h5 =>
  (pI h5 l1 24 3 1).bind (fun h6 =>
  some (0, h6)))
theorem t149_j34 {d : Nat} (hd : 1 ≤ d) {l1 : Nat} {l3 : Nat} {z0 : Option hO} {z2 : Option hO} {h : hS} {w : mmW} {o : Int × hS} {Q : mmO → Prop}  (A : Abs h w) (e : c149_j34 l1 l3 h = some o) (kr : ∀ (v1 : Int) (h1 : hS), o = (v1, h1) → ∀ w', rg v1 → Abs h1 w' → Q (some (.int (Int32.ofInt v1)), w')) : hG d 149 34 [z0, some (vr l1), z2, some (vr l3)] [] w Q := by
  unfold c149_j34 at e
  refine hg_run 2 (pc' := 36) (ls' := [z0, some (vr l1), z2, some (vr l3)]) (st' := [vR l3, vR l1]) rfl ?_
  obtain ⟨h5, e5, e⟩ := ob e
  refine pd_11_1 rfl A e5 (fun w5 A5 => ?_)
  refine hg_run 2 (pc' := 41) (ls' := [z0, some (vr l1), z2, some (vr l3)]) (st' := [vI 1, vR l1]) rfl ?_
  obtain ⟨h6, e6, e⟩ := ob e
  refine pd_11_3 rfl A5 (rgn 1 rfl) (.inr rfl) e6 (fun w6 A6 => ?_)
  refine hg_run 1 (pc' := 45) (ls' := [z0, some (vr l1), z2, some (vr l3)]) (st' := [vI 0]) rfl ?_
  cases e
  exact hg_retI rfl (by decide) (fit_I _) (kr _ _ rfl _ (rgn 0 rfl) A6)
def c149_j17 (l1 : Nat) (l3 : Nat) (h : hS) : Option (Int × hS) :=
  (hnul l3).bind (fun b4 =>
  if b4 = true then
  c149_j34 l1 l3 h
  else
  (gI h l1 24 0).bind (fun v7 =>
  (kT h l3 24).bind (fun u9 =>
  (c150 l3 v7 h).bind (fun v8 =>
  if v8 = 0 then
  c149_j34 l1 l3 h
  else
  some (5, h)))))
theorem t149_j17 {d : Nat} (hd : 1 ≤ d) {l1 : Nat} {l3 : Nat} {z0 : Option hO} {z2 : Option hO} {h : hS} {w : mmW} {o : Int × hS} {Q : mmO → Prop}  (A : Abs h w) (e : c149_j17 l1 l3 h = some o) (kr : ∀ (v1 : Int) (h1 : hS), o = (v1, h1) → ∀ w', rg v1 → Abs h1 w' → Q (some (.int (Int32.ofInt v1)), w')) : hG d 149 17 [z0, some (vr l1), z2, some (vr l3)] [] w Q := by
  unfold c149_j17 at e
  refine hg_run 1 (pc' := 18) (ls' := [z0, some (vr l1), z2, some (vr l3)]) (st' := [vR l3]) rfl ?_
  obtain ⟨b4, e4, e⟩ := ob e
  rcases oi e with ⟨q4, e⟩ | ⟨q4, e⟩
  · refine hg_nul (yes := true) (tgt := 34) (t2 := 34) rfl (fun _ _ _ _ => rfl) (by decide) (ebT e4 q4) rfl ?_
    exact t149_j34 hd  A e kr
  · refine hg_nul (yes := true) (tgt := 34) (t2 := 21) rfl (fun _ _ _ _ => rfl) (by decide) (ebF e4 q4) rfl ?_
    refine hg_run 2 (pc' := 23) (ls' := [z0, some (vr l1), z2, some (vr l3)]) (st' := [vR l1, vR l3]) rfl ?_
    obtain ⟨v7, e7, e⟩ := ob e
    refine gd_11_0 rfl A e7 (fun r7 => ?_)
    obtain ⟨u9, e9, e⟩ := ob e
    obtain ⟨v8, e8, e⟩ := ob e
    refine hg_cIp (as := [vR l3, vI v7]) (st' := []) rfl (fun _ _ _ _ => rfl) rfl rfl (Nat.le_of_ble_eq_true rfl) (Nat.le_of_ble_eq_true rfl) (recvV A (a := 11) (kT_e e9)) (t150 (by omega) A r7 e8) (fun r8 => ?_)
    rcases oi e with ⟨q10, e⟩ | ⟨q10, e⟩
    · refine hg_ifT (tgt := 34) rfl (by decide) r8 q10 ?_
      exact t149_j34 hd  A e kr
    · refine hg_ifF (tgt := 34) rfl (by decide) r8 q10 ?_
      refine hg_run 1 (pc' := 33) (ls' := [z0, some (vr l1), z2, some (vr l3)]) (st' := [vI 5]) rfl ?_
      cases e
      exact hg_retI rfl (by decide) (fit_I _) (kr _ _ rfl _ (rgn 5 rfl) A)
def c149 (l0 : Nat) (l1 : Nat) (l2 : Int) (h : hS) : Option (Int × hS) :=
  (kT h l0 18).bind (fun u2 =>
  (c47 l0 l2 h).bind (fun v1 =>
  if l2 = (-1) then
  c149_j17 l1 v1 h
  else
  (hnul v1).bind (fun b11 =>
  if b11 = true then
  some (1, h)
  else
  c149_j17 l1 v1 h)))
theorem t149 {d : Nat} (hd : 2 ≤ d) {l0 : Nat} {l1 : Nat} {l2 : Int} {h : hS} {w : mmW} {o : Int × hS} (A : Abs h w) (rl2 : rg l2) (e : c149 l0 l1 l2 h = some o) : hEv d 149 [vR l0, vR l1, vI l2] w (qI o) := by
  obtain ⟨d, rfl⟩ : ∃ d1, d = d1 + 1 := ⟨d - 1, by omega⟩
  have hd : 1 ≤ d := by omega
  refine hEv_start (args := [vr l0, vr l1, vi l2]) (nl := 4) rfl (Nat.le_of_ble_eq_true rfl) ?_
  show hG d 149 0 [some (vr l0), some (vr l1), some (vi l2), none] [] w _
  have kr : ∀ (v1 : Int) (h1 : hS), o = (v1, h1) → ∀ w', rg v1 → Abs h1 w' → qI o (some (.int (Int32.ofInt v1)), w') := fun v1 h1 q w' r A' => by cases q; exact ⟨rfl, r, A'⟩
  unfold c149 at e
  refine hg_run 2 (pc' := 2) (ls' := [some (vr l0), some (vr l1), some (vi l2), none]) (st' := [vI l2, vR l0]) rfl ?_
  obtain ⟨u2, e2, e⟩ := ob e
  obtain ⟨v1, e1, e⟩ := ob e
  refine hg_cRp (as := [vR l0, vI l2]) (st' := []) rfl (fun _ _ _ _ => rfl) rfl rfl (Nat.le_of_ble_eq_true rfl) (Nat.le_of_ble_eq_true rfl) (recvV A (a := 8) (kT_e e2)) (t47 (by omega) A rl2 e1) ?_
  refine hg_run 3 (pc' := 8) (ls' := [some (vr l0), some (vr l1), some (vi l2), some (vr v1)]) (st' := [vI (-1), vI l2]) rfl ?_
  rcases oi e with ⟨q3, e⟩ | ⟨q3, e⟩
  · refine hg_icT (tgt := 17) rfl (by decide) rl2 (rgn (-1) rfl) q3 ?_
    exact t149_j17 hd  A e kr
  · refine hg_icF (tgt := 17) rfl (by decide) rl2 (rgn (-1) rfl) q3 ?_
    refine hg_run 1 (pc' := 12) (ls' := [some (vr l0), some (vr l1), some (vi l2), some (vr v1)]) (st' := [vR v1]) rfl ?_
    obtain ⟨b11, e11, e⟩ := ob e
    rcases oi e with ⟨q11, e⟩ | ⟨q11, e⟩
    · refine hg_nul (yes := false) (tgt := 17) (t2 := 15) rfl (fun _ _ _ _ => rfl) (by decide) (ebT e11 q11) rfl ?_
      refine hg_run 1 (pc' := 16) (ls' := [some (vr l0), some (vr l1), some (vi l2), some (vr v1)]) (st' := [vI 1]) rfl ?_
      cases e
      exact hg_retI rfl (by decide) (fit_I _) (kr _ _ rfl _ (rgn 1 rfl) A)
    · refine hg_nul (yes := false) (tgt := 17) (t2 := 17) rfl (fun _ _ _ _ => rfl) (by decide) (ebF e11 q11) rfl ?_
      exact t149_j17 hd  A e kr
def c147_j97 (l1 : Nat) (l2 : Nat) (h : hS) : Option (Int × hS) :=
  (kT h l2 24).bind (fun u10 =>
  (c75 l2 l1 h).bind (fun v9 =>
  some (v9.1, v9.2)))
theorem t147_j97 {d : Nat} (hd : 4 ≤ d) {l1 : Nat} {l2 : Nat} {z0 : Option hO} {h : hS} {w : mmW} {o : Int × hS} {Q : mmO → Prop}  (A : Abs h w) (e : c147_j97 l1 l2 h = some o) (kr : ∀ (v1 : Int) (h1 : hS), o = (v1, h1) → ∀ w', rg v1 → Abs h1 w' → Q (some (.int (Int32.ofInt v1)), w')) : hG d 147 97 [z0, some (vr l1), some (vr l2)] [] w Q := by
  unfold c147_j97 at e
  refine hg_run 2 (pc' := 99) (ls' := [z0, some (vr l1), some (vr l2)]) (st' := [vR l1, vR l2]) rfl ?_
  obtain ⟨u10, e10, e⟩ := ob e
  obtain ⟨v9, e9, e⟩ := ob e
  refine hg_cI (as := [vR l2, vR l1]) (st' := []) rfl (fun _ _ _ _ => rfl) rfl rfl (Nat.le_of_ble_eq_true rfl) (Nat.le_of_ble_eq_true rfl) (recvV A (a := 11) (kT_e e10)) (t75 (by omega) A  e9) (fun w9 r9 A9 => ?_)
  cases e
  exact hg_retI rfl (by decide) (fit_I _) (kr _ _ rfl _ r9 A9)
def c147 (l0 : Nat) (l1 : Nat) (h : hS) : Option (Int × hS) :=
  (gI h l1 22 0).bind (fun v1 =>
  if v1 = 200 then
  (kT h l0 18).bind (fun u24 =>
  (c56 l0 l1 h).bind (fun v23 =>
  some (v23.1, v23.2)))
  else
  (gI h l1 22 2).bind (fun v3 =>
  (kT h l0 18).bind (fun u5 =>
  (c47 l0 v3 h).bind (fun v4 =>
  (hnul v4).bind (fun b6 =>
  if b6 = true then
  some (1, h)
  else
  (gI h l1 22 0).bind (fun v7 =>
  if v7 < 216 ∨ 221 < v7 then
  c147_j97 l1 v4 h
  else
  if v7 = 216 then
  (pI h v4 24 3 1).bind (fun h12 =>
  some (0, h12))
  else
  if v7 = 217 then
  (kT h l0 18).bind (fun u15 =>
  (c148 l0 v4 h).bind (fun v14 =>
  some (v14.1, v14.2)))
  else
  if v7 = 218 then
  (gI h l1 22 4).bind (fun v17 =>
  (kT h l0 18).bind (fun u19 =>
  (c149 l0 v4 v17 h).bind (fun v18 =>
  some (v18.1, v18.2))))
  else
  if v7 = 219 then
  c147_j97 l1 v4 h
  else
  if v7 = 220 then
  c147_j97 l1 v4 h
  else
  if v7 = 221 then
  some (0, h)
  else
  none))))))
theorem t147 {d : Nat} (hd : 5 ≤ d) {l0 : Nat} {l1 : Nat} {h : hS} {w : mmW} {o : Int × hS} (A : Abs h w)  (e : c147 l0 l1 h = some o) : hEv d 147 [vR l0, vR l1] w (qI o) := by
  obtain ⟨d, rfl⟩ : ∃ d1, d = d1 + 1 := ⟨d - 1, by omega⟩
  have hd : 4 ≤ d := by omega
  refine hEv_start (args := [vr l0, vr l1]) (nl := 3) rfl (Nat.le_of_ble_eq_true rfl) ?_
  show hG d 147 0 [some (vr l0), some (vr l1), none] [] w _
  have kr : ∀ (v1 : Int) (h1 : hS), o = (v1, h1) → ∀ w', rg v1 → Abs h1 w' → qI o (some (.int (Int32.ofInt v1)), w') := fun v1 h1 q w' r A' => by cases q; exact ⟨rfl, r, A'⟩
  unfold c147 at e
  refine hg_run 1 (pc' := 1) (ls' := [some (vr l0), some (vr l1), none]) (st' := [vR l1]) rfl ?_
  obtain ⟨v1, e1, e⟩ := ob e
  refine gd_10_0 rfl A e1 (fun r1 => ?_)
  refine hg_run 1 (pc' := 7) (ls' := [some (vr l0), some (vr l1), none]) (st' := [vI 200, vI v1]) rfl ?_
  rcases oi e with ⟨q2, e⟩ | ⟨q2, e⟩
  · refine hg_icF (tgt := 16) rfl (by decide) r1 (rgn 200 rfl) (show ¬ ¬ (v1 = 200) from fun f => f q2) ?_
    refine hg_run 2 (pc' := 12) (ls' := [some (vr l0), some (vr l1), none]) (st' := [vR l1, vR l0]) rfl ?_
    obtain ⟨u24, e24, e⟩ := ob e
    obtain ⟨v23, e23, e⟩ := ob e
    refine hg_cI (as := [vR l0, vR l1]) (st' := []) rfl (fun _ _ _ _ => rfl) rfl rfl (Nat.le_of_ble_eq_true rfl) (Nat.le_of_ble_eq_true rfl) (recvV A (a := 8) (kT_e e24)) (t56 (by omega) A  e23) (fun w23 r23 A23 => ?_)
    cases e
    exact hg_retI rfl (by decide) (fit_I _) (kr _ _ rfl _ r23 A23)
  · refine hg_icT (tgt := 16) rfl (by decide) r1 (rgn 200 rfl) (show ¬ (v1 = 200) from q2) ?_
    refine hg_run 2 (pc' := 18) (ls' := [some (vr l0), some (vr l1), none]) (st' := [vR l1, vR l0]) rfl ?_
    obtain ⟨v3, e3, e⟩ := ob e
    refine gd_10_2 rfl A e3 (fun r3 => ?_)
    obtain ⟨u5, e5, e⟩ := ob e
    obtain ⟨v4, e4, e⟩ := ob e
    refine hg_cRp (as := [vR l0, vI v3]) (st' := []) rfl (fun _ _ _ _ => rfl) rfl rfl (Nat.le_of_ble_eq_true rfl) (Nat.le_of_ble_eq_true rfl) (recvV A (a := 8) (kT_e e5)) (t47 (by omega) A r3 e4) ?_
    refine hg_run 2 (pc' := 26) (ls' := [some (vr l0), some (vr l1), some (vr v4)]) (st' := [vR v4]) rfl ?_
    obtain ⟨b6, e6, e⟩ := ob e
    rcases oi e with ⟨q6, e⟩ | ⟨q6, e⟩
    · refine hg_nul (yes := false) (tgt := 31) (t2 := 29) rfl (fun _ _ _ _ => rfl) (by decide) (ebT e6 q6) rfl ?_
      refine hg_run 1 (pc' := 30) (ls' := [some (vr l0), some (vr l1), some (vr v4)]) (st' := [vI 1]) rfl ?_
      cases e
      exact hg_retI rfl (by decide) (fit_I _) (kr _ _ rfl _ (rgn 1 rfl) A)
    · refine hg_nul (yes := false) (tgt := 31) (t2 := 31) rfl (fun _ _ _ _ => rfl) (by decide) (ebF e6 q6) rfl ?_
      refine hg_run 1 (pc' := 32) (ls' := [some (vr l0), some (vr l1), some (vr v4)]) (st' := [vR l1]) rfl ?_
      obtain ⟨v7, e7, e⟩ := ob e
      refine gd_10_0 rfl A e7 (fun r7 => ?_)
      rcases oi e with ⟨q8, e⟩ | ⟨q8, e⟩
      · refine hg_tsD (tgt := 97) rfl r7 q8 (by decide) ?_
        exact t147_j97 hd  A e kr
      · rcases oi e with ⟨q11, e⟩ | ⟨q11, e⟩
        · refine hg_tsC (tgt := 72) rfl r7 q11 (by decide) rfl (by decide) ?_
          refine hg_run 2 (pc' := 74) (ls' := [some (vr l0), some (vr l1), some (vr v4)]) (st' := [vI 1, vR v4]) rfl ?_
          obtain ⟨h12, e12, e⟩ := ob e
          refine pd_11_3 rfl A (rgn 1 rfl) (.inr rfl) e12 (fun w12 A12 => ?_)
          refine hg_run 1 (pc' := 78) (ls' := [some (vr l0), some (vr l1), some (vr v4)]) (st' := [vI 0]) rfl ?_
          cases e
          exact hg_retI rfl (by decide) (fit_I _) (kr _ _ rfl _ (rgn 0 rfl) A12)
        · rcases oi e with ⟨q13, e⟩ | ⟨q13, e⟩
          · refine hg_tsC (tgt := 79) rfl r7 q13 (by decide) rfl (by decide) ?_
            refine hg_run 2 (pc' := 81) (ls' := [some (vr l0), some (vr l1), some (vr v4)]) (st' := [vR v4, vR l0]) rfl ?_
            obtain ⟨u15, e15, e⟩ := ob e
            obtain ⟨v14, e14, e⟩ := ob e
            refine hg_cI (as := [vR l0, vR v4]) (st' := []) rfl (fun _ _ _ _ => rfl) rfl rfl (Nat.le_of_ble_eq_true rfl) (Nat.le_of_ble_eq_true rfl) (recvV A (a := 8) (kT_e e15)) (t148 (by omega) A  e14) (fun w14 r14 A14 => ?_)
            cases e
            exact hg_retI rfl (by decide) (fit_I _) (kr _ _ rfl _ r14 A14)
          · rcases oi e with ⟨q16, e⟩ | ⟨q16, e⟩
            · refine hg_tsC (tgt := 85) rfl r7 q16 (by decide) rfl (by decide) ?_
              refine hg_run 3 (pc' := 88) (ls' := [some (vr l0), some (vr l1), some (vr v4)]) (st' := [vR l1, vR v4, vR l0]) rfl ?_
              obtain ⟨v17, e17, e⟩ := ob e
              refine gd_10_4 rfl A e17 (fun r17 => ?_)
              obtain ⟨u19, e19, e⟩ := ob e
              obtain ⟨v18, e18, e⟩ := ob e
              refine hg_cI (as := [vR l0, vR v4, vI v17]) (st' := []) rfl (fun _ _ _ _ => rfl) rfl rfl (Nat.le_of_ble_eq_true rfl) (Nat.le_of_ble_eq_true rfl) (recvV A (a := 8) (kT_e e19)) (t149 (by omega) A r17 e18) (fun w18 r18 A18 => ?_)
              cases e
              exact hg_retI rfl (by decide) (fit_I _) (kr _ _ rfl _ r18 A18)
            · rcases oi e with ⟨q20, e⟩ | ⟨q20, e⟩
              · refine hg_tsC (tgt := 97) rfl r7 q20 (by decide) rfl (by decide) ?_
                exact t147_j97 hd  A e kr
              · rcases oi e with ⟨q21, e⟩ | ⟨q21, e⟩
                · refine hg_tsC (tgt := 97) rfl r7 q21 (by decide) rfl (by decide) ?_
                  exact t147_j97 hd  A e kr
                · rcases oi e with ⟨q22, e⟩ | ⟨q22, e⟩
                  · refine hg_tsC (tgt := 95) rfl r7 q22 (by decide) rfl (by decide) ?_
                    refine hg_run 1 (pc' := 96) (ls' := [some (vr l0), some (vr l1), some (vr v4)]) (st' := [vI 0]) rfl ?_
                    cases e
                    exact hg_retI rfl (by decide) (fit_I _) (kr _ _ rfl _ (rgn 0 rfl) A)
                  · cases e
def c151 (l1 : Int) (l2 : Int) (l3 : Int) (h : hS) : Option (Int × hS) :=
  (some (sI h 48 10 l1)).bind (fun h1 =>
  (some (sI h1 48 11 l2)).bind (fun h2 =>
  (some (sI h2 48 12 l3)).bind (fun h3 =>
  some (0, h3))))
theorem t151 {d : Nat} (hd : 1 ≤ d) {l1 : Int} {l2 : Int} {l3 : Int} {h : hS} {w : mmW} {o : Int × hS} (A : Abs h w) (rl1 : rg l1) (rl2 : rg l2) (rl3 : rg l3) (e : c151 l1 l2 l3 h = some o) : hEv d 151 [vR 48, vI l1, vI l2, vI l3] w (qI o) := by
  obtain ⟨d, rfl⟩ : ∃ d1, d = d1 + 1 := ⟨d - 1, by omega⟩
  have hd : 0 ≤ d := by omega
  refine hEv_start (args := [vr 48, vi l1, vi l2, vi l3]) (nl := 4) rfl (Nat.le_of_ble_eq_true rfl) ?_
  show hG d 151 0 [some (vr 48), some (vi l1), some (vi l2), some (vi l3)] [] w _
  have kr : ∀ (v1 : Int) (h1 : hS), o = (v1, h1) → ∀ w', rg v1 → Abs h1 w' → qI o (some (.int (Int32.ofInt v1)), w') := fun v1 h1 q w' r A' => by cases q; exact ⟨rfl, r, A'⟩
  unfold c151 at e
  refine hg_run 2 (pc' := 2) (ls' := [some (vr 48), some (vi l1), some (vi l2), some (vi l3)]) (st' := [vI l1, vR 48]) rfl ?_
  obtain ⟨h1, e1, e⟩ := ob e
  refine ps_48_10 rfl A rl1 e1 (fun w1 A1 => ?_)
  refine hg_run 2 (pc' := 7) (ls' := [some (vr 48), some (vi l1), some (vi l2), some (vi l3)]) (st' := [vI l2, vR 48]) rfl ?_
  obtain ⟨h2, e2, e⟩ := ob e
  refine ps_48_11 rfl A1 rl2 e2 (fun w2 A2 => ?_)
  refine hg_run 2 (pc' := 12) (ls' := [some (vr 48), some (vi l1), some (vi l2), some (vi l3)]) (st' := [vI l3, vR 48]) rfl ?_
  obtain ⟨h3, e3, e⟩ := ob e
  refine ps_48_12 rfl A2 rl3 e3 (fun w3 A3 => ?_)
  refine hg_run 1 (pc' := 16) (ls' := [some (vr 48), some (vi l1), some (vi l2), some (vi l3)]) (st' := [vI 0]) rfl ?_
  cases e
  exact hg_retI rfl (by decide) (fit_B (.inl rfl)) (kr _ _ rfl _ (rgn 0 rfl) A3)
def c152_b29 (l2 : Nat) (l3 : Nat) (h : hS) (l4 : Int) : Option ((Int) ⊕ ((Unit) ⊕ (Int))) :=
  (gI h l2 24 4).bind (fun v7 =>
  if v7 ≤ l4 then
  some (.inr (.inl ()))
  else
  (gR h l2 24 5).bind (fun v9 =>
  (aI h v9 1 l4).bind (fun v10 =>
  (kT h l3 24).bind (fun u12 =>
  (c61 l3 v10 h).bind (fun v11 =>
  if v11 = 0 then
  some (.inl ((wadd l4 1)))
  else
  some (.inr (.inr 1)))))))
theorem t152_b29 {d : Nat} (hd : 2 ≤ d) {l2 : Nat} {l3 : Nat} {l4 : Int} {l0 : Nat} {l1 : Int} {h : hS} {w : mmW} {o : (Int) ⊕ ((Unit) ⊕ (Int))} {Q : mmO → Prop} (rl4 : rg l4) (A : Abs h w) (e : c152_b29 l2 l3 h l4 = some o) (kb : ∀ (s_0 : Int), o = .inl (s_0) → rg s_0 → hG d 152 29 [some (vr l0), some (vi l1), some (vr l2), some (vr l3), some (vi s_0)] [] w Q) (ke : o = .inr (.inl ()) → ∀ (y4 : Option hO), hG d 152 60 [some (vr l0), some (vi l1), some (vr l2), some (vr l3), y4] [] w Q) (kr : ∀ v1 : Int, o = .inr (.inr v1) → rg v1 → Q (some (.int (Int32.ofInt v1)), w)) : hG d 152 29 [some (vr l0), some (vi l1), some (vr l2), some (vr l3), some (vi l4)] [] w Q := by
  unfold c152_b29 at e
  refine hg_run 2 (pc' := 32) (ls' := [some (vr l0), some (vi l1), some (vr l2), some (vr l3), some (vi l4)]) (st' := [vR l2, vI l4]) rfl ?_
  obtain ⟨v7, e7, e⟩ := ob e
  refine gd_11_4 rfl A e7 (fun r7 => ?_)
  rcases oi e with ⟨q8, e⟩ | ⟨q8, e⟩
  · refine hg_icT (tgt := 60) rfl (by decide) rl4 r7 q8 ?_
    cases e
    exact ke  rfl _ 
  · refine hg_icF (tgt := 60) rfl (by decide) rl4 r7 q8 ?_
    refine hg_run 2 (pc' := 40) (ls' := [some (vr l0), some (vi l1), some (vr l2), some (vr l3), some (vi l4)]) (st' := [vR l2, vR l3]) rfl ?_
    obtain ⟨v9, e9, e⟩ := ob e
    refine gd_11_5 rfl A e9 ?_
    refine hg_run 1 (pc' := 45) (ls' := [some (vr l0), some (vi l1), some (vr l2), some (vr l3), some (vi l4)]) (st' := [vI l4, vR v9, vR l3]) rfl ?_
    obtain ⟨v10, e10, e⟩ := ob e
    refine hg_aId 0 rfl (fun _ _ _ _ => rfl) A rfl (by decide) e10 (fun r10 => ?_)
    obtain ⟨u12, e12, e⟩ := ob e
    obtain ⟨v11, e11, e⟩ := ob e
    refine hg_cIp (as := [vR l3, vI v10]) (st' := []) rfl (fun _ _ _ _ => rfl) rfl rfl (Nat.le_of_ble_eq_true rfl) (Nat.le_of_ble_eq_true rfl) (recvV A (a := 11) (kT_e e12)) (t61 (by omega) A r10 e11) (fun r11 => ?_)
    rcases oi e with ⟨q13, e⟩ | ⟨q13, e⟩
    · refine hg_ifT (tgt := 54) rfl (by decide) r11 q13 ?_
      refine hg_run 2 (pc' := 29) (ls' := [some (vr l0), some (vi l1), some (vr l2), some (vr l3), some (vi (wadd l4 1))]) (st' := []) rfl ?_
      cases e
      exact kb (wadd l4 1) rfl (rg_add _ _)
    · refine hg_ifF (tgt := 54) rfl (by decide) r11 q13 ?_
      refine hg_run 1 (pc' := 53) (ls' := [some (vr l0), some (vi l1), some (vr l2), some (vr l3), some (vi l4)]) (st' := [vI 1]) rfl ?_
      cases e
      exact hg_retI rfl (by decide) (fit_B (.inr rfl)) (kr _ rfl (rgn 1 rfl))
theorem t152_l29 {d : Nat} (hd : 2 ≤ d) {l2 : Nat} {l3 : Nat} {l0 : Nat} {l1 : Int} {h : hS} {w : mmW} {Q : mmO → Prop}  (n : Nat) {l4 : Int}  {r : (Unit) ⊕ (Int)} (rl4 : rg l4) (A : Abs h w) (e : lp (fun s => c152_b29 l2 l3 h s) n (l4) = some r) (ke : r = .inl () → ∀ (y4 : Option hO), hG d 152 60 [some (vr l0), some (vi l1), some (vr l2), some (vr l3), y4] [] w Q) (kr : ∀ v1 : Int, r = .inr v1 → rg v1 → Q (some (.int (Int32.ofInt v1)), w)) : hG d 152 29 [some (vr l0), some (vi l1), some (vr l2), some (vr l3), some (vi l4)] [] w Q := by
  induction n generalizing l4 with
  | zero => cases e
  | succ n ih =>
    rcases lp_succ e with ⟨s1, e1, e2⟩ | e1
    · exact t152_b29 hd rl4 A e1 (fun s_0 q rl4 => by cases q; exact ih rl4 e2) (fun  q => by cases q) (fun v0 q => by cases q)
    · exact t152_b29 hd rl4 A e1 (fun s_0 q => by cases q) (fun  q => by cases q; exact ke  rfl) (fun v0 q => by cases q; exact kr _ rfl)
def c152_b63 (l2 : Nat) (l3 : Nat) (h : hS) (l4 : Int) : Option ((Int) ⊕ ((Unit) ⊕ (Int))) :=
  (gI h l2 24 8).bind (fun v15 =>
  if v15 ≤ l4 then
  some (.inr (.inl ()))
  else
  (gR h l2 24 9).bind (fun v17 =>
  (aI h v17 1 l4).bind (fun v18 =>
  (kT h l3 24).bind (fun u20 =>
  (c61 l3 v18 h).bind (fun v19 =>
  if v19 = 0 then
  some (.inl ((wadd l4 1)))
  else
  some (.inr (.inr 1)))))))
theorem t152_b63 {d : Nat} (hd : 2 ≤ d) {l2 : Nat} {l3 : Nat} {l4 : Int} {l0 : Nat} {l1 : Int} {h : hS} {w : mmW} {o : (Int) ⊕ ((Unit) ⊕ (Int))} {Q : mmO → Prop} (rl4 : rg l4) (A : Abs h w) (e : c152_b63 l2 l3 h l4 = some o) (kb : ∀ (s_0 : Int), o = .inl (s_0) → rg s_0 → hG d 152 63 [some (vr l0), some (vi l1), some (vr l2), some (vr l3), some (vi s_0)] [] w Q) (ke : o = .inr (.inl ()) → ∀ (y4 : Option hO), hG d 152 94 [some (vr l0), some (vi l1), some (vr l2), some (vr l3), y4] [] w Q) (kr : ∀ v1 : Int, o = .inr (.inr v1) → rg v1 → Q (some (.int (Int32.ofInt v1)), w)) : hG d 152 63 [some (vr l0), some (vi l1), some (vr l2), some (vr l3), some (vi l4)] [] w Q := by
  unfold c152_b63 at e
  refine hg_run 2 (pc' := 66) (ls' := [some (vr l0), some (vi l1), some (vr l2), some (vr l3), some (vi l4)]) (st' := [vR l2, vI l4]) rfl ?_
  obtain ⟨v15, e15, e⟩ := ob e
  refine gd_11_8 rfl A e15 (fun r15 => ?_)
  rcases oi e with ⟨q16, e⟩ | ⟨q16, e⟩
  · refine hg_icT (tgt := 94) rfl (by decide) rl4 r15 q16 ?_
    cases e
    exact ke  rfl _ 
  · refine hg_icF (tgt := 94) rfl (by decide) rl4 r15 q16 ?_
    refine hg_run 2 (pc' := 74) (ls' := [some (vr l0), some (vi l1), some (vr l2), some (vr l3), some (vi l4)]) (st' := [vR l2, vR l3]) rfl ?_
    obtain ⟨v17, e17, e⟩ := ob e
    refine gd_11_9 rfl A e17 ?_
    refine hg_run 1 (pc' := 79) (ls' := [some (vr l0), some (vi l1), some (vr l2), some (vr l3), some (vi l4)]) (st' := [vI l4, vR v17, vR l3]) rfl ?_
    obtain ⟨v18, e18, e⟩ := ob e
    refine hg_aId 0 rfl (fun _ _ _ _ => rfl) A rfl (by decide) e18 (fun r18 => ?_)
    obtain ⟨u20, e20, e⟩ := ob e
    obtain ⟨v19, e19, e⟩ := ob e
    refine hg_cIp (as := [vR l3, vI v18]) (st' := []) rfl (fun _ _ _ _ => rfl) rfl rfl (Nat.le_of_ble_eq_true rfl) (Nat.le_of_ble_eq_true rfl) (recvV A (a := 11) (kT_e e20)) (t61 (by omega) A r18 e19) (fun r19 => ?_)
    rcases oi e with ⟨q21, e⟩ | ⟨q21, e⟩
    · refine hg_ifT (tgt := 88) rfl (by decide) r19 q21 ?_
      refine hg_run 2 (pc' := 63) (ls' := [some (vr l0), some (vi l1), some (vr l2), some (vr l3), some (vi (wadd l4 1))]) (st' := []) rfl ?_
      cases e
      exact kb (wadd l4 1) rfl (rg_add _ _)
    · refine hg_ifF (tgt := 88) rfl (by decide) r19 q21 ?_
      refine hg_run 1 (pc' := 87) (ls' := [some (vr l0), some (vi l1), some (vr l2), some (vr l3), some (vi l4)]) (st' := [vI 1]) rfl ?_
      cases e
      exact hg_retI rfl (by decide) (fit_B (.inr rfl)) (kr _ rfl (rgn 1 rfl))
theorem t152_l63 {d : Nat} (hd : 2 ≤ d) {l2 : Nat} {l3 : Nat} {l0 : Nat} {l1 : Int} {h : hS} {w : mmW} {Q : mmO → Prop}  (n : Nat) {l4 : Int}  {r : (Unit) ⊕ (Int)} (rl4 : rg l4) (A : Abs h w) (e : lp (fun s => c152_b63 l2 l3 h s) n (l4) = some r) (ke : r = .inl () → ∀ (y4 : Option hO), hG d 152 94 [some (vr l0), some (vi l1), some (vr l2), some (vr l3), y4] [] w Q) (kr : ∀ v1 : Int, r = .inr v1 → rg v1 → Q (some (.int (Int32.ofInt v1)), w)) : hG d 152 63 [some (vr l0), some (vi l1), some (vr l2), some (vr l3), some (vi l4)] [] w Q := by
  induction n generalizing l4 with
  | zero => cases e
  | succ n ih =>
    rcases lp_succ e with ⟨s1, e1, e2⟩ | e1
    · exact t152_b63 hd rl4 A e1 (fun s_0 q rl4 => by cases q; exact ih rl4 e2) (fun  q => by cases q) (fun v0 q => by cases q)
    · exact t152_b63 hd rl4 A e1 (fun s_0 q => by cases q) (fun  q => by cases q; exact ke  rfl) (fun v0 q => by cases q; exact kr _ rfl)
def c152_b22 (l2 : Nat) (h : hS) (l3 : Nat) : Option ((Nat) ⊕ ((Unit) ⊕ (Int))) :=
  (hnul l3).bind (fun b6 =>
  if b6 = true then
  some (.inr (.inl ()))
  else
  (lp (fun s => c152_b29 l2 l3 h s) hF0 (0)).bind (fun r14 => xs r14 (fun x14 =>
  (lp (fun s => c152_b63 l2 l3 h s) hF0 (0)).bind (fun r22 => xs r22 (fun x22 =>
  (gR h l3 24 1).bind (fun v23 =>
  some (.inl (v23)))) (fun o22 => some (.inr (.inr o22))))) (fun o14 => some (.inr (.inr o14)))))
theorem t152_b22 {d : Nat} (hd : 2 ≤ d) {l2 : Nat} {l3 : Nat} {l0 : Nat} {l1 : Int} {z4 : Option hO} {h : hS} {w : mmW} {o : (Nat) ⊕ ((Unit) ⊕ (Int))} {Q : mmO → Prop}  (A : Abs h w) (e : c152_b22 l2 h l3 = some o) (kb : ∀ (s_0 : Nat), o = .inl (s_0) → ∀ (y4 : Option hO), hG d 152 22 [some (vr l0), some (vi l1), some (vr l2), some (vr s_0), y4] [] w Q) (ke : o = .inr (.inl ()) → ∀ (y3 y4 : Option hO), hG d 152 102 [some (vr l0), some (vi l1), some (vr l2), y3, y4] [] w Q) (kr : ∀ v1 : Int, o = .inr (.inr v1) → rg v1 → Q (some (.int (Int32.ofInt v1)), w)) : hG d 152 22 [some (vr l0), some (vi l1), some (vr l2), some (vr l3), z4] [] w Q := by
  unfold c152_b22 at e
  refine hg_run 1 (pc' := 23) (ls' := [some (vr l0), some (vi l1), some (vr l2), some (vr l3), z4]) (st' := [vR l3]) rfl ?_
  obtain ⟨b6, e6, e⟩ := ob e
  rcases oi e with ⟨q6, e⟩ | ⟨q6, e⟩
  · refine hg_nul (yes := true) (tgt := 102) (t2 := 102) rfl (fun _ _ _ _ => rfl) (by decide) (ebT e6 q6) rfl ?_
    cases e
    exact ke  rfl _ _ 
  · refine hg_nul (yes := true) (tgt := 102) (t2 := 26) rfl (fun _ _ _ _ => rfl) (by decide) (ebF e6 q6) rfl ?_
    refine hg_run 2 (pc' := 29) (ls' := [some (vr l0), some (vi l1), some (vr l2), some (vr l3), some (vi 0)]) (st' := []) rfl ?_
    obtain ⟨r14, e14, e⟩ := ob e
    refine t152_l29 hd  _ (rgn 0 rfl) A e14 ?_ ?_
    · intro  qq14 z14_4
      subst qq14
      have e := xs_l e
      refine hg_run 2 (pc' := 63) (ls' := [some (vr l0), some (vi l1), some (vr l2), some (vr l3), some (vi 0)]) (st' := []) rfl ?_
      obtain ⟨r22, e22, e⟩ := ob e
      refine t152_l63 hd  _ (rgn 0 rfl) A e22 ?_ ?_
      · intro  qq22 z22_4
        subst qq22
        have e := xs_l e
        refine hg_run 1 (pc' := 95) (ls' := [some (vr l0), some (vi l1), some (vr l2), some (vr l3), z22_4]) (st' := [vR l3]) rfl ?_
        obtain ⟨v23, e23, e⟩ := ob e
        refine gd_11_1 rfl A e23 ?_
        refine hg_run 2 (pc' := 22) (ls' := [some (vr l0), some (vi l1), some (vr l2), some (vr v23), z22_4]) (st' := []) rfl ?_
        cases e
        exact kb v23 rfl _ 
      · intro v22 qq22 r22
        subst qq22
        have e := xs_r e
        cases e
        exact kr _ rfl r22
    · intro v14 qq14 r14
      subst qq14
      have e := xs_r e
      cases e
      exact kr _ rfl r14
theorem t152_l22 {d : Nat} (hd : 2 ≤ d) {l2 : Nat} {l0 : Nat} {l1 : Int} {h : hS} {w : mmW} {Q : mmO → Prop}  (n : Nat) {l3 : Nat} {z4 : Option hO} {r : (Unit) ⊕ (Int)}  (A : Abs h w) (e : lp (fun s => c152_b22 l2 h s) n (l3) = some r) (ke : r = .inl () → ∀ (y3 y4 : Option hO), hG d 152 102 [some (vr l0), some (vi l1), some (vr l2), y3, y4] [] w Q) (kr : ∀ v1 : Int, r = .inr v1 → rg v1 → Q (some (.int (Int32.ofInt v1)), w)) : hG d 152 22 [some (vr l0), some (vi l1), some (vr l2), some (vr l3), z4] [] w Q := by
  induction n generalizing l3 z4 with
  | zero => cases e
  | succ n ih =>
    rcases lp_succ e with ⟨s1, e1, e2⟩ | e1
    · exact t152_b22 hd  A e1 (fun s_0 q y4 => by cases q; exact ih  e2) (fun  q => by cases q) (fun v0 q => by cases q)
    · exact t152_b22 hd  A e1 (fun s_0 q => by cases q) (fun  q => by cases q; exact ke  rfl) (fun v0 q => by cases q; exact kr _ rfl)
def c152_b2 (l0 : Nat) (h : hS) (l1 : Int) : Option ((Int) ⊕ ((Unit) ⊕ (Int))) :=
  (gI h l0 18 1).bind (fun v1 =>
  if v1 ≤ l1 then
  some (.inr (.inl ()))
  else
  (gR h l0 18 0).bind (fun v3 =>
  (aR h v3 17 l1).bind (fun v4 =>
  (gR h v4 24 1).bind (fun v5 =>
  (lp (fun s => c152_b22 v4 h s) hF0 (v5)).bind (fun r24 => xs r24 (fun x24 =>
  some (.inl ((wadd l1 1)))) (fun o24 => some (.inr (.inr o24))))))))
theorem t152_b2 {d : Nat} (hd : 2 ≤ d) {l0 : Nat} {l1 : Int} {z2 : Option hO} {z3 : Option hO} {z4 : Option hO} {h : hS} {w : mmW} {o : (Int) ⊕ ((Unit) ⊕ (Int))} {Q : mmO → Prop} (rl1 : rg l1) (A : Abs h w) (e : c152_b2 l0 h l1 = some o) (kb : ∀ (s_0 : Int), o = .inl (s_0) → ∀ (y2 y3 y4 : Option hO), rg s_0 → hG d 152 2 [some (vr l0), some (vi s_0), y2, y3, y4] [] w Q) (ke : o = .inr (.inl ()) → ∀ (y1 y2 y3 y4 : Option hO), hG d 152 108 [some (vr l0), y1, y2, y3, y4] [] w Q) (kr : ∀ v1 : Int, o = .inr (.inr v1) → rg v1 → Q (some (.int (Int32.ofInt v1)), w)) : hG d 152 2 [some (vr l0), some (vi l1), z2, z3, z4] [] w Q := by
  unfold c152_b2 at e
  refine hg_run 2 (pc' := 4) (ls' := [some (vr l0), some (vi l1), z2, z3, z4]) (st' := [vR l0, vI l1]) rfl ?_
  obtain ⟨v1, e1, e⟩ := ob e
  refine gd_8_1 rfl A e1 (fun r1 => ?_)
  rcases oi e with ⟨q2, e⟩ | ⟨q2, e⟩
  · refine hg_icT (tgt := 108) rfl (by decide) rl1 r1 q2 ?_
    cases e
    exact ke  rfl _ _ _ _ 
  · refine hg_icF (tgt := 108) rfl (by decide) rl1 r1 q2 ?_
    refine hg_run 1 (pc' := 11) (ls' := [some (vr l0), some (vi l1), z2, z3, z4]) (st' := [vR l0]) rfl ?_
    obtain ⟨v3, e3, e⟩ := ob e
    refine gd_8_0 rfl A e3 ?_
    refine hg_run 1 (pc' := 15) (ls' := [some (vr l0), some (vi l1), z2, z3, z4]) (st' := [vI l1, vR v3]) rfl ?_
    obtain ⟨v4, e4, e⟩ := ob e
    refine hg_aRd 8 rfl (fun _ _ _ _ => rfl) A rfl (by decide) e4 ?_
    refine hg_run 2 (pc' := 18) (ls' := [some (vr l0), some (vi l1), some (vr v4), z3, z4]) (st' := [vR v4]) rfl ?_
    obtain ⟨v5, e5, e⟩ := ob e
    refine gd_11_1 rfl A e5 ?_
    refine hg_run 1 (pc' := 22) (ls' := [some (vr l0), some (vi l1), some (vr v4), some (vr v5), z4]) (st' := []) rfl ?_
    obtain ⟨r24, e24, e⟩ := ob e
    refine t152_l22 hd  _  A e24 ?_ ?_
    · intro  qq24 z24_3 z24_4
      subst qq24
      have e := xs_l e
      refine hg_run 2 (pc' := 2) (ls' := [some (vr l0), some (vi (wadd l1 1)), some (vr v4), z24_3, z24_4]) (st' := []) rfl ?_
      cases e
      exact kb (wadd l1 1) rfl _ _ _ (rg_add _ _)
    · intro v24 qq24 r24
      subst qq24
      have e := xs_r e
      cases e
      exact kr _ rfl r24
theorem t152_l2 {d : Nat} (hd : 2 ≤ d) {l0 : Nat}  {h : hS} {w : mmW} {Q : mmO → Prop}  (n : Nat) {l1 : Int} {z2 z3 z4 : Option hO} {r : (Unit) ⊕ (Int)} (rl1 : rg l1) (A : Abs h w) (e : lp (fun s => c152_b2 l0 h s) n (l1) = some r) (ke : r = .inl () → ∀ (y1 y2 y3 y4 : Option hO), hG d 152 108 [some (vr l0), y1, y2, y3, y4] [] w Q) (kr : ∀ v1 : Int, r = .inr v1 → rg v1 → Q (some (.int (Int32.ofInt v1)), w)) : hG d 152 2 [some (vr l0), some (vi l1), z2, z3, z4] [] w Q := by
  induction n generalizing l1 z2 z3 z4 with
  | zero => cases e
  | succ n ih =>
    rcases lp_succ e with ⟨s1, e1, e2⟩ | e1
    · exact t152_b2 hd rl1 A e1 (fun s_0 q y2 y3 y4 rl1 => by cases q; exact ih rl1 e2) (fun  q => by cases q) (fun v0 q => by cases q)
    · exact t152_b2 hd rl1 A e1 (fun s_0 q => by cases q) (fun  q => by cases q; exact ke  rfl) (fun v0 q => by cases q; exact kr _ rfl)
def c152 (l0 : Nat) (h : hS) : Option (Int) :=
  (lp (fun s => c152_b2 l0 h s) hF0 (0)).bind (fun r25 => xs r25 (fun x25 =>
  some 0) (fun o25 => some o25))
theorem t152 {d : Nat} (hd : 3 ≤ d) {l0 : Nat} {h : hS} {w : mmW} {o : Int} (A : Abs h w)  (e : c152 l0 h = some o) : hEv d 152 [vR l0] w (qIp o w) := by
  obtain ⟨d, rfl⟩ : ∃ d1, d = d1 + 1 := ⟨d - 1, by omega⟩
  have hd : 2 ≤ d := by omega
  refine hEv_start (args := [vr l0]) (nl := 5) rfl (Nat.le_of_ble_eq_true rfl) ?_
  show hG d 152 0 [some (vr l0), none, none, none, none] [] w _
  have kr : ∀ v1 : Int, o = v1 → rg v1 → qIp o w (some (.int (Int32.ofInt v1)), w) := fun v1 q r => by cases q; exact ⟨rfl, r⟩
  unfold c152 at e
  refine hg_run 2 (pc' := 2) (ls' := [some (vr l0), some (vi 0), none, none, none]) (st' := []) rfl ?_
  obtain ⟨r25, e25, e⟩ := ob e
  refine t152_l2 hd  _ (rgn 0 rfl) A e25 ?_ ?_
  · intro  qq25 z25_1 z25_2 z25_3 z25_4
    subst qq25
    have e := xs_l e
    refine hg_run 1 (pc' := 109) (ls' := [some (vr l0), z25_1, z25_2, z25_3, z25_4]) (st' := [vI 0]) rfl ?_
    cases e
    exact hg_retI rfl (by decide) (fit_B (.inl rfl)) (kr _ rfl (rgn 0 rfl))
  · intro v25 qq25 r25
    subst qq25
    have e := xs_r e
    cases e
    exact kr _ rfl r25
