/-! read as functions: laid by wip/whole/shallow.py -/
def c268_j10 (l1 : Int) (h : hS) : Option (Int × hS) :=
  if l1 = 2 then
  if (hI h 395 42) = 0 then
  some (1, h)
  else
  some (4, h)
  else
  some (0, h)
theorem t268_j10 {d : Nat} (hd : 0 ≤ d) {l1 : Int}  {h : hS} {w : mmW} {o : Int × hS} {Q : mmO → Prop} (rl1 : rg l1) (A : Abs h w) (e : c268_j10 l1 h = some o) (kr : ∀ (v1 : Int) (h1 : hS), o = (v1, h1) → ∀ w', rg v1 → Abs h1 w' → Q (some (.int (Int32.ofInt v1)), w')) : hG d 268 10 [some (vr 395), some (vi l1)] [] w Q := by
  unfold c268_j10 at e
  refine hg_run 2 (pc' := 12) (ls' := [some (vr 395), some (vi l1)]) (st' := [vI 2, vI l1]) rfl ?_
  rcases oi e with ⟨q2, e⟩ | ⟨q2, e⟩
  · refine hg_icT (tgt := 17) rfl (by decide) rl1 (rgn 2 rfl) q2 ?_
    refine hg_run 1 (pc' := 18) (ls' := [some (vr 395), some (vi l1)]) (st' := [vR 395]) rfl ?_
    refine gs_395_42 rfl A ?_
    rcases oi e with ⟨q3, e⟩ | ⟨q3, e⟩
    · refine hg_ifT (tgt := 28) rfl (by decide) (Abs_rg A 395 42) q3 ?_
      refine hg_run 1 (pc' := 29) (ls' := [some (vr 395), some (vi l1)]) (st' := [vI 1]) rfl ?_
      cases e
      exact hg_retI rfl (by decide) (fit_I _) (kr _ _ rfl _ (rgn 1 rfl) A)
    · refine hg_ifF (tgt := 28) rfl (by decide) (Abs_rg A 395 42) q3 ?_
      refine hg_run 2 (pc' := 29) (ls' := [some (vr 395), some (vi l1)]) (st' := [vI 4]) rfl ?_
      cases e
      exact hg_retI rfl (by decide) (fit_I _) (kr _ _ rfl _ (rgn 4 rfl) A)
  · refine hg_icF (tgt := 17) rfl (by decide) rl1 (rgn 2 rfl) q2 ?_
    refine hg_run 1 (pc' := 16) (ls' := [some (vr 395), some (vi l1)]) (st' := [vI 0]) rfl ?_
    cases e
    exact hg_retI rfl (by decide) (fit_I _) (kr _ _ rfl _ (rgn 0 rfl) A)
def c268 (l1 : Int) (h : hS) : Option (Int × hS) :=
  if l1 = 1 then
  c268_j10 l1 h
  else
  (some (sI h 395 40 0)).bind (fun h4 =>
  c268_j10 l1 h4)
theorem t268 {d : Nat} (hd : 1 ≤ d) {l1 : Int} {h : hS} {w : mmW} {o : Int × hS} (A : Abs h w) (rl1 : rg l1) (e : c268 l1 h = some o) : hEv d 268 [vR 395, vI l1] w (qI o) := by
  obtain ⟨d, rfl⟩ : ∃ d1, d = d1 + 1 := ⟨d - 1, by omega⟩
  have hd : 0 ≤ d := by omega
  refine hEv_start (args := [vr 395, vi l1]) (nl := 2) rfl (Nat.le_of_ble_eq_true rfl) ?_
  show hG d 268 0 [some (vr 395), some (vi l1)] [] w _
  have kr : ∀ (v1 : Int) (h1 : hS), o = (v1, h1) → ∀ w', rg v1 → Abs h1 w' → qI o (some (.int (Int32.ofInt v1)), w') := fun v1 h1 q w' r A' => by cases q; exact ⟨rfl, r, A'⟩
  unfold c268 at e
  refine hg_run 2 (pc' := 2) (ls' := [some (vr 395), some (vi l1)]) (st' := [vI 1, vI l1]) rfl ?_
  rcases oi e with ⟨q1, e⟩ | ⟨q1, e⟩
  · refine hg_icT (tgt := 10) rfl (by decide) rl1 (rgn 1 rfl) q1 ?_
    exact t268_j10 hd rl1 A e kr
  · refine hg_icF (tgt := 10) rfl (by decide) rl1 (rgn 1 rfl) q1 ?_
    refine hg_run 2 (pc' := 7) (ls' := [some (vr 395), some (vi l1)]) (st' := [vI 0, vR 395]) rfl ?_
    obtain ⟨h4, e4, e⟩ := ob e
    refine ps_395_40 rfl A (rgn 0 rfl) e4 (fun w4 A4 => ?_)
    exact t268_j10 hd rl1 A4 e kr
def c250_j79 (s1 : Int) (l4 : Int) (h : hS) : Option (Int × hS) :=
  (some (sI h 395 57 s1)).bind (fun h7 =>
  (some (sI h7 395 58 (hI h7 395 41))).bind (fun h8 =>
  some (l4, h8)))
theorem t250_j79 {d : Nat} (hd : 826 ≤ d) {s1 : Int} {l4 : Int} {z1 : Option hO} {z2 : Option hO} {z3 : Option hO} {h : hS} {w : mmW} {o : Int × hS} {Q : mmO → Prop} (rs1 : rg s1) (rl4 : rg l4) (A : Abs h w) (e : c250_j79 s1 l4 h = some o) (kr : ∀ (v1 : Int) (h1 : hS), o = (v1, h1) → ∀ w', rg v1 → Abs h1 w' → Q (some (.int (Int32.ofInt v1)), w')) : hG d 250 79 [some (vr 395), z1, z2, z3, some (vi l4)] [vI s1, vR 395] w Q := by
  unfold c250_j79 at e
  obtain ⟨h7, e7, e⟩ := ob e
  refine ps_395_57 rfl A rs1 e7 (fun w7 A7 => ?_)
  refine hg_run 2 (pc' := 84) (ls' := [some (vr 395), z1, z2, z3, some (vi l4)]) (st' := [vR 395, vR 395]) rfl ?_
  refine gs_395_41 rfl A7 ?_
  obtain ⟨h8, e8, e⟩ := ob e
  refine ps_395_58 rfl A7 (Abs_rg A7 395 41) e8 (fun w8 A8 => ?_)
  refine hg_run 1 (pc' := 92) (ls' := [some (vr 395), z1, z2, z3, some (vi l4)]) (st' := [vI l4]) rfl ?_
  cases e
  exact hg_retI rfl (by decide) (fit_I _) (kr _ _ rfl _ rl4 A8)
def c250_j61 (s1 : Int) (l4 : Int) (h : hS) : Option (Int × hS) :=
  (some (sI h 395 56 s1)).bind (fun h5 =>
  if l4 = 1 then
  c250_j79 (hI h5 395 39) l4 h5
  else
  c250_j79 0 l4 h5)
theorem t250_j61 {d : Nat} (hd : 826 ≤ d) {s1 : Int} {l4 : Int} {z1 : Option hO} {z2 : Option hO} {z3 : Option hO} {h : hS} {w : mmW} {o : Int × hS} {Q : mmO → Prop} (rs1 : rg s1) (rl4 : rg l4) (A : Abs h w) (e : c250_j61 s1 l4 h = some o) (kr : ∀ (v1 : Int) (h1 : hS), o = (v1, h1) → ∀ w', rg v1 → Abs h1 w' → Q (some (.int (Int32.ofInt v1)), w')) : hG d 250 61 [some (vr 395), z1, z2, z3, some (vi l4)] [vI s1, vR 395] w Q := by
  unfold c250_j61 at e
  obtain ⟨h5, e5, e⟩ := ob e
  refine ps_395_56 rfl A rs1 e5 (fun w5 A5 => ?_)
  refine hg_run 3 (pc' := 68) (ls' := [some (vr 395), z1, z2, z3, some (vi l4)]) (st' := [vI 1, vI l4, vR 395]) rfl ?_
  rcases oi e with ⟨q6, e⟩ | ⟨q6, e⟩
  · refine hg_icF (tgt := 78) rfl (by decide) rl4 (rgn 1 rfl) (show ¬ ¬ (l4 = 1) from fun f => f q6) ?_
    refine hg_run 1 (pc' := 72) (ls' := [some (vr 395), z1, z2, z3, some (vi l4)]) (st' := [vR 395, vR 395]) rfl ?_
    refine gs_395_39 rfl A5 ?_
    refine hg_run 1 (pc' := 79) (ls' := [some (vr 395), z1, z2, z3, some (vi l4)]) (st' := [vI (hI h5 395 39), vR 395]) rfl ?_
    exact t250_j79 hd (Abs_rg A5 395 39) rl4 A5 e kr
  · refine hg_icT (tgt := 78) rfl (by decide) rl4 (rgn 1 rfl) (show ¬ (l4 = 1) from q6) ?_
    refine hg_run 1 (pc' := 79) (ls' := [some (vr 395), z1, z2, z3, some (vi l4)]) (st' := [vI 0, vR 395]) rfl ?_
    exact t250_j79 hd (rgn 0 rfl) rl4 A5 e kr
def c250_j47 (l4 : Int) (h : hS) : Option (Int × hS) :=
  if l4 = 0 then
  c250_j61 (hI h 395 40) l4 h
  else
  c250_j61 0 l4 h
theorem t250_j47 {d : Nat} (hd : 826 ≤ d) {l4 : Int} {z1 : Option hO} {z2 : Option hO} {z3 : Option hO} {h : hS} {w : mmW} {o : Int × hS} {Q : mmO → Prop} (rl4 : rg l4) (A : Abs h w) (e : c250_j47 l4 h = some o) (kr : ∀ (v1 : Int) (h1 : hS), o = (v1, h1) → ∀ w', rg v1 → Abs h1 w' → Q (some (.int (Int32.ofInt v1)), w')) : hG d 250 47 [some (vr 395), z1, z2, z3, some (vi l4)] [] w Q := by
  unfold c250_j47 at e
  refine hg_run 2 (pc' := 50) (ls' := [some (vr 395), z1, z2, z3, some (vi l4)]) (st' := [vI l4, vR 395]) rfl ?_
  rcases oi e with ⟨q4, e⟩ | ⟨q4, e⟩
  · refine hg_ifF (tgt := 60) rfl (by decide) rl4 (show ¬ ¬ (l4 = 0) from fun f => f q4) ?_
    refine hg_run 1 (pc' := 54) (ls' := [some (vr 395), z1, z2, z3, some (vi l4)]) (st' := [vR 395, vR 395]) rfl ?_
    refine gs_395_40 rfl A ?_
    refine hg_run 1 (pc' := 61) (ls' := [some (vr 395), z1, z2, z3, some (vi l4)]) (st' := [vI (hI h 395 40), vR 395]) rfl ?_
    exact t250_j61 hd (Abs_rg A 395 40) rl4 A e kr
  · refine hg_ifT (tgt := 60) rfl (by decide) rl4 (show ¬ (l4 = 0) from q4) ?_
    refine hg_run 1 (pc' := 61) (ls' := [some (vr 395), z1, z2, z3, some (vi l4)]) (st' := [vI 0, vR 395]) rfl ?_
    exact t250_j61 hd (rgn 0 rfl) rl4 A e kr
def c250 (l1 : Int) (l2 : Int) (l3 : Int) (h : hS) : Option (Int × hS) :=
  (c251  h).bind (fun h1 =>
  (c241 l1 h1).bind (fun v2 =>
  if v2 = 0 then
  c250_j47 3 h1
  else
  (c252 0 l1 l2 l3 h1).bind (fun v9 =>
  if v9.1 = 0 then
  c250_j47 2 v9.2
  else
  (aIs v9.2 414 252 0).bind (fun v11 =>
  (g254 700 254 [v11, 0, 0] v9.2).bind (fun v12 =>
  (c268 v12.1 v12.2).bind (fun v13 =>
  c250_j47 v13.1 v13.2))))))
theorem t250 {d : Nat} (hd : 827 ≤ d) {l1 : Int} {l2 : Int} {l3 : Int} {h : hS} {w : mmW} {o : Int × hS} (A : Abs h w) (rl1 : rg l1) (rl2 : rg l2) (rl3 : rg l3) (e : c250 l1 l2 l3 h = some o) : hEv d 250 [vR 395, vI l1, vI l2, vI l3] w (qI o) := by
  obtain ⟨d, rfl⟩ : ∃ d1, d = d1 + 1 := ⟨d - 1, by omega⟩
  have hd : 826 ≤ d := by omega
  refine hEv_start (args := [vr 395, vi l1, vi l2, vi l3]) (nl := 5) rfl (Nat.le_of_ble_eq_true rfl) ?_
  show hG d 250 0 [some (vr 395), some (vi l1), some (vi l2), some (vi l3), none] [] w _
  have kr : ∀ (v1 : Int) (h1 : hS), o = (v1, h1) → ∀ w', rg v1 → Abs h1 w' → qI o (some (.int (Int32.ofInt v1)), w') := fun v1 h1 q w' r A' => by cases q; exact ⟨rfl, r, A'⟩
  unfold c250 at e
  refine hg_run 1 (pc' := 1) (ls' := [some (vr 395), some (vi l1), some (vi l2), some (vi l3), none]) (st' := [vR 395]) rfl ?_
  obtain ⟨h1, e1, e⟩ := ob e
  refine hg_cV (as := [vR 395]) (st' := []) rfl (fun _ _ _ _ => rfl) rfl rfl (Nat.le_of_ble_eq_true rfl) (Nat.le_of_ble_eq_true rfl) (recvV A (a := 13) (Abs_ks A (i := 23) rfl).1) (t251 (by omega) A  e1) (fun w1 A1 => ?_)
  refine hg_run 4 (pc' := 9) (ls' := [some (vr 395), some (vi l1), some (vi l2), some (vi l3), some (vi 3)]) (st' := [vI l1, vR 395]) rfl ?_
  obtain ⟨v2, e2, e⟩ := ob e
  refine hg_cIp (as := [vR 395, vI l1]) (st' := []) rfl (fun _ _ _ _ => rfl) rfl rfl (Nat.le_of_ble_eq_true rfl) (Nat.le_of_ble_eq_true rfl) (recvV A1 (a := 13) (Abs_ks A1 (i := 23) rfl).1) (t241 (by omega) A1 rl1 e2) (fun r2 => ?_)
  rcases oi e with ⟨q3, e⟩ | ⟨q3, e⟩
  · refine hg_ifT (tgt := 47) rfl (by decide) r2 q3 ?_
    exact t250_j47 hd (rgn 3 rfl) A1 e kr
  · refine hg_ifF (tgt := 47) rfl (by decide) r2 q3 ?_
    refine hg_run 7 (pc' := 23) (ls' := [some (vr 395), some (vi l1), some (vi l2), some (vi l3), some (vi 2)]) (st' := [vI l3, vI l2, vI l1, vI 0, vR 395]) rfl ?_
    obtain ⟨v9, e9, e⟩ := ob e
    refine hg_cI (as := [vR 395, vI 0, vI l1, vI l2, vI l3]) (st' := []) rfl (fun _ _ _ _ => rfl) rfl rfl (Nat.le_of_ble_eq_true rfl) (Nat.le_of_ble_eq_true rfl) (recvV A1 (a := 13) (Abs_ks A1 (i := 23) rfl).1) (t252 (by omega) A1 (rgn 0 rfl) rl1 rl2 rl3 e9) (fun w9 r9 A9 => ?_)
    rcases oi e with ⟨q10, e⟩ | ⟨q10, e⟩
    · refine hg_ifT (tgt := 47) rfl (by decide) r9 q10 ?_
      exact t250_j47 hd (rgn 2 rfl) A9 e kr
    · refine hg_ifF (tgt := 47) rfl (by decide) r9 q10 ?_
      refine hg_run 3 (pc' := 32) (ls' := [some (vr 395), some (vi l1), some (vi l2), some (vi l3), some (vi 2)]) (st' := [vR 395, vR 395, vR 395]) rfl ?_
      refine gs_395_49 rfl A9 ?_
      refine hg_run 1 (pc' := 36) (ls' := [some (vr 395), some (vi l1), some (vi l2), some (vi l3), some (vi 2)]) (st' := [vI 0, vR 414, vR 395, vR 395]) rfl ?_
      obtain ⟨v11, e11, e⟩ := ob e
      refine hg_aIs 0 rfl (fun _ _ _ _ => rfl) A9 (Abs_ks A9 (i := 42) rfl) rfl (by decide) e11 (fun r11 => ?_)
      refine hg_run 2 (pc' := 39) (ls' := [some (vr 395), some (vi l1), some (vi l2), some (vi l3), some (vi 2)]) (st' := [vI 0, vI 0, vI v11, vR 395, vR 395]) rfl ?_
      obtain ⟨v12, e12, e⟩ := ob e
      refine hg_cI (as := [vR 395, vI v11, vI 0, vI 0]) (st' := [vR 395]) rfl (fun _ _ _ _ => rfl) rfl rfl (Nat.le_of_ble_eq_true rfl) (Nat.le_of_ble_eq_true rfl) (recvV A9 (a := 13) (Abs_ks A9 (i := 23) rfl).1) (u254 700 (by omega) 254 _ _ _ _ A9 (rglc r11 (rglc (rgn 0 rfl) (rglc (rgn 0 rfl) rgl0))) e12) (fun w12 r12 A12 => ?_)
      obtain ⟨v13, e13, e⟩ := ob e
      refine hg_cI (as := [vR 395, vI v12.1]) (st' := []) rfl (fun _ _ _ _ => rfl) rfl rfl (Nat.le_of_ble_eq_true rfl) (Nat.le_of_ble_eq_true rfl) (recvV A12 (a := 13) (Abs_ks A12 (i := 23) rfl).1) (t268 (by omega) A12 r12 e13) (fun w13 r13 A13 => ?_)
      refine hg_run 1 (pc' := 47) (ls' := [some (vr 395), some (vi l1), some (vi l2), some (vi l3), some (vi v13.1)]) (st' := []) rfl ?_
      exact t250_j47 hd r13 A13 e kr
def c269 (l1 : Int) (h : hS) : Option (Int) :=
  if l1 = 0 then
  some (hI h 395 56)
  else
  if l1 = 1 then
  some (hI h 395 57)
  else
  if l1 = 2 then
  some (hI h 395 58)
  else
  some (-1)
theorem t269 {d : Nat} (hd : 1 ≤ d) {l1 : Int} {h : hS} {w : mmW} {o : Int} (A : Abs h w) (rl1 : rg l1) (e : c269 l1 h = some o) : hEv d 269 [vR 395, vI l1] w (qIp o w) := by
  obtain ⟨d, rfl⟩ : ∃ d1, d = d1 + 1 := ⟨d - 1, by omega⟩
  have hd : 0 ≤ d := by omega
  refine hEv_start (args := [vr 395, vi l1]) (nl := 2) rfl (Nat.le_of_ble_eq_true rfl) ?_
  show hG d 269 0 [some (vr 395), some (vi l1)] [] w _
  have kr : ∀ v1 : Int, o = v1 → rg v1 → qIp o w (some (.int (Int32.ofInt v1)), w) := fun v1 q r => by cases q; exact ⟨rfl, r⟩
  unfold c269 at e
  refine hg_run 1 (pc' := 1) (ls' := [some (vr 395), some (vi l1)]) (st' := [vI l1]) rfl ?_
  rcases oi e with ⟨q1, e⟩ | ⟨q1, e⟩
  · refine hg_ifF (tgt := 11) rfl (by decide) rl1 (show ¬ ¬ (l1 = 0) from fun f => f q1) ?_
    refine hg_run 1 (pc' := 5) (ls' := [some (vr 395), some (vi l1)]) (st' := [vR 395]) rfl ?_
    refine gs_395_56 rfl A ?_
    refine hg_run 1 (pc' := 36) (ls' := [some (vr 395), some (vi l1)]) (st' := [vI (hI h 395 56)]) rfl ?_
    cases e
    exact hg_retI rfl (by decide) (fit_I _) (kr _ rfl (Abs_rg A 395 56))
  · refine hg_ifT (tgt := 11) rfl (by decide) rl1 (show ¬ (l1 = 0) from q1) ?_
    refine hg_run 2 (pc' := 13) (ls' := [some (vr 395), some (vi l1)]) (st' := [vI 1, vI l1]) rfl ?_
    rcases oi e with ⟨q2, e⟩ | ⟨q2, e⟩
    · refine hg_icF (tgt := 23) rfl (by decide) rl1 (rgn 1 rfl) (show ¬ ¬ (l1 = 1) from fun f => f q2) ?_
      refine hg_run 1 (pc' := 17) (ls' := [some (vr 395), some (vi l1)]) (st' := [vR 395]) rfl ?_
      refine gs_395_57 rfl A ?_
      refine hg_run 1 (pc' := 36) (ls' := [some (vr 395), some (vi l1)]) (st' := [vI (hI h 395 57)]) rfl ?_
      cases e
      exact hg_retI rfl (by decide) (fit_I _) (kr _ rfl (Abs_rg A 395 57))
    · refine hg_icT (tgt := 23) rfl (by decide) rl1 (rgn 1 rfl) (show ¬ (l1 = 1) from q2) ?_
      refine hg_run 2 (pc' := 25) (ls' := [some (vr 395), some (vi l1)]) (st' := [vI 2, vI l1]) rfl ?_
      rcases oi e with ⟨q3, e⟩ | ⟨q3, e⟩
      · refine hg_icF (tgt := 35) rfl (by decide) rl1 (rgn 2 rfl) (show ¬ ¬ (l1 = 2) from fun f => f q3) ?_
        refine hg_run 1 (pc' := 29) (ls' := [some (vr 395), some (vi l1)]) (st' := [vR 395]) rfl ?_
        refine gs_395_58 rfl A ?_
        refine hg_run 1 (pc' := 36) (ls' := [some (vr 395), some (vi l1)]) (st' := [vI (hI h 395 58)]) rfl ?_
        cases e
        exact hg_retI rfl (by decide) (fit_I _) (kr _ rfl (Abs_rg A 395 58))
      · refine hg_icT (tgt := 35) rfl (by decide) rl1 (rgn 2 rfl) (show ¬ (l1 = 2) from q3) ?_
        refine hg_run 1 (pc' := 36) (ls' := [some (vr 395), some (vi l1)]) (st' := [vI (-1)]) rfl ?_
        cases e
        exact hg_retI rfl (by decide) (fit_I _) (kr _ rfl (rgn (-1) rfl))
def c270_j21 (l1 : Int) (h : hS) : Option (Int × hS) :=
  (some (sI h 395 30 l1)).bind (fun h2 =>
  some (1, h2))
theorem t270_j21 {d : Nat} (hd : 1 ≤ d) {l1 : Int}  {h : hS} {w : mmW} {o : Int × hS} {Q : mmO → Prop} (rl1 : rg l1) (A : Abs h w) (e : c270_j21 l1 h = some o) (kr : ∀ (v1 : Int) (h1 : hS), o = (v1, h1) → ∀ w', rg v1 → Abs h1 w' → Q (some (.int (Int32.ofInt v1)), w')) : hG d 270 21 [some (vr 395), some (vi l1)] [] w Q := by
  unfold c270_j21 at e
  refine hg_run 2 (pc' := 23) (ls' := [some (vr 395), some (vi l1)]) (st' := [vI l1, vR 395]) rfl ?_
  obtain ⟨h2, e2, e⟩ := ob e
  refine ps_395_30 rfl A rl1 e2 (fun w2 A2 => ?_)
  refine hg_run 1 (pc' := 27) (ls' := [some (vr 395), some (vi l1)]) (st' := [vI 1]) rfl ?_
  cases e
  exact hg_retI rfl (by decide) (fit_B (.inr rfl)) (kr _ _ rfl _ (rgn 1 rfl) A2)
def c270 (l1 : Int) (h : hS) : Option (Int × hS) :=
  if l1 = (-1) then
  c270_j21 l1 h
  else
  (c191 l1 0 (wsub (hI h 395 7) 1) h).bind (fun v3 =>
  if v3 = 0 then
  some (0, h)
  else
  c270_j21 l1 h)
theorem t270 {d : Nat} (hd : 2 ≤ d) {l1 : Int} {h : hS} {w : mmW} {o : Int × hS} (A : Abs h w) (rl1 : rg l1) (e : c270 l1 h = some o) : hEv d 270 [vR 395, vI l1] w (qI o) := by
  obtain ⟨d, rfl⟩ : ∃ d1, d = d1 + 1 := ⟨d - 1, by omega⟩
  have hd : 1 ≤ d := by omega
  refine hEv_start (args := [vr 395, vi l1]) (nl := 2) rfl (Nat.le_of_ble_eq_true rfl) ?_
  show hG d 270 0 [some (vr 395), some (vi l1)] [] w _
  have kr : ∀ (v1 : Int) (h1 : hS), o = (v1, h1) → ∀ w', rg v1 → Abs h1 w' → qI o (some (.int (Int32.ofInt v1)), w') := fun v1 h1 q w' r A' => by cases q; exact ⟨rfl, r, A'⟩
  unfold c270 at e
  refine hg_run 2 (pc' := 2) (ls' := [some (vr 395), some (vi l1)]) (st' := [vI (-1), vI l1]) rfl ?_
  rcases oi e with ⟨q1, e⟩ | ⟨q1, e⟩
  · refine hg_icT (tgt := 21) rfl (by decide) rl1 (rgn (-1) rfl) q1 ?_
    exact t270_j21 hd rl1 A e kr
  · refine hg_icF (tgt := 21) rfl (by decide) rl1 (rgn (-1) rfl) q1 ?_
    refine hg_run 3 (pc' := 8) (ls' := [some (vr 395), some (vi l1)]) (st' := [vR 395, vI 0, vI l1]) rfl ?_
    refine gs_395_7 rfl A ?_
    refine hg_run 2 (pc' := 13) (ls' := [some (vr 395), some (vi l1)]) (st' := [vI (wsub (hI h 395 7) 1), vI 0, vI l1]) rfl ?_
    obtain ⟨v3, e3, e⟩ := ob e
    refine hg_cIp (as := [vI l1, vI 0, vI (wsub (hI h 395 7) 1)]) (st' := []) rfl (fun _ _ _ _ => rfl) rfl rfl (Nat.le_of_ble_eq_true rfl) (Nat.le_of_ble_eq_true rfl) recv0 (t191 (by omega) A rl1 (rgn 0 rfl) (rg_sub _ _) e3) (fun r3 => ?_)
    rcases oi e with ⟨q4, e⟩ | ⟨q4, e⟩
    · refine hg_ifF (tgt := 21) rfl (by decide) r3 (show ¬ ¬ (v3 = 0) from fun f => f q4) ?_
      refine hg_run 1 (pc' := 20) (ls' := [some (vr 395), some (vi l1)]) (st' := [vI 0]) rfl ?_
      cases e
      exact hg_retI rfl (by decide) (fit_B (.inl rfl)) (kr _ _ rfl _ (rgn 0 rfl) A)
    · refine hg_ifT (tgt := 21) rfl (by decide) r3 (show ¬ (v3 = 0) from q4) ?_
      exact t270_j21 hd rl1 A e kr
def c272_b83 (l1 : Int) (l2 : Int) (h : hS) : Option ((Int × hS) ⊕ (hS)) :=
  if 12 ≤ l2 then
  some (.inr (h))
  else
  (aIs h 435 120 (wadd (wmul 12 l1) l2)).bind (fun v16 =>
  (wIs h 414 252 l2 v16).bind (fun h17 =>
  (aIs h17 436 120 (wadd (wmul 12 l1) l2)).bind (fun v18 =>
  (wIs h17 415 252 l2 v18).bind (fun h19 =>
  (aIs h19 437 120 (wadd (wmul 12 l1) l2)).bind (fun v20 =>
  (wIs h19 416 252 l2 v20).bind (fun h21 =>
  some (.inl ((wadd l2 1), h21))))))))
set_option maxRecDepth 100000 in
theorem t272_b83 {d : Nat} (hd : 826 ≤ d) {l1 : Int} {l2 : Int}  {h : hS} {w : mmW} {o : (Int × hS) ⊕ (hS)} {Q : mmO → Prop} (rl1 : rg l1) (rl2 : rg l2) (A : Abs h w) (e : c272_b83 l1 l2 h = some o) (kb : ∀ (s_0 : Int) (s_1 : hS), o = .inl (s_0, s_1) → ∀ w', rg s_0 → Abs s_1 w' → hG d 272 83 [some (vr 395), some (vi l1), some (vi s_0)] [] w' Q) (ke : ∀ (x_0 : hS), o = .inr (x_0) → ∀ w', ∀ (y2 : Option hO), Abs x_0 w' → hG d 272 146 [some (vr 395), some (vi l1), y2] [] w' Q) : hG d 272 83 [some (vr 395), some (vi l1), some (vi l2)] [] w Q := by
  unfold c272_b83 at e
  refine hg_run 2 (pc' := 86) (ls' := [some (vr 395), some (vi l1), some (vi l2)]) (st' := [vI 12, vI l2]) rfl ?_
  rcases oi e with ⟨q15, e⟩ | ⟨q15, e⟩
  · refine hg_icT (tgt := 146) rfl (by decide) rl2 (rgn 12 rfl) q15 ?_
    cases e
    exact ke h rfl _ _  A
  · refine hg_icF (tgt := 146) rfl (by decide) rl2 (rgn 12 rfl) q15 ?_
    refine hg_run 1 (pc' := 90) (ls' := [some (vr 395), some (vi l1), some (vi l2)]) (st' := [vR 395]) rfl ?_
    refine gs_395_49 rfl A ?_
    refine hg_run 2 (pc' := 95) (ls' := [some (vr 395), some (vi l1), some (vi l2)]) (st' := [vR 395, vI l2, vR 414]) rfl ?_
    refine gs_395_79 rfl A ?_
    refine hg_run 5 (pc' := 104) (ls' := [some (vr 395), some (vi l1), some (vi l2)]) (st' := [vI (wadd (wmul 12 l1) l2), vR 435, vI l2, vR 414]) rfl ?_
    obtain ⟨v16, e16, e⟩ := ob e
    refine hg_aIs 0 rfl (fun _ _ _ _ => rfl) A (Abs_ks A (i := 63) rfl) rfl (by decide) e16 (fun r16 => ?_)
    obtain ⟨h17, e17, e⟩ := ob e
    refine hg_wIs rfl A (Abs_ks A (i := 42) rfl) (by decide) r16 e17 (fun w17 A17 => ?_)
    refine hg_run 1 (pc' := 107) (ls' := [some (vr 395), some (vi l1), some (vi l2)]) (st' := [vR 395]) rfl ?_
    refine gs_395_50 rfl A17 ?_
    refine hg_run 2 (pc' := 112) (ls' := [some (vr 395), some (vi l1), some (vi l2)]) (st' := [vR 395, vI l2, vR 415]) rfl ?_
    refine gs_395_80 rfl A17 ?_
    refine hg_run 5 (pc' := 121) (ls' := [some (vr 395), some (vi l1), some (vi l2)]) (st' := [vI (wadd (wmul 12 l1) l2), vR 436, vI l2, vR 415]) rfl ?_
    obtain ⟨v18, e18, e⟩ := ob e
    refine hg_aIs 0 rfl (fun _ _ _ _ => rfl) A17 (Abs_ks A17 (i := 64) rfl) rfl (by decide) e18 (fun r18 => ?_)
    obtain ⟨h19, e19, e⟩ := ob e
    refine hg_wIs rfl A17 (Abs_ks A17 (i := 43) rfl) (by decide) r18 e19 (fun w19 A19 => ?_)
    refine hg_run 1 (pc' := 124) (ls' := [some (vr 395), some (vi l1), some (vi l2)]) (st' := [vR 395]) rfl ?_
    refine gs_395_51 rfl A19 ?_
    refine hg_run 2 (pc' := 129) (ls' := [some (vr 395), some (vi l1), some (vi l2)]) (st' := [vR 395, vI l2, vR 416]) rfl ?_
    refine gs_395_81 rfl A19 ?_
    refine hg_run 5 (pc' := 138) (ls' := [some (vr 395), some (vi l1), some (vi l2)]) (st' := [vI (wadd (wmul 12 l1) l2), vR 437, vI l2, vR 416]) rfl ?_
    obtain ⟨v20, e20, e⟩ := ob e
    refine hg_aIs 0 rfl (fun _ _ _ _ => rfl) A19 (Abs_ks A19 (i := 65) rfl) rfl (by decide) e20 (fun r20 => ?_)
    obtain ⟨h21, e21, e⟩ := ob e
    refine hg_wIs rfl A19 (Abs_ks A19 (i := 44) rfl) (by decide) r20 e21 (fun w21 A21 => ?_)
    refine hg_run 2 (pc' := 83) (ls' := [some (vr 395), some (vi l1), some (vi (wadd l2 1))]) (st' := []) rfl ?_
    cases e
    exact kb (wadd l2 1) h21 rfl _ (rg_add _ _) A21
set_option maxRecDepth 100000 in
theorem t272_l83 {d : Nat} (hd : 826 ≤ d) {l1 : Int}  {Q : mmO → Prop} (rl1 : rg l1) (n : Nat) {l2 : Int}  {h : hS} {w : mmW} {r : hS} (rl2 : rg l2) (A : Abs h w) (e : lp (fun s => c272_b83 l1 s.1 s.2) n (l2, h) = some r) (ke : ∀ (x_0 : hS), r = (x_0) → ∀ w', ∀ (y2 : Option hO), Abs x_0 w' → hG d 272 146 [some (vr 395), some (vi l1), y2] [] w' Q) : hG d 272 83 [some (vr 395), some (vi l1), some (vi l2)] [] w Q := by
  induction n generalizing l2 h w with
  | zero => cases e
  | succ n ih =>
    rcases lp_succ e with ⟨s1, e1, e2⟩ | e1
    · exact t272_b83 hd rl1 rl2 A e1 (fun s_0 s_1 q w1 rl2 A1 => by cases q; exact ih rl2 A1 e2) (fun x_0 q => by cases q)
    · exact t272_b83 hd rl1 rl2 A e1 (fun s_0 s_1 q => by cases q) (fun x_0 q => by cases q; exact ke _ rfl)
def c272_j227 (s1 : Int) (s2 : Int) (h : hS) : Option (hS) :=
  (wIs h 432 10 s1 s2).bind (fun h33 =>
  some h33)
set_option maxRecDepth 100000 in
theorem t272_j227 {d : Nat} (hd : 826 ≤ d) {s1 : Int} {s2 : Int} {z1 : Option hO} {z2 : Option hO} {h : hS} {w : mmW} {o : hS} {Q : mmO → Prop} (rs1 : rg s1) (rs2 : rg s2) (A : Abs h w) (e : c272_j227 s1 s2 h = some o) (kr : ∀ h1 : hS, o = h1 → ∀ w', Abs h1 w' → Q (none, w')) : hG d 272 227 [some (vr 395), z1, z2] [vI s2, vI s1, vR 432] w Q := by
  unfold c272_j227 at e
  obtain ⟨h33, e33, e⟩ := ob e
  refine hg_wIs rfl A (Abs_ks A (i := 60) rfl) (by decide) rs2 e33 (fun w33 A33 => ?_)
  cases e
  exact hg_retV rfl (kr _ rfl _ A33)
def c272 (l1 : Int) (h : hS) : Option (hS) :=
  (c251  h).bind (fun h1 =>
  (aIs h1 430 10 l1).bind (fun v2 =>
  (wIs h1 430 10 l1 (wadd v2 1)).bind (fun h3 =>
  (aIs h3 426 10 l1).bind (fun v4 =>
  (wIs h3 408 21 0 v4).bind (fun h5 =>
  (aIs h5 427 10 l1).bind (fun v6 =>
  (wIs h5 409 21 0 v6).bind (fun h7 =>
  (aIs h7 428 10 l1).bind (fun v8 =>
  (wIs h7 410 21 0 v8).bind (fun h9 =>
  (aIs h9 433 10 l1).bind (fun v10 =>
  (wIs h9 411 21 0 v10).bind (fun h11 =>
  (wIs h11 412 21 0 0).bind (fun h12 =>
  (aIs h12 434 10 l1).bind (fun v13 =>
  (wIs h12 413 21 0 v13).bind (fun h14 =>
  (lp (fun s => c272_b83 l1 s.1 s.2) hF0 (0, h14)).bind (fun r22 =>
  (aIs r22 429 10 l1).bind (fun v23 =>
  (g254 700 254 [v23, 0, 1] r22).bind (fun v24 =>
  (aIs v24.2 410 21 0).bind (fun v25 =>
  (wIs v24.2 428 10 l1 v25).bind (fun h26 =>
  if v24.1 = 3 then
  (wIs h26 429 10 l1 (hI h26 395 55)).bind (fun h34 =>
  some h34)
  else
  (wIs h26 423 10 l1 (wbol 0)).bind (fun h28 =>
  (c268 v24.1 h28).bind (fun v29 =>
  (wIs v29.2 431 10 l1 v29.1).bind (fun h30 =>
  (aIs h30 431 10 l1).bind (fun v31 =>
  if v31 = 0 then
  c272_j227 l1 (hI h30 395 40) h30
  else
  c272_j227 l1 0 h30)))))))))))))))))))))))
set_option maxRecDepth 100000 in
theorem t272 {d : Nat} (hd : 827 ≤ d) {l1 : Int} {h : hS} {w : mmW} {o : hS} (A : Abs h w) (rl1 : rg l1) (e : c272 l1 h = some o) : hEv d 272 [vR 395, vI l1] w (qV o) := by
  obtain ⟨d, rfl⟩ : ∃ d1, d = d1 + 1 := ⟨d - 1, by omega⟩
  have hd : 826 ≤ d := by omega
  refine hEv_start (args := [vr 395, vi l1]) (nl := 3) rfl (Nat.le_of_ble_eq_true rfl) ?_
  show hG d 272 0 [some (vr 395), some (vi l1), none] [] w _
  have kr : ∀ h1 : hS, o = h1 → ∀ w', Abs h1 w' → qV o (none, w') := fun h1 q w' A' => by cases q; exact ⟨rfl, A'⟩
  unfold c272 at e
  refine hg_run 1 (pc' := 1) (ls' := [some (vr 395), some (vi l1), none]) (st' := [vR 395]) rfl ?_
  obtain ⟨h1, e1, e⟩ := ob e
  refine hg_cV (as := [vR 395]) (st' := []) rfl (fun _ _ _ _ => rfl) rfl rfl (Nat.le_of_ble_eq_true rfl) (Nat.le_of_ble_eq_true rfl) (recvV A (a := 13) (Abs_ks A (i := 23) rfl).1) (t251 (by omega) A  e1) (fun w1 A1 => ?_)
  refine hg_run 1 (pc' := 5) (ls' := [some (vr 395), some (vi l1), none]) (st' := [vR 395]) rfl ?_
  refine gs_395_74 rfl A1 ?_
  refine hg_run 2 (pc' := 10) (ls' := [some (vr 395), some (vi l1), none]) (st' := [vI l1, vR 430, vI l1, vR 430]) rfl ?_
  obtain ⟨v2, e2, e⟩ := ob e
  refine hg_aIs 0 rfl (fun _ _ _ _ => rfl) A1 (Abs_ks A1 (i := 58) rfl) rfl (by decide) e2 (fun r2 => ?_)
  refine hg_run 2 (pc' := 13) (ls' := [some (vr 395), some (vi l1), none]) (st' := [vI (wadd v2 1), vI l1, vR 430]) rfl ?_
  obtain ⟨h3, e3, e⟩ := ob e
  refine hg_wIs rfl A1 (Abs_ks A1 (i := 58) rfl) (by decide) (rg_add _ _) e3 (fun w3 A3 => ?_)
  refine hg_run 1 (pc' := 15) (ls' := [some (vr 395), some (vi l1), none]) (st' := [vR 395]) rfl ?_
  refine gs_395_43 rfl A3 ?_
  refine hg_run 2 (pc' := 20) (ls' := [some (vr 395), some (vi l1), none]) (st' := [vR 395, vI 0, vR 408]) rfl ?_
  refine gs_395_70 rfl A3 ?_
  refine hg_run 1 (pc' := 24) (ls' := [some (vr 395), some (vi l1), none]) (st' := [vI l1, vR 426, vI 0, vR 408]) rfl ?_
  obtain ⟨v4, e4, e⟩ := ob e
  refine hg_aIs 0 rfl (fun _ _ _ _ => rfl) A3 (Abs_ks A3 (i := 54) rfl) rfl (by decide) e4 (fun r4 => ?_)
  obtain ⟨h5, e5, e⟩ := ob e
  refine hg_wIs rfl A3 (Abs_ks A3 (i := 36) rfl) (by decide) r4 e5 (fun w5 A5 => ?_)
  refine hg_run 1 (pc' := 27) (ls' := [some (vr 395), some (vi l1), none]) (st' := [vR 395]) rfl ?_
  refine gs_395_44 rfl A5 ?_
  refine hg_run 2 (pc' := 32) (ls' := [some (vr 395), some (vi l1), none]) (st' := [vR 395, vI 0, vR 409]) rfl ?_
  refine gs_395_71 rfl A5 ?_
  refine hg_run 1 (pc' := 36) (ls' := [some (vr 395), some (vi l1), none]) (st' := [vI l1, vR 427, vI 0, vR 409]) rfl ?_
  obtain ⟨v6, e6, e⟩ := ob e
  refine hg_aIs 0 rfl (fun _ _ _ _ => rfl) A5 (Abs_ks A5 (i := 55) rfl) rfl (by decide) e6 (fun r6 => ?_)
  obtain ⟨h7, e7, e⟩ := ob e
  refine hg_wIs rfl A5 (Abs_ks A5 (i := 37) rfl) (by decide) r6 e7 (fun w7 A7 => ?_)
  refine hg_run 1 (pc' := 39) (ls' := [some (vr 395), some (vi l1), none]) (st' := [vR 395]) rfl ?_
  refine gs_395_45 rfl A7 ?_
  refine hg_run 2 (pc' := 44) (ls' := [some (vr 395), some (vi l1), none]) (st' := [vR 395, vI 0, vR 410]) rfl ?_
  refine gs_395_72 rfl A7 ?_
  refine hg_run 1 (pc' := 48) (ls' := [some (vr 395), some (vi l1), none]) (st' := [vI l1, vR 428, vI 0, vR 410]) rfl ?_
  obtain ⟨v8, e8, e⟩ := ob e
  refine hg_aIs 0 rfl (fun _ _ _ _ => rfl) A7 (Abs_ks A7 (i := 56) rfl) rfl (by decide) e8 (fun r8 => ?_)
  obtain ⟨h9, e9, e⟩ := ob e
  refine hg_wIs rfl A7 (Abs_ks A7 (i := 38) rfl) (by decide) r8 e9 (fun w9 A9 => ?_)
  refine hg_run 1 (pc' := 51) (ls' := [some (vr 395), some (vi l1), none]) (st' := [vR 395]) rfl ?_
  refine gs_395_46 rfl A9 ?_
  refine hg_run 2 (pc' := 56) (ls' := [some (vr 395), some (vi l1), none]) (st' := [vR 395, vI 0, vR 411]) rfl ?_
  refine gs_395_77 rfl A9 ?_
  refine hg_run 1 (pc' := 60) (ls' := [some (vr 395), some (vi l1), none]) (st' := [vI l1, vR 433, vI 0, vR 411]) rfl ?_
  obtain ⟨v10, e10, e⟩ := ob e
  refine hg_aIs 0 rfl (fun _ _ _ _ => rfl) A9 (Abs_ks A9 (i := 61) rfl) rfl (by decide) e10 (fun r10 => ?_)
  obtain ⟨h11, e11, e⟩ := ob e
  refine hg_wIs rfl A9 (Abs_ks A9 (i := 39) rfl) (by decide) r10 e11 (fun w11 A11 => ?_)
  refine hg_run 1 (pc' := 63) (ls' := [some (vr 395), some (vi l1), none]) (st' := [vR 395]) rfl ?_
  refine gs_395_47 rfl A11 ?_
  refine hg_run 2 (pc' := 68) (ls' := [some (vr 395), some (vi l1), none]) (st' := [vI 0, vI 0, vR 412]) rfl ?_
  obtain ⟨h12, e12, e⟩ := ob e
  refine hg_wIs rfl A11 (Abs_ks A11 (i := 40) rfl) (by decide) (rgn 0 rfl) e12 (fun w12 A12 => ?_)
  refine hg_run 1 (pc' := 70) (ls' := [some (vr 395), some (vi l1), none]) (st' := [vR 395]) rfl ?_
  refine gs_395_48 rfl A12 ?_
  refine hg_run 2 (pc' := 75) (ls' := [some (vr 395), some (vi l1), none]) (st' := [vR 395, vI 0, vR 413]) rfl ?_
  refine gs_395_78 rfl A12 ?_
  refine hg_run 1 (pc' := 79) (ls' := [some (vr 395), some (vi l1), none]) (st' := [vI l1, vR 434, vI 0, vR 413]) rfl ?_
  obtain ⟨v13, e13, e⟩ := ob e
  refine hg_aIs 0 rfl (fun _ _ _ _ => rfl) A12 (Abs_ks A12 (i := 62) rfl) rfl (by decide) e13 (fun r13 => ?_)
  obtain ⟨h14, e14, e⟩ := ob e
  refine hg_wIs rfl A12 (Abs_ks A12 (i := 41) rfl) (by decide) r13 e14 (fun w14 A14 => ?_)
  refine hg_run 2 (pc' := 83) (ls' := [some (vr 395), some (vi l1), some (vi 0)]) (st' := []) rfl ?_
  obtain ⟨r22, e22, e⟩ := ob e
  refine t272_l83 hd rl1 _ (rgn 0 rfl) A14 e22 ?_
  intro x22_0 qq22 w22 z22_2 A22
  subst qq22
  refine hg_run 2 (pc' := 148) (ls' := [some (vr 395), some (vi l1), z22_2]) (st' := [vR 395, vR 395]) rfl ?_
  refine gs_395_73 rfl A22 ?_
  refine hg_run 1 (pc' := 152) (ls' := [some (vr 395), some (vi l1), z22_2]) (st' := [vI l1, vR 429, vR 395]) rfl ?_
  obtain ⟨v23, e23, e⟩ := ob e
  refine hg_aIs 0 rfl (fun _ _ _ _ => rfl) A22 (Abs_ks A22 (i := 57) rfl) rfl (by decide) e23 (fun r23 => ?_)
  refine hg_run 2 (pc' := 155) (ls' := [some (vr 395), some (vi l1), z22_2]) (st' := [vI 1, vI 0, vI v23, vR 395]) rfl ?_
  obtain ⟨v24, e24, e⟩ := ob e
  refine hg_cI (as := [vR 395, vI v23, vI 0, vI 1]) (st' := []) rfl (fun _ _ _ _ => rfl) rfl rfl (Nat.le_of_ble_eq_true rfl) (Nat.le_of_ble_eq_true rfl) (recvV A22 (a := 13) (Abs_ks A22 (i := 23) rfl).1) (u254 700 (by omega) 254 _ _ _ _ A22 (rglc r23 (rglc (rgn 0 rfl) (rglc (rgn 1 rfl) rgl0))) e24) (fun w24 r24 A24 => ?_)
  refine hg_run 2 (pc' := 160) (ls' := [some (vr 395), some (vi l1), some (vi v24.1)]) (st' := [vR 395]) rfl ?_
  refine gs_395_72 rfl A24 ?_
  refine hg_run 2 (pc' := 165) (ls' := [some (vr 395), some (vi l1), some (vi v24.1)]) (st' := [vR 395, vI l1, vR 428]) rfl ?_
  refine gs_395_45 rfl A24 ?_
  refine hg_run 1 (pc' := 169) (ls' := [some (vr 395), some (vi l1), some (vi v24.1)]) (st' := [vI 0, vR 410, vI l1, vR 428]) rfl ?_
  obtain ⟨v25, e25, e⟩ := ob e
  refine hg_aIs 0 rfl (fun _ _ _ _ => rfl) A24 (Abs_ks A24 (i := 38) rfl) rfl (by decide) e25 (fun r25 => ?_)
  obtain ⟨h26, e26, e⟩ := ob e
  refine hg_wIs rfl A24 (Abs_ks A24 (i := 56) rfl) (by decide) r25 e26 (fun w26 A26 => ?_)
  refine hg_run 2 (pc' := 173) (ls' := [some (vr 395), some (vi l1), some (vi v24.1)]) (st' := [vI 3, vI v24.1]) rfl ?_
  rcases oi e with ⟨q27, e⟩ | ⟨q27, e⟩
  · refine hg_icF (tgt := 187) rfl (by decide) r24 (rgn 3 rfl) (show ¬ ¬ (v24.1 = 3) from fun f => f q27) ?_
    refine hg_run 1 (pc' := 177) (ls' := [some (vr 395), some (vi l1), some (vi v24.1)]) (st' := [vR 395]) rfl ?_
    refine gs_395_73 rfl A26 ?_
    refine hg_run 2 (pc' := 182) (ls' := [some (vr 395), some (vi l1), some (vi v24.1)]) (st' := [vR 395, vI l1, vR 429]) rfl ?_
    refine gs_395_55 rfl A26 ?_
    obtain ⟨h34, e34, e⟩ := ob e
    refine hg_wIs rfl A26 (Abs_ks A26 (i := 57) rfl) (by decide) (Abs_rg A26 395 55) e34 (fun w34 A34 => ?_)
    cases e
    exact hg_retV rfl (kr _ rfl _ A34)
  · refine hg_icT (tgt := 187) rfl (by decide) r24 (rgn 3 rfl) (show ¬ (v24.1 = 3) from q27) ?_
    refine hg_run 1 (pc' := 188) (ls' := [some (vr 395), some (vi l1), some (vi v24.1)]) (st' := [vR 395]) rfl ?_
    refine gs_395_67 rfl A26 ?_
    refine hg_run 2 (pc' := 193) (ls' := [some (vr 395), some (vi l1), some (vi v24.1)]) (st' := [vI 0, vI l1, vR 423]) rfl ?_
    obtain ⟨h28, e28, e⟩ := ob e
    refine hg_wBs rfl A26 (Abs_ks A26 (i := 51) rfl) (by decide) e28 (fun w28 A28 => ?_)
    refine hg_run 1 (pc' := 195) (ls' := [some (vr 395), some (vi l1), some (vi v24.1)]) (st' := [vR 395]) rfl ?_
    refine gs_395_75 rfl A28 ?_
    refine hg_run 3 (pc' := 201) (ls' := [some (vr 395), some (vi l1), some (vi v24.1)]) (st' := [vI v24.1, vR 395, vI l1, vR 431]) rfl ?_
    obtain ⟨v29, e29, e⟩ := ob e
    refine hg_cI (as := [vR 395, vI v24.1]) (st' := [vI l1, vR 431]) rfl (fun _ _ _ _ => rfl) rfl rfl (Nat.le_of_ble_eq_true rfl) (Nat.le_of_ble_eq_true rfl) (recvV A28 (a := 13) (Abs_ks A28 (i := 23) rfl).1) (t268 (by omega) A28 r24 e29) (fun w29 r29 A29 => ?_)
    obtain ⟨h30, e30, e⟩ := ob e
    refine hg_wIs rfl A29 (Abs_ks A29 (i := 59) rfl) (by decide) r29 e30 (fun w30 A30 => ?_)
    refine hg_run 1 (pc' := 206) (ls' := [some (vr 395), some (vi l1), some (vi v24.1)]) (st' := [vR 395]) rfl ?_
    refine gs_395_76 rfl A30 ?_
    refine hg_run 2 (pc' := 211) (ls' := [some (vr 395), some (vi l1), some (vi v24.1)]) (st' := [vR 395, vI l1, vR 432]) rfl ?_
    refine gs_395_75 rfl A30 ?_
    refine hg_run 1 (pc' := 215) (ls' := [some (vr 395), some (vi l1), some (vi v24.1)]) (st' := [vI l1, vR 431, vI l1, vR 432]) rfl ?_
    obtain ⟨v31, e31, e⟩ := ob e
    refine hg_aIs 0 rfl (fun _ _ _ _ => rfl) A30 (Abs_ks A30 (i := 59) rfl) rfl (by decide) e31 (fun r31 => ?_)
    rcases oi e with ⟨q32, e⟩ | ⟨q32, e⟩
    · refine hg_ifF (tgt := 226) rfl (by decide) r31 (show ¬ ¬ (v31 = 0) from fun f => f q32) ?_
      refine hg_run 1 (pc' := 220) (ls' := [some (vr 395), some (vi l1), some (vi v24.1)]) (st' := [vR 395, vI l1, vR 432]) rfl ?_
      refine gs_395_40 rfl A30 ?_
      refine hg_run 1 (pc' := 227) (ls' := [some (vr 395), some (vi l1), some (vi v24.1)]) (st' := [vI (hI h30 395 40), vI l1, vR 432]) rfl ?_
      exact t272_j227 hd rl1 (Abs_rg A30 395 40) A30 e kr
    · refine hg_ifT (tgt := 226) rfl (by decide) r31 (show ¬ (v31 = 0) from q32) ?_
      refine hg_run 1 (pc' := 227) (ls' := [some (vr 395), some (vi l1), some (vi v24.1)]) (st' := [vI 0, vI l1, vR 432]) rfl ?_
      exact t272_j227 hd rl1 (rgn 0 rfl) A30 e kr
def c276 (l1 : Int) (l2 : Int) (l3 : Int) (h : hS) : Option (Int × hS) :=
  (some (sI h 395 82 l1)).bind (fun h1 =>
  (some (sI h1 395 83 l2)).bind (fun h2 =>
  (some (sI h2 395 84 l3)).bind (fun h3 =>
  some (0, h3))))
theorem t276 {d : Nat} (hd : 1 ≤ d) {l1 : Int} {l2 : Int} {l3 : Int} {h : hS} {w : mmW} {o : Int × hS} (A : Abs h w) (rl1 : rg l1) (rl2 : rg l2) (rl3 : rg l3) (e : c276 l1 l2 l3 h = some o) : hEv d 276 [vR 395, vI l1, vI l2, vI l3] w (qI o) := by
  obtain ⟨d, rfl⟩ : ∃ d1, d = d1 + 1 := ⟨d - 1, by omega⟩
  have hd : 0 ≤ d := by omega
  refine hEv_start (args := [vr 395, vi l1, vi l2, vi l3]) (nl := 4) rfl (Nat.le_of_ble_eq_true rfl) ?_
  show hG d 276 0 [some (vr 395), some (vi l1), some (vi l2), some (vi l3)] [] w _
  have kr : ∀ (v1 : Int) (h1 : hS), o = (v1, h1) → ∀ w', rg v1 → Abs h1 w' → qI o (some (.int (Int32.ofInt v1)), w') := fun v1 h1 q w' r A' => by cases q; exact ⟨rfl, r, A'⟩
  unfold c276 at e
  refine hg_run 2 (pc' := 2) (ls' := [some (vr 395), some (vi l1), some (vi l2), some (vi l3)]) (st' := [vI l1, vR 395]) rfl ?_
  obtain ⟨h1, e1, e⟩ := ob e
  refine ps_395_82 rfl A rl1 e1 (fun w1 A1 => ?_)
  refine hg_run 2 (pc' := 7) (ls' := [some (vr 395), some (vi l1), some (vi l2), some (vi l3)]) (st' := [vI l2, vR 395]) rfl ?_
  obtain ⟨h2, e2, e⟩ := ob e
  refine ps_395_83 rfl A1 rl2 e2 (fun w2 A2 => ?_)
  refine hg_run 2 (pc' := 12) (ls' := [some (vr 395), some (vi l1), some (vi l2), some (vi l3)]) (st' := [vI l3, vR 395]) rfl ?_
  obtain ⟨h3, e3, e⟩ := ob e
  refine ps_395_84 rfl A2 rl3 e3 (fun w3 A3 => ?_)
  refine hg_run 1 (pc' := 16) (ls' := [some (vr 395), some (vi l1), some (vi l2), some (vi l3)]) (st' := [vI 0]) rfl ?_
  cases e
  exact hg_retI rfl (by decide) (fit_B (.inl rfl)) (kr _ _ rfl _ (rgn 0 rfl) A3)
def c277_j135 (l1 : Int) (l2 : Int) (l4 : Int) (l5 : Int) (h : hS) : Option (Int × hS) :=
  if l4 = 31 then
  (c256 l1 2 h).bind (fun v12 =>
  (c222 1 l2 l5 v12 h).bind (fun h13 =>
  some (1, h13)))
  else
  (c256 l1 2 h).bind (fun v10 =>
  (c223 1 l2 l5 v10 h).bind (fun h11 =>
  some (1, h11)))
set_option maxRecDepth 100000 in
theorem t277_j135 {d : Nat} (hd : 3 ≤ d) {l1 : Int} {l2 : Int} {l4 : Int} {l5 : Int} {z3 : Option hO} {h : hS} {w : mmW} {o : Int × hS} {Q : mmO → Prop} (rl1 : rg l1) (rl2 : rg l2) (rl4 : rg l4) (rl5 : rg l5) (A : Abs h w) (e : c277_j135 l1 l2 l4 l5 h = some o) (kr : ∀ (v1 : Int) (h1 : hS), o = (v1, h1) → ∀ w', rg v1 → Abs h1 w' → Q (some (.int (Int32.ofInt v1)), w')) : hG d 277 135 [some (vr 395), some (vi l1), some (vi l2), z3, some (vi l4), some (vi l5)] [] w Q := by
  unfold c277_j135 at e
  refine hg_run 2 (pc' := 139) (ls' := [some (vr 395), some (vi l1), some (vi l2), z3, some (vi l4), some (vi l5)]) (st' := [vI 31, vI l4]) rfl ?_
  rcases oi e with ⟨q9, e⟩ | ⟨q9, e⟩
  · refine hg_icF (tgt := 159) rfl (by decide) rl4 (rgn 31 rfl) (show ¬ ¬ (l4 = 31) from fun f => f q9) ?_
    refine hg_run 7 (pc' := 150) (ls' := [some (vr 395), some (vi l1), some (vi l2), z3, some (vi l4), some (vi l5)]) (st' := [vI 2, vI l1, vR 395, vI l5, vI l2, vI 1, vR 395]) rfl ?_
    obtain ⟨v12, e12, e⟩ := ob e
    refine hg_cIp (as := [vR 395, vI l1, vI 2]) (st' := [vI l5, vI l2, vI 1, vR 395]) rfl (fun _ _ _ _ => rfl) rfl rfl (Nat.le_of_ble_eq_true rfl) (Nat.le_of_ble_eq_true rfl) (recvV A (a := 13) (Abs_ks A (i := 23) rfl).1) (t256 (by omega) A rl1 (rgn 2 rfl) e12) (fun r12 => ?_)
    obtain ⟨h13, e13, e⟩ := ob e
    refine hg_cV (as := [vR 395, vI 1, vI l2, vI l5, vI v12]) (st' := []) rfl (fun _ _ _ _ => rfl) rfl rfl (Nat.le_of_ble_eq_true rfl) (Nat.le_of_ble_eq_true rfl) (recvV A (a := 13) (Abs_ks A (i := 23) rfl).1) (t222 (by omega) A (rgn 1 rfl) rl2 rl5 r12 e13) (fun w13 A13 => ?_)
    refine hg_run 2 (pc' := 174) (ls' := [some (vr 395), some (vi l1), some (vi l2), z3, some (vi l4), some (vi l5)]) (st' := [vI 1]) rfl ?_
    cases e
    exact hg_retI rfl (by decide) (fit_B (.inr rfl)) (kr _ _ rfl _ (rgn 1 rfl) A13)
  · refine hg_icT (tgt := 159) rfl (by decide) rl4 (rgn 31 rfl) (show ¬ (l4 = 31) from q9) ?_
    refine hg_run 7 (pc' := 167) (ls' := [some (vr 395), some (vi l1), some (vi l2), z3, some (vi l4), some (vi l5)]) (st' := [vI 2, vI l1, vR 395, vI l5, vI l2, vI 1, vR 395]) rfl ?_
    obtain ⟨v10, e10, e⟩ := ob e
    refine hg_cIp (as := [vR 395, vI l1, vI 2]) (st' := [vI l5, vI l2, vI 1, vR 395]) rfl (fun _ _ _ _ => rfl) rfl rfl (Nat.le_of_ble_eq_true rfl) (Nat.le_of_ble_eq_true rfl) (recvV A (a := 13) (Abs_ks A (i := 23) rfl).1) (t256 (by omega) A rl1 (rgn 2 rfl) e10) (fun r10 => ?_)
    obtain ⟨h11, e11, e⟩ := ob e
    refine hg_cV (as := [vR 395, vI 1, vI l2, vI l5, vI v10]) (st' := []) rfl (fun _ _ _ _ => rfl) rfl rfl (Nat.le_of_ble_eq_true rfl) (Nat.le_of_ble_eq_true rfl) (recvV A (a := 13) (Abs_ks A (i := 23) rfl).1) (t223 (by omega) A (rgn 1 rfl) rl2 rl5 r10 e11) (fun w11 A11 => ?_)
    refine hg_run 1 (pc' := 174) (ls' := [some (vr 395), some (vi l1), some (vi l2), z3, some (vi l4), some (vi l5)]) (st' := [vI 1]) rfl ?_
    cases e
    exact hg_retI rfl (by decide) (fit_B (.inr rfl)) (kr _ _ rfl _ (rgn 1 rfl) A11)
def c277_j126 (l3 : Int) (h : hS) : Option (Int × hS) :=
  (c276 7 l3 (-1) h).bind (fun v14 =>
  (kB v14.1).bind (fun u15 =>
  some (v14.1, v14.2)))
set_option maxRecDepth 100000 in
theorem t277_j126 {d : Nat} (hd : 3 ≤ d) {l3 : Int} {z1 : Option hO} {z2 : Option hO} {z4 : Option hO} {z5 : Option hO} {h : hS} {w : mmW} {o : Int × hS} {Q : mmO → Prop} (rl3 : rg l3) (A : Abs h w) (e : c277_j126 l3 h = some o) (kr : ∀ (v1 : Int) (h1 : hS), o = (v1, h1) → ∀ w', rg v1 → Abs h1 w' → Q (some (.int (Int32.ofInt v1)), w')) : hG d 277 126 [some (vr 395), z1, z2, some (vi l3), z4, z5] [] w Q := by
  unfold c277_j126 at e
  refine hg_run 4 (pc' := 131) (ls' := [some (vr 395), z1, z2, some (vi l3), z4, z5]) (st' := [vI (-1), vI l3, vI 7, vR 395]) rfl ?_
  obtain ⟨v14, e14, e⟩ := ob e
  refine hg_cI (as := [vR 395, vI 7, vI l3, vI (-1)]) (st' := []) rfl (fun _ _ _ _ => rfl) rfl rfl (Nat.le_of_ble_eq_true rfl) (Nat.le_of_ble_eq_true rfl) (recvV A (a := 13) (Abs_ks A (i := 23) rfl).1) (t276 (by omega) A (rgn 7 rfl) rl3 (rgn (-1) rfl) e14) (fun w14 r14 A14 => ?_)
  obtain ⟨u15, e15, e⟩ := ob e
  cases e
  exact hg_retI rfl (by decide) (fit_B (kB_e e15)) (kr _ _ rfl _ r14 A14)
def c277_j57 (l1 : Int) (l2 : Int) (l5 : Int) (h : hS) : Option (Int × hS) :=
  (c257 l1 2 h).bind (fun v22 =>
  (c220 1 l2 l5 v22 h).bind (fun h23 =>
  some (1, h23)))
set_option maxRecDepth 100000 in
theorem t277_j57 {d : Nat} (hd : 3 ≤ d) {l1 : Int} {l2 : Int} {l5 : Int} {z3 : Option hO} {z4 : Option hO} {h : hS} {w : mmW} {o : Int × hS} {Q : mmO → Prop} (rl1 : rg l1) (rl2 : rg l2) (rl5 : rg l5) (A : Abs h w) (e : c277_j57 l1 l2 l5 h = some o) (kr : ∀ (v1 : Int) (h1 : hS), o = (v1, h1) → ∀ w', rg v1 → Abs h1 w' → Q (some (.int (Int32.ofInt v1)), w')) : hG d 277 57 [some (vr 395), some (vi l1), some (vi l2), z3, z4, some (vi l5)] [] w Q := by
  unfold c277_j57 at e
  refine hg_run 7 (pc' := 65) (ls' := [some (vr 395), some (vi l1), some (vi l2), z3, z4, some (vi l5)]) (st' := [vI 2, vI l1, vR 395, vI l5, vI l2, vI 1, vR 395]) rfl ?_
  obtain ⟨v22, e22, e⟩ := ob e
  refine hg_cIp (as := [vR 395, vI l1, vI 2]) (st' := [vI l5, vI l2, vI 1, vR 395]) rfl (fun _ _ _ _ => rfl) rfl rfl (Nat.le_of_ble_eq_true rfl) (Nat.le_of_ble_eq_true rfl) (recvV A (a := 13) (Abs_ks A (i := 23) rfl).1) (t257 (by omega) A rl1 (rgn 2 rfl) e22) (fun r22 => ?_)
  obtain ⟨h23, e23, e⟩ := ob e
  refine hg_cV (as := [vR 395, vI 1, vI l2, vI l5, vI v22]) (st' := []) rfl (fun _ _ _ _ => rfl) rfl rfl (Nat.le_of_ble_eq_true rfl) (Nat.le_of_ble_eq_true rfl) (recvV A (a := 13) (Abs_ks A (i := 23) rfl).1) (t220 (by omega) A (rgn 1 rfl) rl2 rl5 r22 e23) (fun w23 A23 => ?_)
  refine hg_run 1 (pc' := 72) (ls' := [some (vr 395), some (vi l1), some (vi l2), z3, z4, some (vi l5)]) (st' := [vI 1]) rfl ?_
  cases e
  exact hg_retI rfl (by decide) (fit_B (.inr rfl)) (kr _ _ rfl _ (rgn 1 rfl) A23)
def c277 (l1 : Int) (l2 : Int) (l3 : Int) (h : hS) : Option (Int × hS) :=
  (c256 l1 0 h).bind (fun v1 =>
  (c256 l1 1 h).bind (fun v2 =>
  if v1 = 32 then
  (c205 1 l2 v2 h).bind (fun v20 =>
  if v20 = (-1) then
  (c199 1 l2 39 h).bind (fun v24 =>
  if v24 = 8 then
  (c276 7 l3 (-1) h).bind (fun v26 =>
  (kB v26.1).bind (fun u27 =>
  some (v26.1, v26.2)))
  else
  c277_j57 l1 l2 v2 h)
  else
  c277_j57 l1 l2 v2 h)
  else
  (c206 1 l2 v2 h).bind (fun v4 =>
  if v4 = 0 then
  if v1 = 31 then
  (c199 1 l2 30 h).bind (fun v16 =>
  if v16 = 4 then
  c277_j126 l3 h
  else
  c277_j135 l1 l2 v1 v2 h)
  else
  (c199 1 l2 5 h).bind (fun v7 =>
  if v7 = 8 then
  c277_j126 l3 h
  else
  c277_j135 l1 l2 v1 v2 h)
  else
  (c276 3 l3 (-1) h).bind (fun v18 =>
  (kB v18.1).bind (fun u19 =>
  some (v18.1, v18.2))))))
set_option maxRecDepth 100000 in
theorem t277 {d : Nat} (hd : 4 ≤ d) {l1 : Int} {l2 : Int} {l3 : Int} {h : hS} {w : mmW} {o : Int × hS} (A : Abs h w) (rl1 : rg l1) (rl2 : rg l2) (rl3 : rg l3) (e : c277 l1 l2 l3 h = some o) : hEv d 277 [vR 395, vI l1, vI l2, vI l3] w (qI o) := by
  obtain ⟨d, rfl⟩ : ∃ d1, d = d1 + 1 := ⟨d - 1, by omega⟩
  have hd : 3 ≤ d := by omega
  refine hEv_start (args := [vr 395, vi l1, vi l2, vi l3]) (nl := 6) rfl (Nat.le_of_ble_eq_true rfl) ?_
  show hG d 277 0 [some (vr 395), some (vi l1), some (vi l2), some (vi l3), none, none] [] w _
  have kr : ∀ (v1 : Int) (h1 : hS), o = (v1, h1) → ∀ w', rg v1 → Abs h1 w' → qI o (some (.int (Int32.ofInt v1)), w') := fun v1 h1 q w' r A' => by cases q; exact ⟨rfl, r, A'⟩
  unfold c277 at e
  refine hg_run 3 (pc' := 3) (ls' := [some (vr 395), some (vi l1), some (vi l2), some (vi l3), none, none]) (st' := [vI 0, vI l1, vR 395]) rfl ?_
  obtain ⟨v1, e1, e⟩ := ob e
  refine hg_cIp (as := [vR 395, vI l1, vI 0]) (st' := []) rfl (fun _ _ _ _ => rfl) rfl rfl (Nat.le_of_ble_eq_true rfl) (Nat.le_of_ble_eq_true rfl) (recvV A (a := 13) (Abs_ks A (i := 23) rfl).1) (t256 (by omega) A rl1 (rgn 0 rfl) e1) (fun r1 => ?_)
  refine hg_run 4 (pc' := 11) (ls' := [some (vr 395), some (vi l1), some (vi l2), some (vi l3), some (vi v1), none]) (st' := [vI 1, vI l1, vR 395]) rfl ?_
  obtain ⟨v2, e2, e⟩ := ob e
  refine hg_cIp (as := [vR 395, vI l1, vI 1]) (st' := []) rfl (fun _ _ _ _ => rfl) rfl rfl (Nat.le_of_ble_eq_true rfl) (Nat.le_of_ble_eq_true rfl) (recvV A (a := 13) (Abs_ks A (i := 23) rfl).1) (t256 (by omega) A rl1 (rgn 1 rfl) e2) (fun r2 => ?_)
  refine hg_run 3 (pc' := 20) (ls' := [some (vr 395), some (vi l1), some (vi l2), some (vi l3), some (vi v1), some (vi v2)]) (st' := [vI 32, vI v1]) rfl ?_
  rcases oi e with ⟨q3, e⟩ | ⟨q3, e⟩
  · refine hg_icF (tgt := 73) rfl (by decide) r1 (rgn 32 rfl) (show ¬ ¬ (v1 = 32) from fun f => f q3) ?_
    refine hg_run 4 (pc' := 28) (ls' := [some (vr 395), some (vi l1), some (vi l2), some (vi l3), some (vi v1), some (vi v2)]) (st' := [vI v2, vI l2, vI 1, vR 395]) rfl ?_
    obtain ⟨v20, e20, e⟩ := ob e
    refine hg_cIp (as := [vR 395, vI 1, vI l2, vI v2]) (st' := []) rfl (fun _ _ _ _ => rfl) rfl rfl (Nat.le_of_ble_eq_true rfl) (Nat.le_of_ble_eq_true rfl) (recvV A (a := 13) (Abs_ks A (i := 23) rfl).1) (t205 (by omega) A (rgn 1 rfl) rl2 r2 e20) (fun r20 => ?_)
    refine hg_run 1 (pc' := 32) (ls' := [some (vr 395), some (vi l1), some (vi l2), some (vi l3), some (vi v1), some (vi v2)]) (st' := [vI (-1), vI v20]) rfl ?_
    rcases oi e with ⟨q21, e⟩ | ⟨q21, e⟩
    · refine hg_icF (tgt := 57) rfl (by decide) r20 (rgn (-1) rfl) (show ¬ ¬ (v20 = (-1)) from fun f => f q21) ?_
      refine hg_run 4 (pc' := 40) (ls' := [some (vr 395), some (vi l1), some (vi l2), some (vi l3), some (vi v1), some (vi v2)]) (st' := [vI 39, vI l2, vI 1, vR 395]) rfl ?_
      obtain ⟨v24, e24, e⟩ := ob e
      refine hg_cIp (as := [vR 395, vI 1, vI l2, vI 39]) (st' := []) rfl (fun _ _ _ _ => rfl) rfl rfl (Nat.le_of_ble_eq_true rfl) (Nat.le_of_ble_eq_true rfl) (recvV A (a := 13) (Abs_ks A (i := 23) rfl).1) (t199 (by omega) A (rgn 1 rfl) rl2 (rgn 39 rfl) e24) (fun r24 => ?_)
      refine hg_run 1 (pc' := 45) (ls' := [some (vr 395), some (vi l1), some (vi l2), some (vi l3), some (vi v1), some (vi v2)]) (st' := [vI 8, vI v24]) rfl ?_
      rcases oi e with ⟨q25, e⟩ | ⟨q25, e⟩
      · refine hg_icF (tgt := 57) rfl (by decide) r24 (rgn 8 rfl) (show ¬ ¬ (v24 = 8) from fun f => f q25) ?_
        refine hg_run 4 (pc' := 53) (ls' := [some (vr 395), some (vi l1), some (vi l2), some (vi l3), some (vi v1), some (vi v2)]) (st' := [vI (-1), vI l3, vI 7, vR 395]) rfl ?_
        obtain ⟨v26, e26, e⟩ := ob e
        refine hg_cI (as := [vR 395, vI 7, vI l3, vI (-1)]) (st' := []) rfl (fun _ _ _ _ => rfl) rfl rfl (Nat.le_of_ble_eq_true rfl) (Nat.le_of_ble_eq_true rfl) (recvV A (a := 13) (Abs_ks A (i := 23) rfl).1) (t276 (by omega) A (rgn 7 rfl) rl3 (rgn (-1) rfl) e26) (fun w26 r26 A26 => ?_)
        obtain ⟨u27, e27, e⟩ := ob e
        cases e
        exact hg_retI rfl (by decide) (fit_B (kB_e e27)) (kr _ _ rfl _ r26 A26)
      · refine hg_icT (tgt := 57) rfl (by decide) r24 (rgn 8 rfl) (show ¬ (v24 = 8) from q25) ?_
        exact t277_j57 hd rl1 rl2 r2 A e kr
    · refine hg_icT (tgt := 57) rfl (by decide) r20 (rgn (-1) rfl) (show ¬ (v20 = (-1)) from q21) ?_
      exact t277_j57 hd rl1 rl2 r2 A e kr
  · refine hg_icT (tgt := 73) rfl (by decide) r1 (rgn 32 rfl) (show ¬ (v1 = 32) from q3) ?_
    refine hg_run 4 (pc' := 78) (ls' := [some (vr 395), some (vi l1), some (vi l2), some (vi l3), some (vi v1), some (vi v2)]) (st' := [vI v2, vI l2, vI 1, vR 395]) rfl ?_
    obtain ⟨v4, e4, e⟩ := ob e
    refine hg_cIp (as := [vR 395, vI 1, vI l2, vI v2]) (st' := []) rfl (fun _ _ _ _ => rfl) rfl rfl (Nat.le_of_ble_eq_true rfl) (Nat.le_of_ble_eq_true rfl) (recvV A (a := 13) (Abs_ks A (i := 23) rfl).1) (t206 (by omega) A (rgn 1 rfl) rl2 r2 e4) (fun r4 => ?_)
    rcases oi e with ⟨q5, e⟩ | ⟨q5, e⟩
    · refine hg_ifT (tgt := 92) rfl (by decide) r4 q5 ?_
      refine hg_run 2 (pc' := 96) (ls' := [some (vr 395), some (vi l1), some (vi l2), some (vi l3), some (vi v1), some (vi v2)]) (st' := [vI 31, vI v1]) rfl ?_
      rcases oi e with ⟨q6, e⟩ | ⟨q6, e⟩
      · refine hg_icF (tgt := 114) rfl (by decide) r1 (rgn 31 rfl) (show ¬ ¬ (v1 = 31) from fun f => f q6) ?_
        refine hg_run 4 (pc' := 104) (ls' := [some (vr 395), some (vi l1), some (vi l2), some (vi l3), some (vi v1), some (vi v2)]) (st' := [vI 30, vI l2, vI 1, vR 395]) rfl ?_
        obtain ⟨v16, e16, e⟩ := ob e
        refine hg_cIp (as := [vR 395, vI 1, vI l2, vI 30]) (st' := []) rfl (fun _ _ _ _ => rfl) rfl rfl (Nat.le_of_ble_eq_true rfl) (Nat.le_of_ble_eq_true rfl) (recvV A (a := 13) (Abs_ks A (i := 23) rfl).1) (t199 (by omega) A (rgn 1 rfl) rl2 (rgn 30 rfl) e16) (fun r16 => ?_)
        refine hg_run 1 (pc' := 108) (ls' := [some (vr 395), some (vi l1), some (vi l2), some (vi l3), some (vi v1), some (vi v2)]) (st' := [vI 4, vI v16]) rfl ?_
        rcases oi e with ⟨q17, e⟩ | ⟨q17, e⟩
        · refine hg_icF (tgt := 135) rfl (by decide) r16 (rgn 4 rfl) (show ¬ ¬ (v16 = 4) from fun f => f q17) ?_
          refine hg_run 1 (pc' := 126) (ls' := [some (vr 395), some (vi l1), some (vi l2), some (vi l3), some (vi v1), some (vi v2)]) (st' := []) rfl ?_
          exact t277_j126 hd rl3 A e kr
        · refine hg_icT (tgt := 135) rfl (by decide) r16 (rgn 4 rfl) (show ¬ (v16 = 4) from q17) ?_
          exact t277_j135 hd rl1 rl2 r1 r2 A e kr
      · refine hg_icT (tgt := 114) rfl (by decide) r1 (rgn 31 rfl) (show ¬ (v1 = 31) from q6) ?_
        refine hg_run 4 (pc' := 118) (ls' := [some (vr 395), some (vi l1), some (vi l2), some (vi l3), some (vi v1), some (vi v2)]) (st' := [vI 5, vI l2, vI 1, vR 395]) rfl ?_
        obtain ⟨v7, e7, e⟩ := ob e
        refine hg_cIp (as := [vR 395, vI 1, vI l2, vI 5]) (st' := []) rfl (fun _ _ _ _ => rfl) rfl rfl (Nat.le_of_ble_eq_true rfl) (Nat.le_of_ble_eq_true rfl) (recvV A (a := 13) (Abs_ks A (i := 23) rfl).1) (t199 (by omega) A (rgn 1 rfl) rl2 (rgn 5 rfl) e7) (fun r7 => ?_)
        refine hg_run 1 (pc' := 123) (ls' := [some (vr 395), some (vi l1), some (vi l2), some (vi l3), some (vi v1), some (vi v2)]) (st' := [vI 8, vI v7]) rfl ?_
        rcases oi e with ⟨q8, e⟩ | ⟨q8, e⟩
        · refine hg_icF (tgt := 135) rfl (by decide) r7 (rgn 8 rfl) (show ¬ ¬ (v7 = 8) from fun f => f q8) ?_
          exact t277_j126 hd rl3 A e kr
        · refine hg_icT (tgt := 135) rfl (by decide) r7 (rgn 8 rfl) (show ¬ (v7 = 8) from q8) ?_
          exact t277_j135 hd rl1 rl2 r1 r2 A e kr
    · refine hg_ifF (tgt := 92) rfl (by decide) r4 q5 ?_
      refine hg_run 4 (pc' := 88) (ls' := [some (vr 395), some (vi l1), some (vi l2), some (vi l3), some (vi v1), some (vi v2)]) (st' := [vI (-1), vI l3, vI 3, vR 395]) rfl ?_
      obtain ⟨v18, e18, e⟩ := ob e
      refine hg_cI (as := [vR 395, vI 3, vI l3, vI (-1)]) (st' := []) rfl (fun _ _ _ _ => rfl) rfl rfl (Nat.le_of_ble_eq_true rfl) (Nat.le_of_ble_eq_true rfl) (recvV A (a := 13) (Abs_ks A (i := 23) rfl).1) (t276 (by omega) A (rgn 3 rfl) rl3 (rgn (-1) rfl) e18) (fun w18 r18 A18 => ?_)
      obtain ⟨u19, e19, e⟩ := ob e
      cases e
      exact hg_retI rfl (by decide) (fit_B (kB_e e19)) (kr _ _ rfl _ r18 A18)
def c278_b18 (l3 : Int) (l4 : Int) (h : hS) : Option ((Int × hS) ⊕ (hS)) :=
  if 64 ≤ l4 then
  some (.inr (h))
  else
  (c199 1 (wadd l3 1) l4 h).bind (fun v4 =>
  (c201 1 l3 l4 v4 h).bind (fun h5 =>
  some (.inl ((wadd l4 1), h5))))
theorem t278_b18 {d : Nat} (hd : 1 ≤ d) {l3 : Int} {l4 : Int} {l1 : Int} {l2 : Int} {h : hS} {w : mmW} {o : (Int × hS) ⊕ (hS)} {Q : mmO → Prop} (rl3 : rg l3) (rl4 : rg l4) (A : Abs h w) (e : c278_b18 l3 l4 h = some o) (kb : ∀ (s_0 : Int) (s_1 : hS), o = .inl (s_0, s_1) → ∀ w', rg s_0 → Abs s_1 w' → hG d 278 18 [some (vr 395), some (vi l1), some (vi l2), some (vi l3), some (vi s_0)] [] w' Q) (ke : ∀ (x_0 : hS), o = .inr (x_0) → ∀ w', ∀ (y4 : Option hO), Abs x_0 w' → hG d 278 49 [some (vr 395), some (vi l1), some (vi l2), some (vi l3), y4] [] w' Q) : hG d 278 18 [some (vr 395), some (vi l1), some (vi l2), some (vi l3), some (vi l4)] [] w Q := by
  unfold c278_b18 at e
  refine hg_run 2 (pc' := 22) (ls' := [some (vr 395), some (vi l1), some (vi l2), some (vi l3), some (vi l4)]) (st' := [vI 64, vI l4]) rfl ?_
  rcases oi e with ⟨q3, e⟩ | ⟨q3, e⟩
  · refine hg_icT (tgt := 49) rfl (by decide) rl4 (rgn 64 rfl) q3 ?_
    cases e
    exact ke h rfl _ _  A
  · refine hg_icF (tgt := 49) rfl (by decide) rl4 (rgn 64 rfl) q3 ?_
    refine hg_run 10 (pc' := 37) (ls' := [some (vr 395), some (vi l1), some (vi l2), some (vi l3), some (vi l4)]) (st' := [vI l4, vI (wadd l3 1), vI 1, vR 395, vI l4, vI l3, vI 1, vR 395]) rfl ?_
    obtain ⟨v4, e4, e⟩ := ob e
    refine hg_cIp (as := [vR 395, vI 1, vI (wadd l3 1), vI l4]) (st' := [vI l4, vI l3, vI 1, vR 395]) rfl (fun _ _ _ _ => rfl) rfl rfl (Nat.le_of_ble_eq_true rfl) (Nat.le_of_ble_eq_true rfl) (recvV A (a := 13) (Abs_ks A (i := 23) rfl).1) (t199 (by omega) A (rgn 1 rfl) (rg_add _ _) rl4 e4) (fun r4 => ?_)
    obtain ⟨h5, e5, e⟩ := ob e
    refine hg_cV (as := [vR 395, vI 1, vI l3, vI l4, vI v4]) (st' := []) rfl (fun _ _ _ _ => rfl) rfl rfl (Nat.le_of_ble_eq_true rfl) (Nat.le_of_ble_eq_true rfl) (recvV A (a := 13) (Abs_ks A (i := 23) rfl).1) (t201 (by omega) A (rgn 1 rfl) rl3 rl4 r4 e5) (fun w5 A5 => ?_)
    refine hg_run 2 (pc' := 18) (ls' := [some (vr 395), some (vi l1), some (vi l2), some (vi l3), some (vi (wadd l4 1))]) (st' := []) rfl ?_
    cases e
    exact kb (wadd l4 1) h5 rfl _ (rg_add _ _) A5
theorem t278_l18 {d : Nat} (hd : 1 ≤ d) {l3 : Int} {l1 : Int} {l2 : Int} {Q : mmO → Prop} (rl3 : rg l3) (n : Nat) {l4 : Int}  {h : hS} {w : mmW} {r : hS} (rl4 : rg l4) (A : Abs h w) (e : lp (fun s => c278_b18 l3 s.1 s.2) n (l4, h) = some r) (ke : ∀ (x_0 : hS), r = (x_0) → ∀ w', ∀ (y4 : Option hO), Abs x_0 w' → hG d 278 49 [some (vr 395), some (vi l1), some (vi l2), some (vi l3), y4] [] w' Q) : hG d 278 18 [some (vr 395), some (vi l1), some (vi l2), some (vi l3), some (vi l4)] [] w Q := by
  induction n generalizing l4 h w with
  | zero => cases e
  | succ n ih =>
    rcases lp_succ e with ⟨s1, e1, e2⟩ | e1
    · exact t278_b18 hd rl3 rl4 A e1 (fun s_0 s_1 q w1 rl4 A1 => by cases q; exact ih rl4 A1 e2) (fun x_0 q => by cases q)
    · exact t278_b18 hd rl3 rl4 A e1 (fun s_0 s_1 q => by cases q) (fun x_0 q => by cases q; exact ke _ rfl)
def c278_b8 (l2 : Int) (l3 : Int) (h : hS) : Option ((Int × hS) ⊕ (hS)) :=
  if l2 ≤ (wadd l3 1) then
  some (.inr (h))
  else
  (lp (fun s => c278_b18 l3 s.1 s.2) hF0 (0, h)).bind (fun r6 =>
  some (.inl ((wadd l3 1), r6)))
theorem t278_b8 {d : Nat} (hd : 1 ≤ d) {l2 : Int} {l3 : Int} {l1 : Int} {z4 : Option hO} {h : hS} {w : mmW} {o : (Int × hS) ⊕ (hS)} {Q : mmO → Prop} (rl2 : rg l2) (rl3 : rg l3) (A : Abs h w) (e : c278_b8 l2 l3 h = some o) (kb : ∀ (s_0 : Int) (s_1 : hS), o = .inl (s_0, s_1) → ∀ w', ∀ (y4 : Option hO), rg s_0 → Abs s_1 w' → hG d 278 8 [some (vr 395), some (vi l1), some (vi l2), some (vi s_0), y4] [] w' Q) (ke : ∀ (x_0 : hS), o = .inr (x_0) → ∀ w', ∀ (y3 y4 : Option hO), Abs x_0 w' → hG d 278 55 [some (vr 395), some (vi l1), some (vi l2), y3, y4] [] w' Q) : hG d 278 8 [some (vr 395), some (vi l1), some (vi l2), some (vi l3), z4] [] w Q := by
  unfold c278_b8 at e
  refine hg_run 4 (pc' := 12) (ls' := [some (vr 395), some (vi l1), some (vi l2), some (vi l3), z4]) (st' := [vI l2, vI (wadd l3 1)]) rfl ?_
  rcases oi e with ⟨q2, e⟩ | ⟨q2, e⟩
  · refine hg_icT (tgt := 55) rfl (by decide) (rg_add _ _) rl2 q2 ?_
    cases e
    exact ke h rfl _ _ _  A
  · refine hg_icF (tgt := 55) rfl (by decide) (rg_add _ _) rl2 q2 ?_
    refine hg_run 2 (pc' := 18) (ls' := [some (vr 395), some (vi l1), some (vi l2), some (vi l3), some (vi 0)]) (st' := []) rfl ?_
    obtain ⟨r6, e6, e⟩ := ob e
    refine t278_l18 hd rl3 _ (rgn 0 rfl) A e6 ?_
    intro x6_0 qq6 w6 z6_4 A6
    subst qq6
    refine hg_run 2 (pc' := 8) (ls' := [some (vr 395), some (vi l1), some (vi l2), some (vi (wadd l3 1)), z6_4]) (st' := []) rfl ?_
    cases e
    exact kb (wadd l3 1) r6 rfl _ _ (rg_add _ _) A6
theorem t278_l8 {d : Nat} (hd : 1 ≤ d) {l2 : Int} {l1 : Int} {Q : mmO → Prop} (rl2 : rg l2) (n : Nat) {l3 : Int} {z4 : Option hO} {h : hS} {w : mmW} {r : hS} (rl3 : rg l3) (A : Abs h w) (e : lp (fun s => c278_b8 l2 s.1 s.2) n (l3, h) = some r) (ke : ∀ (x_0 : hS), r = (x_0) → ∀ w', ∀ (y3 y4 : Option hO), Abs x_0 w' → hG d 278 55 [some (vr 395), some (vi l1), some (vi l2), y3, y4] [] w' Q) : hG d 278 8 [some (vr 395), some (vi l1), some (vi l2), some (vi l3), z4] [] w Q := by
  induction n generalizing l3 z4 h w with
  | zero => cases e
  | succ n ih =>
    rcases lp_succ e with ⟨s1, e1, e2⟩ | e1
    · exact t278_b8 hd rl2 rl3 A e1 (fun s_0 s_1 q w1 y4 rl3 A1 => by cases q; exact ih rl3 A1 e2) (fun x_0 q => by cases q)
    · exact t278_b8 hd rl2 rl3 A e1 (fun s_0 s_1 q => by cases q) (fun x_0 q => by cases q; exact ke _ rfl)
def c278_j102 (l3 : Int) (h : hS) : Option ((Int × hS) ⊕ (hS)) :=
  some (.inl ((wadd l3 1), h))
theorem t278_j102 {d : Nat} (hd : 1 ≤ d) {l3 : Int} {l1 : Int} {l2 : Int} {z4 : Option hO} {h : hS} {w : mmW} {o : (Int × hS) ⊕ (hS)} {Q : mmO → Prop} (rl3 : rg l3) (A : Abs h w) (e : c278_j102 l3 h = some o) (kb : ∀ (s_0 : Int) (s_1 : hS), o = .inl (s_0, s_1) → ∀ w', rg s_0 → Abs s_1 w' → hG d 278 68 [some (vr 395), some (vi l1), some (vi l2), some (vi s_0), z4] [] w' Q) (ke : ∀ (x_0 : hS), o = .inr (x_0) → ∀ w', ∀ (y3 : Option hO), Abs x_0 w' → hG d 278 108 [some (vr 395), some (vi l1), some (vi l2), y3, z4] [] w' Q) : hG d 278 102 [some (vr 395), some (vi l1), some (vi l2), some (vi l3), z4] [] w Q := by
  unfold c278_j102 at e
  refine hg_run 2 (pc' := 68) (ls' := [some (vr 395), some (vi l1), some (vi l2), some (vi (wadd l3 1)), z4]) (st' := []) rfl ?_
  cases e
  exact kb (wadd l3 1) h rfl _ (rg_add _ _) A
def c278_b68 (l1 : Int) (l2 : Int) (l3 : Int) (h : hS) : Option ((Int × hS) ⊕ (hS)) :=
  if (wsub l2 1) ≤ l3 then
  some (.inr (h))
  else
  (c199 1 l3 1 h).bind (fun v10 =>
  if v10 ≤ l1 then
  c278_j102 l3 h
  else
  (c199 1 l3 1 h).bind (fun v12 =>
  (c201 1 l3 1 (wsub v12 1) h).bind (fun h13 =>
  c278_j102 l3 h13)))
theorem t278_b68 {d : Nat} (hd : 1 ≤ d) {l1 : Int} {l2 : Int} {l3 : Int} {z4 : Option hO} {h : hS} {w : mmW} {o : (Int × hS) ⊕ (hS)} {Q : mmO → Prop} (rl1 : rg l1) (rl2 : rg l2) (rl3 : rg l3) (A : Abs h w) (e : c278_b68 l1 l2 l3 h = some o) (kb : ∀ (s_0 : Int) (s_1 : hS), o = .inl (s_0, s_1) → ∀ w', rg s_0 → Abs s_1 w' → hG d 278 68 [some (vr 395), some (vi l1), some (vi l2), some (vi s_0), z4] [] w' Q) (ke : ∀ (x_0 : hS), o = .inr (x_0) → ∀ w', ∀ (y3 : Option hO), Abs x_0 w' → hG d 278 108 [some (vr 395), some (vi l1), some (vi l2), y3, z4] [] w' Q) : hG d 278 68 [some (vr 395), some (vi l1), some (vi l2), some (vi l3), z4] [] w Q := by
  unfold c278_b68 at e
  refine hg_run 4 (pc' := 72) (ls' := [some (vr 395), some (vi l1), some (vi l2), some (vi l3), z4]) (st' := [vI (wsub l2 1), vI l3]) rfl ?_
  rcases oi e with ⟨q9, e⟩ | ⟨q9, e⟩
  · refine hg_icT (tgt := 108) rfl (by decide) rl3 (rg_sub _ _) q9 ?_
    cases e
    exact ke h rfl _ _  A
  · refine hg_icF (tgt := 108) rfl (by decide) rl3 (rg_sub _ _) q9 ?_
    refine hg_run 4 (pc' := 79) (ls' := [some (vr 395), some (vi l1), some (vi l2), some (vi l3), z4]) (st' := [vI 1, vI l3, vI 1, vR 395]) rfl ?_
    obtain ⟨v10, e10, e⟩ := ob e
    refine hg_cIp (as := [vR 395, vI 1, vI l3, vI 1]) (st' := []) rfl (fun _ _ _ _ => rfl) rfl rfl (Nat.le_of_ble_eq_true rfl) (Nat.le_of_ble_eq_true rfl) (recvV A (a := 13) (Abs_ks A (i := 23) rfl).1) (t199 (by omega) A (rgn 1 rfl) rl3 (rgn 1 rfl) e10) (fun r10 => ?_)
    refine hg_run 1 (pc' := 83) (ls' := [some (vr 395), some (vi l1), some (vi l2), some (vi l3), z4]) (st' := [vI l1, vI v10]) rfl ?_
    rcases oi e with ⟨q11, e⟩ | ⟨q11, e⟩
    · refine hg_icT (tgt := 102) rfl (by decide) r10 rl1 q11 ?_
      exact t278_j102 hd rl3 A e kb ke
    · refine hg_icF (tgt := 102) rfl (by decide) r10 rl1 q11 ?_
      refine hg_run 8 (pc' := 94) (ls' := [some (vr 395), some (vi l1), some (vi l2), some (vi l3), z4]) (st' := [vI 1, vI l3, vI 1, vR 395, vI 1, vI l3, vI 1, vR 395]) rfl ?_
      obtain ⟨v12, e12, e⟩ := ob e
      refine hg_cIp (as := [vR 395, vI 1, vI l3, vI 1]) (st' := [vI 1, vI l3, vI 1, vR 395]) rfl (fun _ _ _ _ => rfl) rfl rfl (Nat.le_of_ble_eq_true rfl) (Nat.le_of_ble_eq_true rfl) (recvV A (a := 13) (Abs_ks A (i := 23) rfl).1) (t199 (by omega) A (rgn 1 rfl) rl3 (rgn 1 rfl) e12) (fun r12 => ?_)
      refine hg_run 2 (pc' := 99) (ls' := [some (vr 395), some (vi l1), some (vi l2), some (vi l3), z4]) (st' := [vI (wsub v12 1), vI 1, vI l3, vI 1, vR 395]) rfl ?_
      obtain ⟨h13, e13, e⟩ := ob e
      refine hg_cV (as := [vR 395, vI 1, vI l3, vI 1, vI (wsub v12 1)]) (st' := []) rfl (fun _ _ _ _ => rfl) rfl rfl (Nat.le_of_ble_eq_true rfl) (Nat.le_of_ble_eq_true rfl) (recvV A (a := 13) (Abs_ks A (i := 23) rfl).1) (t201 (by omega) A (rgn 1 rfl) rl3 (rgn 1 rfl) (rg_sub _ _) e13) (fun w13 A13 => ?_)
      exact t278_j102 hd rl3 A13 e kb ke
theorem t278_l68 {d : Nat} (hd : 1 ≤ d) {l1 : Int} {l2 : Int} {z4 : Option hO} {Q : mmO → Prop} (rl1 : rg l1) (rl2 : rg l2) (n : Nat) {l3 : Int}  {h : hS} {w : mmW} {r : hS} (rl3 : rg l3) (A : Abs h w) (e : lp (fun s => c278_b68 l1 l2 s.1 s.2) n (l3, h) = some r) (ke : ∀ (x_0 : hS), r = (x_0) → ∀ w', ∀ (y3 : Option hO), Abs x_0 w' → hG d 278 108 [some (vr 395), some (vi l1), some (vi l2), y3, z4] [] w' Q) : hG d 278 68 [some (vr 395), some (vi l1), some (vi l2), some (vi l3), z4] [] w Q := by
  induction n generalizing l3 h w with
  | zero => cases e
  | succ n ih =>
    rcases lp_succ e with ⟨s1, e1, e2⟩ | e1
    · exact t278_b68 hd rl1 rl2 rl3 A e1 (fun s_0 s_1 q w1 rl3 A1 => by cases q; exact ih rl3 A1 e2) (fun x_0 q => by cases q)
    · exact t278_b68 hd rl1 rl2 rl3 A e1 (fun s_0 s_1 q => by cases q) (fun x_0 q => by cases q; exact ke _ rfl)
def c278 (l1 : Int) (h : hS) : Option (hS) :=
  (c198 1 h).bind (fun v1 =>
  (lp (fun s => c278_b8 v1 s.1 s.2) hF0 (l1, h)).bind (fun r7 =>
  (wIs r7 400 2307 769 (wsub v1 1)).bind (fun h8 =>
  (lp (fun s => c278_b68 l1 v1 s.1 s.2) hF0 (0, h8)).bind (fun r14 =>
  some r14))))
theorem t278 {d : Nat} (hd : 2 ≤ d) {l1 : Int} {h : hS} {w : mmW} {o : hS} (A : Abs h w) (rl1 : rg l1) (e : c278 l1 h = some o) : hEv d 278 [vR 395, vI l1] w (qV o) := by
  obtain ⟨d, rfl⟩ : ∃ d1, d = d1 + 1 := ⟨d - 1, by omega⟩
  have hd : 1 ≤ d := by omega
  refine hEv_start (args := [vr 395, vi l1]) (nl := 5) rfl (Nat.le_of_ble_eq_true rfl) ?_
  show hG d 278 0 [some (vr 395), some (vi l1), none, none, none] [] w _
  have kr : ∀ h1 : hS, o = h1 → ∀ w', Abs h1 w' → qV o (none, w') := fun h1 q w' A' => by cases q; exact ⟨rfl, A'⟩
  unfold c278 at e
  refine hg_run 2 (pc' := 2) (ls' := [some (vr 395), some (vi l1), none, none, none]) (st' := [vI 1, vR 395]) rfl ?_
  obtain ⟨v1, e1, e⟩ := ob e
  refine hg_cIp (as := [vR 395, vI 1]) (st' := []) rfl (fun _ _ _ _ => rfl) rfl rfl (Nat.le_of_ble_eq_true rfl) (Nat.le_of_ble_eq_true rfl) (recvV A (a := 13) (Abs_ks A (i := 23) rfl).1) (t198 (by omega) A (rgn 1 rfl) e1) (fun r1 => ?_)
  refine hg_run 3 (pc' := 8) (ls' := [some (vr 395), some (vi l1), some (vi v1), some (vi l1), none]) (st' := []) rfl ?_
  obtain ⟨r7, e7, e⟩ := ob e
  refine t278_l8 hd r1 _ rl1 A e7 ?_
  intro x7_0 qq7 w7 z7_3 z7_4 A7
  subst qq7
  refine hg_run 1 (pc' := 56) (ls' := [some (vr 395), some (vi l1), some (vi v1), z7_3, z7_4]) (st' := [vR 395]) rfl ?_
  refine gs_395_23 rfl A7 ?_
  refine hg_run 4 (pc' := 65) (ls' := [some (vr 395), some (vi l1), some (vi v1), z7_3, z7_4]) (st' := [vI (wsub v1 1), vI 769, vR 400]) rfl ?_
  obtain ⟨h8, e8, e⟩ := ob e
  refine hg_wIs rfl A7 (Abs_ks A7 (i := 28) rfl) (by decide) (rg_sub _ _) e8 (fun w8 A8 => ?_)
  refine hg_run 2 (pc' := 68) (ls' := [some (vr 395), some (vi l1), some (vi v1), some (vi 0), z7_4]) (st' := []) rfl ?_
  obtain ⟨r14, e14, e⟩ := ob e
  refine t278_l68 hd rl1 r1 _ (rgn 0 rfl) A8 e14 ?_
  intro x14_0 qq14 w14 z14_3 A14
  subst qq14
  cases e
  exact hg_retV rfl (kr _ rfl _ A14)
def c279_b3 (l1 : Int) (l3 : Int) (h : hS) (l4 : Int) : Option ((Int) ⊕ (Int)) :=
  if l4 = (-1) then
  some (.inr (l4))
  else
  if l4 = l3 then
  some (.inr (l4))
  else
  (c199 l1 l4 1 h).bind (fun v3 =>
  some (.inl (v3)))
theorem t279_b3 {d : Nat} (hd : 1 ≤ d) {l1 : Int} {l3 : Int} {l4 : Int} {z2 : Option hO} {h : hS} {w : mmW} {o : (Int) ⊕ (Int)} {Q : mmO → Prop} (rl1 : rg l1) (rl3 : rg l3) (rl4 : rg l4) (A : Abs h w) (e : c279_b3 l1 l3 h l4 = some o) (kb : ∀ (s_0 : Int), o = .inl (s_0) → rg s_0 → hG d 279 3 [some (vr 395), some (vi l1), z2, some (vi l3), some (vi s_0)] [] w Q) (ke : ∀ (x_0 : Int), o = .inr (x_0) → rg x_0 → hG d 279 28 [some (vr 395), some (vi l1), z2, some (vi l3), some (vi x_0)] [] w Q) : hG d 279 3 [some (vr 395), some (vi l1), z2, some (vi l3), some (vi l4)] [] w Q := by
  unfold c279_b3 at e
  refine hg_run 2 (pc' := 6) (ls' := [some (vr 395), some (vi l1), z2, some (vi l3), some (vi l4)]) (st' := [vI (-1), vI l4]) rfl ?_
  rcases oi e with ⟨q1, e⟩ | ⟨q1, e⟩
  · refine hg_icT (tgt := 28) rfl (by decide) rl4 (rgn (-1) rfl) q1 ?_
    cases e
    exact ke l4 rfl rl4
  · refine hg_icF (tgt := 28) rfl (by decide) rl4 (rgn (-1) rfl) q1 ?_
    refine hg_run 2 (pc' := 12) (ls' := [some (vr 395), some (vi l1), z2, some (vi l3), some (vi l4)]) (st' := [vI l3, vI l4]) rfl ?_
    rcases oi e with ⟨q2, e⟩ | ⟨q2, e⟩
    · refine hg_icT (tgt := 28) rfl (by decide) rl4 rl3 q2 ?_
      cases e
      exact ke l4 rfl rl4
    · refine hg_icF (tgt := 28) rfl (by decide) rl4 rl3 q2 ?_
      refine hg_run 4 (pc' := 20) (ls' := [some (vr 395), some (vi l1), z2, some (vi l3), some (vi l4)]) (st' := [vI 1, vI l4, vI l1, vR 395]) rfl ?_
      obtain ⟨v3, e3, e⟩ := ob e
      refine hg_cIp (as := [vR 395, vI l1, vI l4, vI 1]) (st' := []) rfl (fun _ _ _ _ => rfl) rfl rfl (Nat.le_of_ble_eq_true rfl) (Nat.le_of_ble_eq_true rfl) (recvV A (a := 13) (Abs_ks A (i := 23) rfl).1) (t199 (by omega) A rl1 rl4 (rgn 1 rfl) e3) (fun r3 => ?_)
      refine hg_run 2 (pc' := 3) (ls' := [some (vr 395), some (vi l1), z2, some (vi l3), some (vi v3)]) (st' := []) rfl ?_
      cases e
      exact kb v3 rfl r3
theorem t279_l3 {d : Nat} (hd : 1 ≤ d) {l1 : Int} {l3 : Int} {z2 : Option hO} {h : hS} {w : mmW} {Q : mmO → Prop} (rl1 : rg l1) (rl3 : rg l3) (n : Nat) {l4 : Int}  {r : Int} (rl4 : rg l4) (A : Abs h w) (e : lp (fun s => c279_b3 l1 l3 h s) n (l4) = some r) (ke : ∀ (x_0 : Int), r = (x_0) → rg x_0 → hG d 279 28 [some (vr 395), some (vi l1), z2, some (vi l3), some (vi x_0)] [] w Q) : hG d 279 3 [some (vr 395), some (vi l1), z2, some (vi l3), some (vi l4)] [] w Q := by
  induction n generalizing l4 with
  | zero => cases e
  | succ n ih =>
    rcases lp_succ e with ⟨s1, e1, e2⟩ | e1
    · exact t279_b3 hd rl1 rl3 rl4 A e1 (fun s_0 q rl4 => by cases q; exact ih rl4 e2) (fun x_0 q => by cases q)
    · exact t279_b3 hd rl1 rl3 rl4 A e1 (fun s_0 q => by cases q) (fun x_0 q => by cases q; exact ke _ rfl)
def c279 (l1 : Int) (l2 : Int) (l3 : Int) (h : hS) : Option (Int) :=
  (lp (fun s => c279_b3 l1 l3 h s) hF0 (l2)).bind (fun r4 =>
  if r4 = l3 then
  some 1
  else
  some 0)
theorem t279 {d : Nat} (hd : 2 ≤ d) {l1 : Int} {l2 : Int} {l3 : Int} {h : hS} {w : mmW} {o : Int} (A : Abs h w) (rl1 : rg l1) (rl2 : rg l2) (rl3 : rg l3) (e : c279 l1 l2 l3 h = some o) : hEv d 279 [vR 395, vI l1, vI l2, vI l3] w (qIp o w) := by
  obtain ⟨d, rfl⟩ : ∃ d1, d = d1 + 1 := ⟨d - 1, by omega⟩
  have hd : 1 ≤ d := by omega
  refine hEv_start (args := [vr 395, vi l1, vi l2, vi l3]) (nl := 5) rfl (Nat.le_of_ble_eq_true rfl) ?_
  show hG d 279 0 [some (vr 395), some (vi l1), some (vi l2), some (vi l3), none] [] w _
  have kr : ∀ v1 : Int, o = v1 → rg v1 → qIp o w (some (.int (Int32.ofInt v1)), w) := fun v1 q r => by cases q; exact ⟨rfl, r⟩
  unfold c279 at e
  refine hg_run 2 (pc' := 3) (ls' := [some (vr 395), some (vi l1), some (vi l2), some (vi l3), some (vi l2)]) (st' := []) rfl ?_
  obtain ⟨r4, e4, e⟩ := ob e
  refine t279_l3 hd rl1 rl3 _ rl2 A e4 ?_
  intro x4_0 qq4 q4_4
  subst qq4
  refine hg_run 2 (pc' := 31) (ls' := [some (vr 395), some (vi l1), some (vi l2), some (vi l3), some (vi r4)]) (st' := [vI l3, vI r4]) rfl ?_
  rcases oi e with ⟨q5, e⟩ | ⟨q5, e⟩
  · refine hg_icF (tgt := 38) rfl (by decide) q4_4 rl3 (show ¬ ¬ (r4 = l3) from fun f => f q5) ?_
    refine hg_run 2 (pc' := 39) (ls' := [some (vr 395), some (vi l1), some (vi l2), some (vi l3), some (vi r4)]) (st' := [vI 1]) rfl ?_
    cases e
    exact hg_retI rfl (by decide) (fit_B (.inr rfl)) (kr _ rfl (rgn 1 rfl))
  · refine hg_icT (tgt := 38) rfl (by decide) q4_4 rl3 (show ¬ (r4 = l3) from q5) ?_
    refine hg_run 1 (pc' := 39) (ls' := [some (vr 395), some (vi l1), some (vi l2), some (vi l3), some (vi r4)]) (st' := [vI 0]) rfl ?_
    cases e
    exact hg_retI rfl (by decide) (fit_B (.inl rfl)) (kr _ rfl (rgn 0 rfl))
def c281_b37 (l1 : Int) (l2 : Int) (l6 : Int) (l7 : Int) (l8 : Int) (l9 : Int) (h : hS) : Option ((Int × hS) ⊕ (hS)) :=
  if l6 ≤ (wadd l9 1) then
  some (.inr (h))
  else
  (c199 1 l1 (wadd (wadd (wadd l2 (wmul l8 l7)) l9) 1) h).bind (fun v5 =>
  (c201 1 l1 (wadd (wadd l2 (wmul l8 l7)) l9) v5 h).bind (fun h6 =>
  some (.inl ((wadd l9 1), h6))))
theorem t281_b37 {d : Nat} (hd : 1 ≤ d) {l1 : Int} {l2 : Int} {l6 : Int} {l7 : Int} {l8 : Int} {l9 : Int} {l3 : Int} {l4 : Int} {l5 : Int} {h : hS} {w : mmW} {o : (Int × hS) ⊕ (hS)} {Q : mmO → Prop} (rl1 : rg l1) (rl2 : rg l2) (rl6 : rg l6) (rl7 : rg l7) (rl8 : rg l8) (rl9 : rg l9) (A : Abs h w) (e : c281_b37 l1 l2 l6 l7 l8 l9 h = some o) (kb : ∀ (s_0 : Int) (s_1 : hS), o = .inl (s_0, s_1) → ∀ w', rg s_0 → Abs s_1 w' → hG d 281 37 [some (vr 395), some (vi l1), some (vi l2), some (vi l3), some (vi l4), some (vi l5), some (vi l6), some (vi l7), some (vi l8), some (vi s_0)] [] w' Q) (ke : ∀ (x_0 : hS), o = .inr (x_0) → ∀ w', ∀ (y9 : Option hO), Abs x_0 w' → hG d 281 86 [some (vr 395), some (vi l1), some (vi l2), some (vi l3), some (vi l4), some (vi l5), some (vi l6), some (vi l7), some (vi l8), y9] [] w' Q) : hG d 281 37 [some (vr 395), some (vi l1), some (vi l2), some (vi l3), some (vi l4), some (vi l5), some (vi l6), some (vi l7), some (vi l8), some (vi l9)] [] w Q := by
  unfold c281_b37 at e
  refine hg_run 4 (pc' := 43) (ls' := [some (vr 395), some (vi l1), some (vi l2), some (vi l3), some (vi l4), some (vi l5), some (vi l6), some (vi l7), some (vi l8), some (vi l9)]) (st' := [vI l6, vI (wadd l9 1)]) rfl ?_
  rcases oi e with ⟨q4, e⟩ | ⟨q4, e⟩
  · refine hg_icT (tgt := 86) rfl (by decide) (rg_add _ _) rl6 q4 ?_
    cases e
    exact ke h rfl _ _  A
  · refine hg_icF (tgt := 86) rfl (by decide) (rg_add _ _) rl6 q4 ?_
    refine hg_run 22 (pc' := 74) (ls' := [some (vr 395), some (vi l1), some (vi l2), some (vi l3), some (vi l4), some (vi l5), some (vi l6), some (vi l7), some (vi l8), some (vi l9)]) (st' := [vI (wadd (wadd (wadd l2 (wmul l8 l7)) l9) 1), vI l1, vI 1, vR 395, vI (wadd (wadd l2 (wmul l8 l7)) l9), vI l1, vI 1, vR 395]) rfl ?_
    obtain ⟨v5, e5, e⟩ := ob e
    refine hg_cIp (as := [vR 395, vI 1, vI l1, vI (wadd (wadd (wadd l2 (wmul l8 l7)) l9) 1)]) (st' := [vI (wadd (wadd l2 (wmul l8 l7)) l9), vI l1, vI 1, vR 395]) rfl (fun _ _ _ _ => rfl) rfl rfl (Nat.le_of_ble_eq_true rfl) (Nat.le_of_ble_eq_true rfl) (recvV A (a := 13) (Abs_ks A (i := 23) rfl).1) (t199 (by omega) A (rgn 1 rfl) rl1 (rg_add _ _) e5) (fun r5 => ?_)
    obtain ⟨h6, e6, e⟩ := ob e
    refine hg_cV (as := [vR 395, vI 1, vI l1, vI (wadd (wadd l2 (wmul l8 l7)) l9), vI v5]) (st' := []) rfl (fun _ _ _ _ => rfl) rfl rfl (Nat.le_of_ble_eq_true rfl) (Nat.le_of_ble_eq_true rfl) (recvV A (a := 13) (Abs_ks A (i := 23) rfl).1) (t201 (by omega) A (rgn 1 rfl) rl1 (rg_add _ _) r5 e6) (fun w6 A6 => ?_)
    refine hg_run 2 (pc' := 37) (ls' := [some (vr 395), some (vi l1), some (vi l2), some (vi l3), some (vi l4), some (vi l5), some (vi l6), some (vi l7), some (vi l8), some (vi (wadd l9 1))]) (st' := []) rfl ?_
    cases e
    exact kb (wadd l9 1) h6 rfl _ (rg_add _ _) A6
theorem t281_l37 {d : Nat} (hd : 1 ≤ d) {l1 : Int} {l2 : Int} {l6 : Int} {l7 : Int} {l8 : Int} {l3 : Int} {l4 : Int} {l5 : Int} {Q : mmO → Prop} (rl1 : rg l1) (rl2 : rg l2) (rl6 : rg l6) (rl7 : rg l7) (rl8 : rg l8) (n : Nat) {l9 : Int}  {h : hS} {w : mmW} {r : hS} (rl9 : rg l9) (A : Abs h w) (e : lp (fun s => c281_b37 l1 l2 l6 l7 l8 s.1 s.2) n (l9, h) = some r) (ke : ∀ (x_0 : hS), r = (x_0) → ∀ w', ∀ (y9 : Option hO), Abs x_0 w' → hG d 281 86 [some (vr 395), some (vi l1), some (vi l2), some (vi l3), some (vi l4), some (vi l5), some (vi l6), some (vi l7), some (vi l8), y9] [] w' Q) : hG d 281 37 [some (vr 395), some (vi l1), some (vi l2), some (vi l3), some (vi l4), some (vi l5), some (vi l6), some (vi l7), some (vi l8), some (vi l9)] [] w Q := by
  induction n generalizing l9 h w with
  | zero => cases e
  | succ n ih =>
    rcases lp_succ e with ⟨s1, e1, e2⟩ | e1
    · exact t281_b37 hd rl1 rl2 rl6 rl7 rl8 rl9 A e1 (fun s_0 s_1 q w1 rl9 A1 => by cases q; exact ih rl9 A1 e2) (fun x_0 q => by cases q)
    · exact t281_b37 hd rl1 rl2 rl6 rl7 rl8 rl9 A e1 (fun s_0 s_1 q => by cases q) (fun x_0 q => by cases q; exact ke _ rfl)
def c281_j32 (s0 : Int) (l1 : Int) (l2 : Int) (l3 : Int) (l6 : Int) (l7 : Int) (h : hS) : Option ((Int × hS) ⊕ (hS)) :=
  (lp (fun s => c281_b37 l1 l2 l6 l7 s0 s.1 s.2) hF0 (l3, h)).bind (fun r7 =>
  some (.inl ((wadd l7 1), r7)))
theorem t281_j32 {d : Nat} (hd : 1 ≤ d) {s0 : Int} {l1 : Int} {l2 : Int} {l3 : Int} {l6 : Int} {l7 : Int} {l4 : Int} {l5 : Int} {z8 : Option hO} {z9 : Option hO} {h : hS} {w : mmW} {o : (Int × hS) ⊕ (hS)} {Q : mmO → Prop} (rs0 : rg s0) (rl1 : rg l1) (rl2 : rg l2) (rl3 : rg l3) (rl6 : rg l6) (rl7 : rg l7) (A : Abs h w) (e : c281_j32 s0 l1 l2 l3 l6 l7 h = some o) (kb : ∀ (s_0 : Int) (s_1 : hS), o = .inl (s_0, s_1) → ∀ w', ∀ (y8 y9 : Option hO), rg s_0 → Abs s_1 w' → hG d 281 13 [some (vr 395), some (vi l1), some (vi l2), some (vi l3), some (vi l4), some (vi l5), some (vi l6), some (vi s_0), y8, y9] [] w' Q) (ke : ∀ (x_0 : hS), o = .inr (x_0) → ∀ w', ∀ (y7 y8 y9 : Option hO), Abs x_0 w' → hG d 281 92 [some (vr 395), some (vi l1), some (vi l2), some (vi l3), some (vi l4), some (vi l5), some (vi l6), y7, y8, y9] [] w' Q) : hG d 281 32 [some (vr 395), some (vi l1), some (vi l2), some (vi l3), some (vi l4), some (vi l5), some (vi l6), some (vi l7), z8, z9] [vI s0] w Q := by
  unfold c281_j32 at e
  refine hg_run 3 (pc' := 37) (ls' := [some (vr 395), some (vi l1), some (vi l2), some (vi l3), some (vi l4), some (vi l5), some (vi l6), some (vi l7), some (vi s0), some (vi l3)]) (st' := []) rfl ?_
  obtain ⟨r7, e7, e⟩ := ob e
  refine t281_l37 hd rl1 rl2 rl6 rl7 rs0 _ rl3 A e7 ?_
  intro x7_0 qq7 w7 z7_9 A7
  subst qq7
  refine hg_run 2 (pc' := 13) (ls' := [some (vr 395), some (vi l1), some (vi l2), some (vi l3), some (vi l4), some (vi l5), some (vi l6), some (vi (wadd l7 1)), some (vi s0), z7_9]) (st' := []) rfl ?_
  cases e
  exact kb (wadd l7 1) r7 rfl _ _ _ (rg_add _ _) A7
def c281_b13 (l1 : Int) (l2 : Int) (l3 : Int) (l5 : Int) (l6 : Int) (l7 : Int) (h : hS) : Option ((Int × hS) ⊕ (hS)) :=
  if l5 ≤ l7 then
  some (.inr (h))
  else
  if l2 = 31 then
  c281_j32 4 l1 l2 l3 l6 l7 h
  else
  c281_j32 8 l1 l2 l3 l6 l7 h
theorem t281_b13 {d : Nat} (hd : 1 ≤ d) {l1 : Int} {l2 : Int} {l3 : Int} {l5 : Int} {l6 : Int} {l7 : Int} {l4 : Int} {z8 : Option hO} {z9 : Option hO} {h : hS} {w : mmW} {o : (Int × hS) ⊕ (hS)} {Q : mmO → Prop} (rl1 : rg l1) (rl2 : rg l2) (rl3 : rg l3) (rl5 : rg l5) (rl6 : rg l6) (rl7 : rg l7) (A : Abs h w) (e : c281_b13 l1 l2 l3 l5 l6 l7 h = some o) (kb : ∀ (s_0 : Int) (s_1 : hS), o = .inl (s_0, s_1) → ∀ w', ∀ (y8 y9 : Option hO), rg s_0 → Abs s_1 w' → hG d 281 13 [some (vr 395), some (vi l1), some (vi l2), some (vi l3), some (vi l4), some (vi l5), some (vi l6), some (vi s_0), y8, y9] [] w' Q) (ke : ∀ (x_0 : hS), o = .inr (x_0) → ∀ w', ∀ (y7 y8 y9 : Option hO), Abs x_0 w' → hG d 281 92 [some (vr 395), some (vi l1), some (vi l2), some (vi l3), some (vi l4), some (vi l5), some (vi l6), y7, y8, y9] [] w' Q) : hG d 281 13 [some (vr 395), some (vi l1), some (vi l2), some (vi l3), some (vi l4), some (vi l5), some (vi l6), some (vi l7), z8, z9] [] w Q := by
  unfold c281_b13 at e
  refine hg_run 2 (pc' := 17) (ls' := [some (vr 395), some (vi l1), some (vi l2), some (vi l3), some (vi l4), some (vi l5), some (vi l6), some (vi l7), z8, z9]) (st' := [vI l5, vI l7]) rfl ?_
  rcases oi e with ⟨q2, e⟩ | ⟨q2, e⟩
  · refine hg_icT (tgt := 92) rfl (by decide) rl7 rl5 q2 ?_
    cases e
    exact ke h rfl _ _ _ _  A
  · refine hg_icF (tgt := 92) rfl (by decide) rl7 rl5 q2 ?_
    refine hg_run 2 (pc' := 23) (ls' := [some (vr 395), some (vi l1), some (vi l2), some (vi l3), some (vi l4), some (vi l5), some (vi l6), some (vi l7), z8, z9]) (st' := [vI 31, vI l2]) rfl ?_
    rcases oi e with ⟨q3, e⟩ | ⟨q3, e⟩
    · refine hg_icF (tgt := 30) rfl (by decide) rl2 (rgn 31 rfl) (show ¬ ¬ (l2 = 31) from fun f => f q3) ?_
      refine hg_run 2 (pc' := 32) (ls' := [some (vr 395), some (vi l1), some (vi l2), some (vi l3), some (vi l4), some (vi l5), some (vi l6), some (vi l7), z8, z9]) (st' := [vI 4]) rfl ?_
      exact t281_j32 hd (rgn 4 rfl) rl1 rl2 rl3 rl6 rl7 A e kb ke
    · refine hg_icT (tgt := 30) rfl (by decide) rl2 (rgn 31 rfl) (show ¬ (l2 = 31) from q3) ?_
      refine hg_run 1 (pc' := 32) (ls' := [some (vr 395), some (vi l1), some (vi l2), some (vi l3), some (vi l4), some (vi l5), some (vi l6), some (vi l7), z8, z9]) (st' := [vI 8]) rfl ?_
      exact t281_j32 hd (rgn 8 rfl) rl1 rl2 rl3 rl6 rl7 A e kb ke
theorem t281_l13 {d : Nat} (hd : 1 ≤ d) {l1 : Int} {l2 : Int} {l3 : Int} {l5 : Int} {l6 : Int} {l4 : Int} {Q : mmO → Prop} (rl1 : rg l1) (rl2 : rg l2) (rl3 : rg l3) (rl5 : rg l5) (rl6 : rg l6) (n : Nat) {l7 : Int} {z8 z9 : Option hO} {h : hS} {w : mmW} {r : hS} (rl7 : rg l7) (A : Abs h w) (e : lp (fun s => c281_b13 l1 l2 l3 l5 l6 s.1 s.2) n (l7, h) = some r) (ke : ∀ (x_0 : hS), r = (x_0) → ∀ w', ∀ (y7 y8 y9 : Option hO), Abs x_0 w' → hG d 281 92 [some (vr 395), some (vi l1), some (vi l2), some (vi l3), some (vi l4), some (vi l5), some (vi l6), y7, y8, y9] [] w' Q) : hG d 281 13 [some (vr 395), some (vi l1), some (vi l2), some (vi l3), some (vi l4), some (vi l5), some (vi l6), some (vi l7), z8, z9] [] w Q := by
  induction n generalizing l7 z8 z9 h w with
  | zero => cases e
  | succ n ih =>
    rcases lp_succ e with ⟨s1, e1, e2⟩ | e1
    · exact t281_b13 hd rl1 rl2 rl3 rl5 rl6 rl7 A e1 (fun s_0 s_1 q w1 y8 y9 rl7 A1 => by cases q; exact ih rl7 A1 e2) (fun x_0 q => by cases q)
    · exact t281_b13 hd rl1 rl2 rl3 rl5 rl6 rl7 A e1 (fun s_0 s_1 q => by cases q) (fun x_0 q => by cases q; exact ke _ rfl)
def c281 (l1 : Int) (l2 : Int) (l3 : Int) (l4 : Int) (l5 : Int) (h : hS) : Option (hS) :=
  (c199 1 l1 l4 h).bind (fun v1 =>
  (lp (fun s => c281_b13 l1 l2 l3 l5 v1 s.1 s.2) hF0 (0, h)).bind (fun r8 =>
  (c201 1 l1 l4 (wsub v1 1) r8).bind (fun h9 =>
  some h9)))
theorem t281 {d : Nat} (hd : 2 ≤ d) {l1 : Int} {l2 : Int} {l3 : Int} {l4 : Int} {l5 : Int} {h : hS} {w : mmW} {o : hS} (A : Abs h w) (rl1 : rg l1) (rl2 : rg l2) (rl3 : rg l3) (rl4 : rg l4) (rl5 : rg l5) (e : c281 l1 l2 l3 l4 l5 h = some o) : hEv d 281 [vR 395, vI l1, vI l2, vI l3, vI l4, vI l5] w (qV o) := by
  obtain ⟨d, rfl⟩ : ∃ d1, d = d1 + 1 := ⟨d - 1, by omega⟩
  have hd : 1 ≤ d := by omega
  refine hEv_start (args := [vr 395, vi l1, vi l2, vi l3, vi l4, vi l5]) (nl := 10) rfl (Nat.le_of_ble_eq_true rfl) ?_
  show hG d 281 0 [some (vr 395), some (vi l1), some (vi l2), some (vi l3), some (vi l4), some (vi l5), none, none, none, none] [] w _
  have kr : ∀ h1 : hS, o = h1 → ∀ w', Abs h1 w' → qV o (none, w') := fun h1 q w' A' => by cases q; exact ⟨rfl, A'⟩
  unfold c281 at e
  refine hg_run 4 (pc' := 5) (ls' := [some (vr 395), some (vi l1), some (vi l2), some (vi l3), some (vi l4), some (vi l5), none, none, none, none]) (st' := [vI l4, vI l1, vI 1, vR 395]) rfl ?_
  obtain ⟨v1, e1, e⟩ := ob e
  refine hg_cIp (as := [vR 395, vI 1, vI l1, vI l4]) (st' := []) rfl (fun _ _ _ _ => rfl) rfl rfl (Nat.le_of_ble_eq_true rfl) (Nat.le_of_ble_eq_true rfl) (recvV A (a := 13) (Abs_ks A (i := 23) rfl).1) (t199 (by omega) A (rgn 1 rfl) rl1 rl4 e1) (fun r1 => ?_)
  refine hg_run 3 (pc' := 13) (ls' := [some (vr 395), some (vi l1), some (vi l2), some (vi l3), some (vi l4), some (vi l5), some (vi v1), some (vi 0), none, none]) (st' := []) rfl ?_
  obtain ⟨r8, e8, e⟩ := ob e
  refine t281_l13 hd rl1 rl2 rl3 rl5 r1 _ (rgn 0 rfl) A e8 ?_
  intro x8_0 qq8 w8 z8_7 z8_8 z8_9 A8
  subst qq8
  refine hg_run 7 (pc' := 101) (ls' := [some (vr 395), some (vi l1), some (vi l2), some (vi l3), some (vi l4), some (vi l5), some (vi v1), z8_7, z8_8, z8_9]) (st' := [vI (wsub v1 1), vI l4, vI l1, vI 1, vR 395]) rfl ?_
  obtain ⟨h9, e9, e⟩ := ob e
  refine hg_cV (as := [vR 395, vI 1, vI l1, vI l4, vI (wsub v1 1)]) (st' := []) rfl (fun _ _ _ _ => rfl) rfl rfl (Nat.le_of_ble_eq_true rfl) (Nat.le_of_ble_eq_true rfl) (recvV A8 (a := 13) (Abs_ks A8 (i := 23) rfl).1) (t201 (by omega) A8 (rgn 1 rfl) rl1 rl4 (rg_sub _ _) e9) (fun w9 A9 => ?_)
  cases e
  exact hg_retV rfl (kr _ rfl _ A9)
def c280 (l1 : Int) (l2 : Int) (l3 : Int) (h : hS) : Option (Int × hS) :=
  (c256 l1 0 h).bind (fun v1 =>
  (c256 l1 1 h).bind (fun v2 =>
  if v1 = 35 then
  some (1, h)
  else
  if v1 = 34 then
  (c207 1 l2 v2 h).bind (fun v22 =>
  if v22 = (-1) then
  (c276 4 l3 (-1) h).bind (fun v31 =>
  (kB v31.1).bind (fun u32 =>
  some (v31.1, v31.2)))
  else
  (c256 l1 2 h).bind (fun v24 =>
  (c206 1 l2 v24 h).bind (fun v25 =>
  if v25 = 0 then
  (c256 l1 2 h).bind (fun v27 =>
  (c201 1 l2 (wadd 6 v22) v27 h).bind (fun h28 =>
  some (1, h28)))
  else
  (c276 3 l3 (-1) h).bind (fun v29 =>
  (kB v29.1).bind (fun u30 =>
  some (v29.1, v29.2))))))
  else
  if v1 = 33 then
  (c207 1 l2 v2 h).bind (fun v6 =>
  if v6 = (-1) then
  (c208 1 l2 v2 h).bind (fun v8 =>
  if v8 = (-1) then
  (c205 1 l2 v2 h).bind (fun v10 =>
  if v10 = (-1) then
  (c276 4 l3 (-1) h).bind (fun v12 =>
  (kB v12.1).bind (fun u13 =>
  some (v12.1, v12.2)))
  else
  (c205 1 l2 v2 h).bind (fun v14 =>
  (c281 l2 40 v14 39 2 h).bind (fun h15 =>
  some (1, h15))))
  else
  (c208 1 l2 v2 h).bind (fun v16 =>
  (c281 l2 31 v16 30 2 h).bind (fun h17 =>
  some (1, h17))))
  else
  (c207 1 l2 v2 h).bind (fun v18 =>
  (c281 l2 6 v18 5 3 h).bind (fun h19 =>
  some (1, h19))))
  else
  (c277 l1 l2 l3 h).bind (fun v20 =>
  (kB v20.1).bind (fun u21 =>
  some (v20.1, v20.2)))))
set_option maxRecDepth 100000 in
theorem t280 {d : Nat} (hd : 5 ≤ d) {l1 : Int} {l2 : Int} {l3 : Int} {h : hS} {w : mmW} {o : Int × hS} (A : Abs h w) (rl1 : rg l1) (rl2 : rg l2) (rl3 : rg l3) (e : c280 l1 l2 l3 h = some o) : hEv d 280 [vR 395, vI l1, vI l2, vI l3] w (qI o) := by
  obtain ⟨d, rfl⟩ : ∃ d1, d = d1 + 1 := ⟨d - 1, by omega⟩
  have hd : 4 ≤ d := by omega
  refine hEv_start (args := [vr 395, vi l1, vi l2, vi l3]) (nl := 7) rfl (Nat.le_of_ble_eq_true rfl) ?_
  show hG d 280 0 [some (vr 395), some (vi l1), some (vi l2), some (vi l3), none, none, none] [] w _
  have kr : ∀ (v1 : Int) (h1 : hS), o = (v1, h1) → ∀ w', rg v1 → Abs h1 w' → qI o (some (.int (Int32.ofInt v1)), w') := fun v1 h1 q w' r A' => by cases q; exact ⟨rfl, r, A'⟩
  unfold c280 at e
  refine hg_run 3 (pc' := 3) (ls' := [some (vr 395), some (vi l1), some (vi l2), some (vi l3), none, none, none]) (st' := [vI 0, vI l1, vR 395]) rfl ?_
  obtain ⟨v1, e1, e⟩ := ob e
  refine hg_cIp (as := [vR 395, vI l1, vI 0]) (st' := []) rfl (fun _ _ _ _ => rfl) rfl rfl (Nat.le_of_ble_eq_true rfl) (Nat.le_of_ble_eq_true rfl) (recvV A (a := 13) (Abs_ks A (i := 23) rfl).1) (t256 (by omega) A rl1 (rgn 0 rfl) e1) (fun r1 => ?_)
  refine hg_run 4 (pc' := 11) (ls' := [some (vr 395), some (vi l1), some (vi l2), some (vi l3), some (vi v1), none, none]) (st' := [vI 1, vI l1, vR 395]) rfl ?_
  obtain ⟨v2, e2, e⟩ := ob e
  refine hg_cIp (as := [vR 395, vI l1, vI 1]) (st' := []) rfl (fun _ _ _ _ => rfl) rfl rfl (Nat.le_of_ble_eq_true rfl) (Nat.le_of_ble_eq_true rfl) (recvV A (a := 13) (Abs_ks A (i := 23) rfl).1) (t256 (by omega) A rl1 (rgn 1 rfl) e2) (fun r2 => ?_)
  refine hg_run 3 (pc' := 20) (ls' := [some (vr 395), some (vi l1), some (vi l2), some (vi l3), some (vi v1), some (vi v2), none]) (st' := [vI 35, vI v1]) rfl ?_
  rcases oi e with ⟨q3, e⟩ | ⟨q3, e⟩
  · refine hg_icF (tgt := 25) rfl (by decide) r1 (rgn 35 rfl) (show ¬ ¬ (v1 = 35) from fun f => f q3) ?_
    refine hg_run 1 (pc' := 24) (ls' := [some (vr 395), some (vi l1), some (vi l2), some (vi l3), some (vi v1), some (vi v2), none]) (st' := [vI 1]) rfl ?_
    cases e
    exact hg_retI rfl (by decide) (fit_B (.inr rfl)) (kr _ _ rfl _ (rgn 1 rfl) A)
  · refine hg_icT (tgt := 25) rfl (by decide) r1 (rgn 35 rfl) (show ¬ (v1 = 35) from q3) ?_
    refine hg_run 2 (pc' := 29) (ls' := [some (vr 395), some (vi l1), some (vi l2), some (vi l3), some (vi v1), some (vi v2), none]) (st' := [vI 34, vI v1]) rfl ?_
    rcases oi e with ⟨q4, e⟩ | ⟨q4, e⟩
    · refine hg_icF (tgt := 98) rfl (by decide) r1 (rgn 34 rfl) (show ¬ ¬ (v1 = 34) from fun f => f q4) ?_
      refine hg_run 4 (pc' := 37) (ls' := [some (vr 395), some (vi l1), some (vi l2), some (vi l3), some (vi v1), some (vi v2), none]) (st' := [vI v2, vI l2, vI 1, vR 395]) rfl ?_
      obtain ⟨v22, e22, e⟩ := ob e
      refine hg_cIp (as := [vR 395, vI 1, vI l2, vI v2]) (st' := []) rfl (fun _ _ _ _ => rfl) rfl rfl (Nat.le_of_ble_eq_true rfl) (Nat.le_of_ble_eq_true rfl) (recvV A (a := 13) (Abs_ks A (i := 23) rfl).1) (t207 (by omega) A (rgn 1 rfl) rl2 r2 e22) (fun r22 => ?_)
      refine hg_run 3 (pc' := 45) (ls' := [some (vr 395), some (vi l1), some (vi l2), some (vi l3), some (vi v1), some (vi v2), some (vi v22)]) (st' := [vI (-1), vI v22]) rfl ?_
      rcases oi e with ⟨q23, e⟩ | ⟨q23, e⟩
      · refine hg_icF (tgt := 56) rfl (by decide) r22 (rgn (-1) rfl) (show ¬ ¬ (v22 = (-1)) from fun f => f q23) ?_
        refine hg_run 4 (pc' := 52) (ls' := [some (vr 395), some (vi l1), some (vi l2), some (vi l3), some (vi v1), some (vi v2), some (vi v22)]) (st' := [vI (-1), vI l3, vI 4, vR 395]) rfl ?_
        obtain ⟨v31, e31, e⟩ := ob e
        refine hg_cI (as := [vR 395, vI 4, vI l3, vI (-1)]) (st' := []) rfl (fun _ _ _ _ => rfl) rfl rfl (Nat.le_of_ble_eq_true rfl) (Nat.le_of_ble_eq_true rfl) (recvV A (a := 13) (Abs_ks A (i := 23) rfl).1) (t276 (by omega) A (rgn 4 rfl) rl3 (rgn (-1) rfl) e31) (fun w31 r31 A31 => ?_)
        obtain ⟨u32, e32, e⟩ := ob e
        cases e
        exact hg_retI rfl (by decide) (fit_B (kB_e e32)) (kr _ _ rfl _ r31 A31)
      · refine hg_icT (tgt := 56) rfl (by decide) r22 (rgn (-1) rfl) (show ¬ (v22 = (-1)) from q23) ?_
        refine hg_run 6 (pc' := 62) (ls' := [some (vr 395), some (vi l1), some (vi l2), some (vi l3), some (vi v1), some (vi v2), some (vi v22)]) (st' := [vI 2, vI l1, vR 395, vI l2, vI 1, vR 395]) rfl ?_
        obtain ⟨v24, e24, e⟩ := ob e
        refine hg_cIp (as := [vR 395, vI l1, vI 2]) (st' := [vI l2, vI 1, vR 395]) rfl (fun _ _ _ _ => rfl) rfl rfl (Nat.le_of_ble_eq_true rfl) (Nat.le_of_ble_eq_true rfl) (recvV A (a := 13) (Abs_ks A (i := 23) rfl).1) (t256 (by omega) A rl1 (rgn 2 rfl) e24) (fun r24 => ?_)
        obtain ⟨v25, e25, e⟩ := ob e
        refine hg_cIp (as := [vR 395, vI 1, vI l2, vI v24]) (st' := []) rfl (fun _ _ _ _ => rfl) rfl rfl (Nat.le_of_ble_eq_true rfl) (Nat.le_of_ble_eq_true rfl) (recvV A (a := 13) (Abs_ks A (i := 23) rfl).1) (t206 (by omega) A (rgn 1 rfl) rl2 r24 e25) (fun r25 => ?_)
        rcases oi e with ⟨q26, e⟩ | ⟨q26, e⟩
        · refine hg_ifT (tgt := 79) rfl (by decide) r25 q26 ?_
          refine hg_run 9 (pc' := 90) (ls' := [some (vr 395), some (vi l1), some (vi l2), some (vi l3), some (vi v1), some (vi v2), some (vi v22)]) (st' := [vI 2, vI l1, vR 395, vI (wadd 6 v22), vI l2, vI 1, vR 395]) rfl ?_
          obtain ⟨v27, e27, e⟩ := ob e
          refine hg_cIp (as := [vR 395, vI l1, vI 2]) (st' := [vI (wadd 6 v22), vI l2, vI 1, vR 395]) rfl (fun _ _ _ _ => rfl) rfl rfl (Nat.le_of_ble_eq_true rfl) (Nat.le_of_ble_eq_true rfl) (recvV A (a := 13) (Abs_ks A (i := 23) rfl).1) (t256 (by omega) A rl1 (rgn 2 rfl) e27) (fun r27 => ?_)
          obtain ⟨h28, e28, e⟩ := ob e
          refine hg_cV (as := [vR 395, vI 1, vI l2, vI (wadd 6 v22), vI v27]) (st' := []) rfl (fun _ _ _ _ => rfl) rfl rfl (Nat.le_of_ble_eq_true rfl) (Nat.le_of_ble_eq_true rfl) (recvV A (a := 13) (Abs_ks A (i := 23) rfl).1) (t201 (by omega) A (rgn 1 rfl) rl2 (rg_add _ _) r27 e28) (fun w28 A28 => ?_)
          refine hg_run 1 (pc' := 97) (ls' := [some (vr 395), some (vi l1), some (vi l2), some (vi l3), some (vi v1), some (vi v2), some (vi v22)]) (st' := [vI 1]) rfl ?_
          cases e
          exact hg_retI rfl (by decide) (fit_B (.inr rfl)) (kr _ _ rfl _ (rgn 1 rfl) A28)
        · refine hg_ifF (tgt := 79) rfl (by decide) r25 q26 ?_
          refine hg_run 4 (pc' := 75) (ls' := [some (vr 395), some (vi l1), some (vi l2), some (vi l3), some (vi v1), some (vi v2), some (vi v22)]) (st' := [vI (-1), vI l3, vI 3, vR 395]) rfl ?_
          obtain ⟨v29, e29, e⟩ := ob e
          refine hg_cI (as := [vR 395, vI 3, vI l3, vI (-1)]) (st' := []) rfl (fun _ _ _ _ => rfl) rfl rfl (Nat.le_of_ble_eq_true rfl) (Nat.le_of_ble_eq_true rfl) (recvV A (a := 13) (Abs_ks A (i := 23) rfl).1) (t276 (by omega) A (rgn 3 rfl) rl3 (rgn (-1) rfl) e29) (fun w29 r29 A29 => ?_)
          obtain ⟨u30, e30, e⟩ := ob e
          cases e
          exact hg_retI rfl (by decide) (fit_B (kB_e e30)) (kr _ _ rfl _ r29 A29)
    · refine hg_icT (tgt := 98) rfl (by decide) r1 (rgn 34 rfl) (show ¬ (v1 = 34) from q4) ?_
      refine hg_run 2 (pc' := 102) (ls' := [some (vr 395), some (vi l1), some (vi l2), some (vi l3), some (vi v1), some (vi v2), none]) (st' := [vI 33, vI v1]) rfl ?_
      rcases oi e with ⟨q5, e⟩ | ⟨q5, e⟩
      · refine hg_icT (tgt := 113) rfl (by decide) r1 (rgn 33 rfl) q5 ?_
        refine hg_run 4 (pc' := 118) (ls' := [some (vr 395), some (vi l1), some (vi l2), some (vi l3), some (vi v1), some (vi v2), none]) (st' := [vI v2, vI l2, vI 1, vR 395]) rfl ?_
        obtain ⟨v6, e6, e⟩ := ob e
        refine hg_cIp (as := [vR 395, vI 1, vI l2, vI v2]) (st' := []) rfl (fun _ _ _ _ => rfl) rfl rfl (Nat.le_of_ble_eq_true rfl) (Nat.le_of_ble_eq_true rfl) (recvV A (a := 13) (Abs_ks A (i := 23) rfl).1) (t207 (by omega) A (rgn 1 rfl) rl2 r2 e6) (fun r6 => ?_)
        refine hg_run 1 (pc' := 122) (ls' := [some (vr 395), some (vi l1), some (vi l2), some (vi l3), some (vi v1), some (vi v2), none]) (st' := [vI (-1), vI v6]) rfl ?_
        rcases oi e with ⟨q7, e⟩ | ⟨q7, e⟩
        · refine hg_icT (tgt := 145) rfl (by decide) r6 (rgn (-1) rfl) q7 ?_
          refine hg_run 4 (pc' := 150) (ls' := [some (vr 395), some (vi l1), some (vi l2), some (vi l3), some (vi v1), some (vi v2), none]) (st' := [vI v2, vI l2, vI 1, vR 395]) rfl ?_
          obtain ⟨v8, e8, e⟩ := ob e
          refine hg_cIp (as := [vR 395, vI 1, vI l2, vI v2]) (st' := []) rfl (fun _ _ _ _ => rfl) rfl rfl (Nat.le_of_ble_eq_true rfl) (Nat.le_of_ble_eq_true rfl) (recvV A (a := 13) (Abs_ks A (i := 23) rfl).1) (t208 (by omega) A (rgn 1 rfl) rl2 r2 e8) (fun r8 => ?_)
          refine hg_run 1 (pc' := 154) (ls' := [some (vr 395), some (vi l1), some (vi l2), some (vi l3), some (vi v1), some (vi v2), none]) (st' := [vI (-1), vI v8]) rfl ?_
          rcases oi e with ⟨q9, e⟩ | ⟨q9, e⟩
          · refine hg_icT (tgt := 178) rfl (by decide) r8 (rgn (-1) rfl) q9 ?_
            refine hg_run 4 (pc' := 183) (ls' := [some (vr 395), some (vi l1), some (vi l2), some (vi l3), some (vi v1), some (vi v2), none]) (st' := [vI v2, vI l2, vI 1, vR 395]) rfl ?_
            obtain ⟨v10, e10, e⟩ := ob e
            refine hg_cIp (as := [vR 395, vI 1, vI l2, vI v2]) (st' := []) rfl (fun _ _ _ _ => rfl) rfl rfl (Nat.le_of_ble_eq_true rfl) (Nat.le_of_ble_eq_true rfl) (recvV A (a := 13) (Abs_ks A (i := 23) rfl).1) (t205 (by omega) A (rgn 1 rfl) rl2 r2 e10) (fun r10 => ?_)
            refine hg_run 1 (pc' := 187) (ls' := [some (vr 395), some (vi l1), some (vi l2), some (vi l3), some (vi v1), some (vi v2), none]) (st' := [vI (-1), vI v10]) rfl ?_
            rcases oi e with ⟨q11, e⟩ | ⟨q11, e⟩
            · refine hg_icT (tgt := 211) rfl (by decide) r10 (rgn (-1) rfl) q11 ?_
              refine hg_run 4 (pc' := 215) (ls' := [some (vr 395), some (vi l1), some (vi l2), some (vi l3), some (vi v1), some (vi v2), none]) (st' := [vI (-1), vI l3, vI 4, vR 395]) rfl ?_
              obtain ⟨v12, e12, e⟩ := ob e
              refine hg_cI (as := [vR 395, vI 4, vI l3, vI (-1)]) (st' := []) rfl (fun _ _ _ _ => rfl) rfl rfl (Nat.le_of_ble_eq_true rfl) (Nat.le_of_ble_eq_true rfl) (recvV A (a := 13) (Abs_ks A (i := 23) rfl).1) (t276 (by omega) A (rgn 4 rfl) rl3 (rgn (-1) rfl) e12) (fun w12 r12 A12 => ?_)
              obtain ⟨u13, e13, e⟩ := ob e
              cases e
              exact hg_retI rfl (by decide) (fit_B (kB_e e13)) (kr _ _ rfl _ r12 A12)
            · refine hg_icF (tgt := 211) rfl (by decide) r10 (rgn (-1) rfl) q11 ?_
              refine hg_run 7 (pc' := 199) (ls' := [some (vr 395), some (vi l1), some (vi l2), some (vi l3), some (vi v1), some (vi v2), none]) (st' := [vI v2, vI l2, vI 1, vR 395, vI 40, vI l2, vR 395]) rfl ?_
              obtain ⟨v14, e14, e⟩ := ob e
              refine hg_cIp (as := [vR 395, vI 1, vI l2, vI v2]) (st' := [vI 40, vI l2, vR 395]) rfl (fun _ _ _ _ => rfl) rfl rfl (Nat.le_of_ble_eq_true rfl) (Nat.le_of_ble_eq_true rfl) (recvV A (a := 13) (Abs_ks A (i := 23) rfl).1) (t205 (by omega) A (rgn 1 rfl) rl2 r2 e14) (fun r14 => ?_)
              refine hg_run 2 (pc' := 205) (ls' := [some (vr 395), some (vi l1), some (vi l2), some (vi l3), some (vi v1), some (vi v2), none]) (st' := [vI 2, vI 39, vI v14, vI 40, vI l2, vR 395]) rfl ?_
              obtain ⟨h15, e15, e⟩ := ob e
              refine hg_cV (as := [vR 395, vI l2, vI 40, vI v14, vI 39, vI 2]) (st' := []) rfl (fun _ _ _ _ => rfl) rfl rfl (Nat.le_of_ble_eq_true rfl) (Nat.le_of_ble_eq_true rfl) (recvV A (a := 13) (Abs_ks A (i := 23) rfl).1) (t281 (by omega) A rl2 (rgn 40 rfl) r14 (rgn 39 rfl) (rgn 2 rfl) e15) (fun w15 A15 => ?_)
              refine hg_run 2 (pc' := 220) (ls' := [some (vr 395), some (vi l1), some (vi l2), some (vi l3), some (vi v1), some (vi v2), none]) (st' := [vI 1]) rfl ?_
              cases e
              exact hg_retI rfl (by decide) (fit_B (.inr rfl)) (kr _ _ rfl _ (rgn 1 rfl) A15)
          · refine hg_icF (tgt := 178) rfl (by decide) r8 (rgn (-1) rfl) q9 ?_
            refine hg_run 7 (pc' := 166) (ls' := [some (vr 395), some (vi l1), some (vi l2), some (vi l3), some (vi v1), some (vi v2), none]) (st' := [vI v2, vI l2, vI 1, vR 395, vI 31, vI l2, vR 395]) rfl ?_
            obtain ⟨v16, e16, e⟩ := ob e
            refine hg_cIp (as := [vR 395, vI 1, vI l2, vI v2]) (st' := [vI 31, vI l2, vR 395]) rfl (fun _ _ _ _ => rfl) rfl rfl (Nat.le_of_ble_eq_true rfl) (Nat.le_of_ble_eq_true rfl) (recvV A (a := 13) (Abs_ks A (i := 23) rfl).1) (t208 (by omega) A (rgn 1 rfl) rl2 r2 e16) (fun r16 => ?_)
            refine hg_run 2 (pc' := 172) (ls' := [some (vr 395), some (vi l1), some (vi l2), some (vi l3), some (vi v1), some (vi v2), none]) (st' := [vI 2, vI 30, vI v16, vI 31, vI l2, vR 395]) rfl ?_
            obtain ⟨h17, e17, e⟩ := ob e
            refine hg_cV (as := [vR 395, vI l2, vI 31, vI v16, vI 30, vI 2]) (st' := []) rfl (fun _ _ _ _ => rfl) rfl rfl (Nat.le_of_ble_eq_true rfl) (Nat.le_of_ble_eq_true rfl) (recvV A (a := 13) (Abs_ks A (i := 23) rfl).1) (t281 (by omega) A rl2 (rgn 31 rfl) r16 (rgn 30 rfl) (rgn 2 rfl) e17) (fun w17 A17 => ?_)
            refine hg_run 2 (pc' := 220) (ls' := [some (vr 395), some (vi l1), some (vi l2), some (vi l3), some (vi v1), some (vi v2), none]) (st' := [vI 1]) rfl ?_
            cases e
            exact hg_retI rfl (by decide) (fit_B (.inr rfl)) (kr _ _ rfl _ (rgn 1 rfl) A17)
        · refine hg_icF (tgt := 145) rfl (by decide) r6 (rgn (-1) rfl) q7 ?_
          refine hg_run 7 (pc' := 134) (ls' := [some (vr 395), some (vi l1), some (vi l2), some (vi l3), some (vi v1), some (vi v2), none]) (st' := [vI v2, vI l2, vI 1, vR 395, vI 6, vI l2, vR 395]) rfl ?_
          obtain ⟨v18, e18, e⟩ := ob e
          refine hg_cIp (as := [vR 395, vI 1, vI l2, vI v2]) (st' := [vI 6, vI l2, vR 395]) rfl (fun _ _ _ _ => rfl) rfl rfl (Nat.le_of_ble_eq_true rfl) (Nat.le_of_ble_eq_true rfl) (recvV A (a := 13) (Abs_ks A (i := 23) rfl).1) (t207 (by omega) A (rgn 1 rfl) rl2 r2 e18) (fun r18 => ?_)
          refine hg_run 2 (pc' := 139) (ls' := [some (vr 395), some (vi l1), some (vi l2), some (vi l3), some (vi v1), some (vi v2), none]) (st' := [vI 3, vI 5, vI v18, vI 6, vI l2, vR 395]) rfl ?_
          obtain ⟨h19, e19, e⟩ := ob e
          refine hg_cV (as := [vR 395, vI l2, vI 6, vI v18, vI 5, vI 3]) (st' := []) rfl (fun _ _ _ _ => rfl) rfl rfl (Nat.le_of_ble_eq_true rfl) (Nat.le_of_ble_eq_true rfl) (recvV A (a := 13) (Abs_ks A (i := 23) rfl).1) (t281 (by omega) A rl2 (rgn 6 rfl) r18 (rgn 5 rfl) (rgn 3 rfl) e19) (fun w19 A19 => ?_)
          refine hg_run 2 (pc' := 220) (ls' := [some (vr 395), some (vi l1), some (vi l2), some (vi l3), some (vi v1), some (vi v2), none]) (st' := [vI 1]) rfl ?_
          cases e
          exact hg_retI rfl (by decide) (fit_B (.inr rfl)) (kr _ _ rfl _ (rgn 1 rfl) A19)
      · refine hg_icF (tgt := 113) rfl (by decide) r1 (rgn 33 rfl) q5 ?_
        refine hg_run 4 (pc' := 109) (ls' := [some (vr 395), some (vi l1), some (vi l2), some (vi l3), some (vi v1), some (vi v2), none]) (st' := [vI l3, vI l2, vI l1, vR 395]) rfl ?_
        obtain ⟨v20, e20, e⟩ := ob e
        refine hg_cI (as := [vR 395, vI l1, vI l2, vI l3]) (st' := []) rfl (fun _ _ _ _ => rfl) rfl rfl (Nat.le_of_ble_eq_true rfl) (Nat.le_of_ble_eq_true rfl) (recvV A (a := 13) (Abs_ks A (i := 23) rfl).1) (t277 (by omega) A rl1 rl2 rl3 e20) (fun w20 r20 A20 => ?_)
        obtain ⟨u21, e21, e⟩ := ob e
        cases e
        exact hg_retI rfl (by decide) (fit_B (kB_e e21)) (kr _ _ rfl _ r20 A20)
def c275_b379 (l2 : Int) (l5 : Int) (l6 : Int) (h : hS) : Option ((Int × hS) ⊕ ((hS) ⊕ (Int × hS))) :=
  if l6 = (-1) then
  some (.inr (.inl (h)))
  else
  (c280 l6 l5 l2 h).bind (fun v12 =>
  if v12.1 = 0 then
  some (.inr (.inr (0, v12.2)))
  else
  (c257 l6 4 v12.2).bind (fun v14 =>
  some (.inl (v14, v12.2))))
set_option maxRecDepth 100000 in
theorem t275_b379 {d : Nat} (hd : 5 ≤ d) {l2 : Int} {l5 : Int} {l6 : Int} {z1 : Option hO} {z3 : Option hO} {z4 : Option hO} {z7 : Option hO} {h : hS} {w : mmW} {o : (Int × hS) ⊕ ((hS) ⊕ (Int × hS))} {Q : mmO → Prop} (rl2 : rg l2) (rl5 : rg l5) (rl6 : rg l6) (A : Abs h w) (e : c275_b379 l2 l5 l6 h = some o) (kb : ∀ (s_0 : Int) (s_1 : hS), o = .inl (s_0, s_1) → ∀ w', rg s_0 → Abs s_1 w' → hG d 275 379 [some (vr 395), z1, some (vi l2), z3, z4, some (vi l5), some (vi s_0), z7] [] w' Q) (ke : ∀ (x_0 : hS), o = .inr (.inl (x_0)) → ∀ w', ∀ (y6 : Option hO), Abs x_0 w' → hG d 275 411 [some (vr 395), z1, some (vi l2), z3, z4, some (vi l5), y6, z7] [] w' Q) (kr : ∀ (v1 : Int) (h1 : hS), o = .inr (.inr (v1, h1)) → ∀ w', rg v1 → Abs h1 w' → Q (some (.int (Int32.ofInt v1)), w')) : hG d 275 379 [some (vr 395), z1, some (vi l2), z3, z4, some (vi l5), some (vi l6), z7] [] w Q := by
  unfold c275_b379 at e
  refine hg_run 2 (pc' := 382) (ls' := [some (vr 395), z1, some (vi l2), z3, z4, some (vi l5), some (vi l6), z7]) (st' := [vI (-1), vI l6]) rfl ?_
  rcases oi e with ⟨q11, e⟩ | ⟨q11, e⟩
  · refine hg_icT (tgt := 411) rfl (by decide) rl6 (rgn (-1) rfl) q11 ?_
    cases e
    exact ke h rfl _ _  A
  · refine hg_icF (tgt := 411) rfl (by decide) rl6 (rgn (-1) rfl) q11 ?_
    refine hg_run 4 (pc' := 391) (ls' := [some (vr 395), z1, some (vi l2), z3, z4, some (vi l5), some (vi l6), z7]) (st' := [vI l2, vI l5, vI l6, vR 395]) rfl ?_
    obtain ⟨v12, e12, e⟩ := ob e
    refine hg_cI (as := [vR 395, vI l6, vI l5, vI l2]) (st' := []) rfl (fun _ _ _ _ => rfl) rfl rfl (Nat.le_of_ble_eq_true rfl) (Nat.le_of_ble_eq_true rfl) (recvV A (a := 13) (Abs_ks A (i := 23) rfl).1) (t280 (by omega) A rl6 rl5 rl2 e12) (fun w12 r12 A12 => ?_)
    rcases oi e with ⟨q13, e⟩ | ⟨q13, e⟩
    · refine hg_ifF (tgt := 399) rfl (by decide) r12 (show ¬ ¬ (v12.1 = 0) from fun f => f q13) ?_
      refine hg_run 1 (pc' := 398) (ls' := [some (vr 395), z1, some (vi l2), z3, z4, some (vi l5), some (vi l6), z7]) (st' := [vI 0]) rfl ?_
      cases e
      exact hg_retI rfl (by decide) (fit_B (.inl rfl)) (kr _ _ rfl _ (rgn 0 rfl) A12)
    · refine hg_ifT (tgt := 399) rfl (by decide) r12 (show ¬ (v12.1 = 0) from q13) ?_
      refine hg_run 3 (pc' := 403) (ls' := [some (vr 395), z1, some (vi l2), z3, z4, some (vi l5), some (vi l6), z7]) (st' := [vI 4, vI l6, vR 395]) rfl ?_
      obtain ⟨v14, e14, e⟩ := ob e
      refine hg_cIp (as := [vR 395, vI l6, vI 4]) (st' := []) rfl (fun _ _ _ _ => rfl) rfl rfl (Nat.le_of_ble_eq_true rfl) (Nat.le_of_ble_eq_true rfl) (recvV A12 (a := 13) (Abs_ks A12 (i := 23) rfl).1) (t257 (by omega) A12 rl6 (rgn 4 rfl) e14) (fun r14 => ?_)
      refine hg_run 2 (pc' := 379) (ls' := [some (vr 395), z1, some (vi l2), z3, z4, some (vi l5), some (vi v14), z7]) (st' := []) rfl ?_
      cases e
      exact kb v14 v12.2 rfl _ r14 A12
set_option maxRecDepth 100000 in
theorem t275_l379 {d : Nat} (hd : 5 ≤ d) {l2 : Int} {l5 : Int} {z1 : Option hO} {z3 : Option hO} {z4 : Option hO} {z7 : Option hO} {Q : mmO → Prop} (rl2 : rg l2) (rl5 : rg l5) (n : Nat) {l6 : Int}  {h : hS} {w : mmW} {r : (hS) ⊕ (Int × hS)} (rl6 : rg l6) (A : Abs h w) (e : lp (fun s => c275_b379 l2 l5 s.1 s.2) n (l6, h) = some r) (ke : ∀ (x_0 : hS), r = .inl (x_0) → ∀ w', ∀ (y6 : Option hO), Abs x_0 w' → hG d 275 411 [some (vr 395), z1, some (vi l2), z3, z4, some (vi l5), y6, z7] [] w' Q) (kr : ∀ (v1 : Int) (h1 : hS), r = .inr (v1, h1) → ∀ w', rg v1 → Abs h1 w' → Q (some (.int (Int32.ofInt v1)), w')) : hG d 275 379 [some (vr 395), z1, some (vi l2), z3, z4, some (vi l5), some (vi l6), z7] [] w Q := by
  induction n generalizing l6 h w with
  | zero => cases e
  | succ n ih =>
    rcases lp_succ e with ⟨s1, e1, e2⟩ | e1
    · exact t275_b379 hd rl2 rl5 rl6 A e1 (fun s_0 s_1 q w1 rl6 A1 => by cases q; exact ih rl6 A1 e2) (fun x_0 q => by cases q) (fun v0 h0 q => by cases q)
    · exact t275_b379 hd rl2 rl5 rl6 A e1 (fun s_0 s_1 q => by cases q) (fun x_0 q => by cases q; exact ke _ rfl) (fun v0 h0 q => by cases q; exact kr _ _ rfl)
def c275_j359 (l5 : Int) (l6 : Int) (h : hS) : Option (Int × hS) :=
  (c201 1 l5 1 l6 h).bind (fun h23 =>
  some (1, h23))
set_option maxRecDepth 100000 in
theorem t275_j359 {d : Nat} (hd : 5 ≤ d) {l5 : Int} {l6 : Int} {z1 : Option hO} {z2 : Option hO} {z3 : Option hO} {z4 : Option hO} {z7 : Option hO} {h : hS} {w : mmW} {o : Int × hS} {Q : mmO → Prop} (rl5 : rg l5) (rl6 : rg l6) (A : Abs h w) (e : c275_j359 l5 l6 h = some o) (kr : ∀ (v1 : Int) (h1 : hS), o = (v1, h1) → ∀ w', rg v1 → Abs h1 w' → Q (some (.int (Int32.ofInt v1)), w')) : hG d 275 359 [some (vr 395), z1, z2, z3, z4, some (vi l5), some (vi l6), z7] [] w Q := by
  unfold c275_j359 at e
  refine hg_run 5 (pc' := 366) (ls' := [some (vr 395), z1, z2, z3, z4, some (vi l5), some (vi l6), z7]) (st' := [vI l6, vI 1, vI l5, vI 1, vR 395]) rfl ?_
  obtain ⟨h23, e23, e⟩ := ob e
  refine hg_cV (as := [vR 395, vI 1, vI l5, vI 1, vI l6]) (st' := []) rfl (fun _ _ _ _ => rfl) rfl rfl (Nat.le_of_ble_eq_true rfl) (Nat.le_of_ble_eq_true rfl) (recvV A (a := 13) (Abs_ks A (i := 23) rfl).1) (t201 (by omega) A (rgn 1 rfl) rl5 (rgn 1 rfl) rl6 e23) (fun w23 A23 => ?_)
  refine hg_run 1 (pc' := 370) (ls' := [some (vr 395), z1, z2, z3, z4, some (vi l5), some (vi l6), z7]) (st' := [vI 1]) rfl ?_
  cases e
  exact hg_retI rfl (by decide) (fit_B (.inr rfl)) (kr _ _ rfl _ (rgn 1 rfl) A23)
def c275_j333 (l2 : Int) (l5 : Int) (l6 : Int) (h : hS) : Option (Int × hS) :=
  if l6 = (-1) then
  c275_j359 l5 l6 h
  else
  (c279 1 l6 l5 h).bind (fun v24 =>
  if v24 = 0 then
  c275_j359 l5 l6 h
  else
  (c276 5 l2 (-1) h).bind (fun v26 =>
  (kB v26.1).bind (fun u27 =>
  some (v26.1, v26.2))))
set_option maxRecDepth 100000 in
theorem t275_j333 {d : Nat} (hd : 5 ≤ d) {l2 : Int} {l5 : Int} {l6 : Int} {z1 : Option hO} {z3 : Option hO} {z4 : Option hO} {z7 : Option hO} {h : hS} {w : mmW} {o : Int × hS} {Q : mmO → Prop} (rl2 : rg l2) (rl5 : rg l5) (rl6 : rg l6) (A : Abs h w) (e : c275_j333 l2 l5 l6 h = some o) (kr : ∀ (v1 : Int) (h1 : hS), o = (v1, h1) → ∀ w', rg v1 → Abs h1 w' → Q (some (.int (Int32.ofInt v1)), w')) : hG d 275 333 [some (vr 395), z1, some (vi l2), z3, z4, some (vi l5), some (vi l6), z7] [] w Q := by
  unfold c275_j333 at e
  refine hg_run 2 (pc' := 336) (ls' := [some (vr 395), z1, some (vi l2), z3, z4, some (vi l5), some (vi l6), z7]) (st' := [vI (-1), vI l6]) rfl ?_
  rcases oi e with ⟨q22, e⟩ | ⟨q22, e⟩
  · refine hg_icT (tgt := 359) rfl (by decide) rl6 (rgn (-1) rfl) q22 ?_
    exact t275_j359 hd rl5 rl6 A e kr
  · refine hg_icF (tgt := 359) rfl (by decide) rl6 (rgn (-1) rfl) q22 ?_
    refine hg_run 4 (pc' := 345) (ls' := [some (vr 395), z1, some (vi l2), z3, z4, some (vi l5), some (vi l6), z7]) (st' := [vI l5, vI l6, vI 1, vR 395]) rfl ?_
    obtain ⟨v24, e24, e⟩ := ob e
    refine hg_cIp (as := [vR 395, vI 1, vI l6, vI l5]) (st' := []) rfl (fun _ _ _ _ => rfl) rfl rfl (Nat.le_of_ble_eq_true rfl) (Nat.le_of_ble_eq_true rfl) (recvV A (a := 13) (Abs_ks A (i := 23) rfl).1) (t279 (by omega) A (rgn 1 rfl) rl6 rl5 e24) (fun r24 => ?_)
    rcases oi e with ⟨q25, e⟩ | ⟨q25, e⟩
    · refine hg_ifT (tgt := 359) rfl (by decide) r24 q25 ?_
      exact t275_j359 hd rl5 rl6 A e kr
    · refine hg_ifF (tgt := 359) rfl (by decide) r24 q25 ?_
      refine hg_run 4 (pc' := 355) (ls' := [some (vr 395), z1, some (vi l2), z3, z4, some (vi l5), some (vi l6), z7]) (st' := [vI (-1), vI l2, vI 5, vR 395]) rfl ?_
      obtain ⟨v26, e26, e⟩ := ob e
      refine hg_cI (as := [vR 395, vI 5, vI l2, vI (-1)]) (st' := []) rfl (fun _ _ _ _ => rfl) rfl rfl (Nat.le_of_ble_eq_true rfl) (Nat.le_of_ble_eq_true rfl) (recvV A (a := 13) (Abs_ks A (i := 23) rfl).1) (t276 (by omega) A (rgn 5 rfl) rl2 (rgn (-1) rfl) e26) (fun w26 r26 A26 => ?_)
      obtain ⟨u27, e27, e⟩ := ob e
      cases e
      exact hg_retI rfl (by decide) (fit_B (kB_e e27)) (kr _ _ rfl _ r26 A26)
def c275_j307 (s0 : Int) (l1 : Int) (l2 : Int) (l5 : Int) (h : hS) : Option (Int × hS) :=
  (c256 l1 2 h).bind (fun v20 =>
  if v20 = (-1) then
  c275_j333 l2 l5 s0 h
  else
  if s0 = (-1) then
  (c276 1 l2 (-1) h).bind (fun v29 =>
  (kB v29.1).bind (fun u30 =>
  some (v29.1, v29.2)))
  else
  c275_j333 l2 l5 s0 h)
set_option maxRecDepth 100000 in
theorem t275_j307 {d : Nat} (hd : 5 ≤ d) {s0 : Int} {l1 : Int} {l2 : Int} {l5 : Int} {z3 : Option hO} {z4 : Option hO} {z6 : Option hO} {z7 : Option hO} {h : hS} {w : mmW} {o : Int × hS} {Q : mmO → Prop} (rs0 : rg s0) (rl1 : rg l1) (rl2 : rg l2) (rl5 : rg l5) (A : Abs h w) (e : c275_j307 s0 l1 l2 l5 h = some o) (kr : ∀ (v1 : Int) (h1 : hS), o = (v1, h1) → ∀ w', rg v1 → Abs h1 w' → Q (some (.int (Int32.ofInt v1)), w')) : hG d 275 307 [some (vr 395), some (vi l1), some (vi l2), z3, z4, some (vi l5), z6, z7] [vI s0] w Q := by
  unfold c275_j307 at e
  refine hg_run 4 (pc' := 312) (ls' := [some (vr 395), some (vi l1), some (vi l2), z3, z4, some (vi l5), some (vi s0), z7]) (st' := [vI 2, vI l1, vR 395]) rfl ?_
  obtain ⟨v20, e20, e⟩ := ob e
  refine hg_cIp (as := [vR 395, vI l1, vI 2]) (st' := []) rfl (fun _ _ _ _ => rfl) rfl rfl (Nat.le_of_ble_eq_true rfl) (Nat.le_of_ble_eq_true rfl) (recvV A (a := 13) (Abs_ks A (i := 23) rfl).1) (t256 (by omega) A rl1 (rgn 2 rfl) e20) (fun r20 => ?_)
  refine hg_run 1 (pc' := 316) (ls' := [some (vr 395), some (vi l1), some (vi l2), z3, z4, some (vi l5), some (vi s0), z7]) (st' := [vI (-1), vI v20]) rfl ?_
  rcases oi e with ⟨q21, e⟩ | ⟨q21, e⟩
  · refine hg_icT (tgt := 333) rfl (by decide) r20 (rgn (-1) rfl) q21 ?_
    exact t275_j333 hd rl2 rl5 rs0 A e kr
  · refine hg_icF (tgt := 333) rfl (by decide) r20 (rgn (-1) rfl) q21 ?_
    refine hg_run 2 (pc' := 322) (ls' := [some (vr 395), some (vi l1), some (vi l2), z3, z4, some (vi l5), some (vi s0), z7]) (st' := [vI (-1), vI s0]) rfl ?_
    rcases oi e with ⟨q28, e⟩ | ⟨q28, e⟩
    · refine hg_icF (tgt := 333) rfl (by decide) rs0 (rgn (-1) rfl) (show ¬ ¬ (s0 = (-1)) from fun f => f q28) ?_
      refine hg_run 4 (pc' := 329) (ls' := [some (vr 395), some (vi l1), some (vi l2), z3, z4, some (vi l5), some (vi s0), z7]) (st' := [vI (-1), vI l2, vI 1, vR 395]) rfl ?_
      obtain ⟨v29, e29, e⟩ := ob e
      refine hg_cI (as := [vR 395, vI 1, vI l2, vI (-1)]) (st' := []) rfl (fun _ _ _ _ => rfl) rfl rfl (Nat.le_of_ble_eq_true rfl) (Nat.le_of_ble_eq_true rfl) (recvV A (a := 13) (Abs_ks A (i := 23) rfl).1) (t276 (by omega) A (rgn 1 rfl) rl2 (rgn (-1) rfl) e29) (fun w29 r29 A29 => ?_)
      obtain ⟨u30, e30, e⟩ := ob e
      cases e
      exact hg_retI rfl (by decide) (fit_B (kB_e e30)) (kr _ _ rfl _ r29 A29)
    · refine hg_icT (tgt := 333) rfl (by decide) rs0 (rgn (-1) rfl) (show ¬ (s0 = (-1)) from q28) ?_
      exact t275_j333 hd rl2 rl5 rs0 A e kr
def c275_b221 (l2 : Int) (l5 : Int) (l6 : Int) (h : hS) : Option ((Int × hS) ⊕ ((hS) ⊕ (Int × hS))) :=
  (c198 1 h).bind (fun v31 =>
  if v31 ≤ l6 then
  some (.inr (.inl (h)))
  else
  (c199 1 l6 1 h).bind (fun v33 =>
  if v33 = l5 then
  (c276 6 l2 (-1) h).bind (fun v35 =>
  (kB v35.1).bind (fun u36 =>
  some (.inr (.inr (v35.1, v35.2)))))
  else
  some (.inl ((wadd l6 1), h))))
set_option maxRecDepth 100000 in
theorem t275_b221 {d : Nat} (hd : 5 ≤ d) {l2 : Int} {l5 : Int} {l6 : Int} {z1 : Option hO} {z3 : Option hO} {z4 : Option hO} {z7 : Option hO} {h : hS} {w : mmW} {o : (Int × hS) ⊕ ((hS) ⊕ (Int × hS))} {Q : mmO → Prop} (rl2 : rg l2) (rl5 : rg l5) (rl6 : rg l6) (A : Abs h w) (e : c275_b221 l2 l5 l6 h = some o) (kb : ∀ (s_0 : Int) (s_1 : hS), o = .inl (s_0, s_1) → ∀ w', rg s_0 → Abs s_1 w' → hG d 275 221 [some (vr 395), z1, some (vi l2), z3, z4, some (vi l5), some (vi s_0), z7] [] w' Q) (ke : ∀ (x_0 : hS), o = .inr (.inl (x_0)) → ∀ w', ∀ (y6 : Option hO), Abs x_0 w' → hG d 275 259 [some (vr 395), z1, some (vi l2), z3, z4, some (vi l5), y6, z7] [] w' Q) (kr : ∀ (v1 : Int) (h1 : hS), o = .inr (.inr (v1, h1)) → ∀ w', rg v1 → Abs h1 w' → Q (some (.int (Int32.ofInt v1)), w')) : hG d 275 221 [some (vr 395), z1, some (vi l2), z3, z4, some (vi l5), some (vi l6), z7] [] w Q := by
  unfold c275_b221 at e
  refine hg_run 3 (pc' := 225) (ls' := [some (vr 395), z1, some (vi l2), z3, z4, some (vi l5), some (vi l6), z7]) (st' := [vI 1, vR 395, vI l6]) rfl ?_
  obtain ⟨v31, e31, e⟩ := ob e
  refine hg_cIp (as := [vR 395, vI 1]) (st' := [vI l6]) rfl (fun _ _ _ _ => rfl) rfl rfl (Nat.le_of_ble_eq_true rfl) (Nat.le_of_ble_eq_true rfl) (recvV A (a := 13) (Abs_ks A (i := 23) rfl).1) (t198 (by omega) A (rgn 1 rfl) e31) (fun r31 => ?_)
  rcases oi e with ⟨q32, e⟩ | ⟨q32, e⟩
  · refine hg_icT (tgt := 259) rfl (by decide) rl6 r31 q32 ?_
    cases e
    exact ke h rfl _ _  A
  · refine hg_icF (tgt := 259) rfl (by decide) rl6 r31 q32 ?_
    refine hg_run 4 (pc' := 236) (ls' := [some (vr 395), z1, some (vi l2), z3, z4, some (vi l5), some (vi l6), z7]) (st' := [vI 1, vI l6, vI 1, vR 395]) rfl ?_
    obtain ⟨v33, e33, e⟩ := ob e
    refine hg_cIp (as := [vR 395, vI 1, vI l6, vI 1]) (st' := []) rfl (fun _ _ _ _ => rfl) rfl rfl (Nat.le_of_ble_eq_true rfl) (Nat.le_of_ble_eq_true rfl) (recvV A (a := 13) (Abs_ks A (i := 23) rfl).1) (t199 (by omega) A (rgn 1 rfl) rl6 (rgn 1 rfl) e33) (fun r33 => ?_)
    refine hg_run 1 (pc' := 241) (ls' := [some (vr 395), z1, some (vi l2), z3, z4, some (vi l5), some (vi l6), z7]) (st' := [vI l5, vI v33]) rfl ?_
    rcases oi e with ⟨q34, e⟩ | ⟨q34, e⟩
    · refine hg_icF (tgt := 253) rfl (by decide) r33 rl5 (show ¬ ¬ (v33 = l5) from fun f => f q34) ?_
      refine hg_run 4 (pc' := 249) (ls' := [some (vr 395), z1, some (vi l2), z3, z4, some (vi l5), some (vi l6), z7]) (st' := [vI (-1), vI l2, vI 6, vR 395]) rfl ?_
      obtain ⟨v35, e35, e⟩ := ob e
      refine hg_cI (as := [vR 395, vI 6, vI l2, vI (-1)]) (st' := []) rfl (fun _ _ _ _ => rfl) rfl rfl (Nat.le_of_ble_eq_true rfl) (Nat.le_of_ble_eq_true rfl) (recvV A (a := 13) (Abs_ks A (i := 23) rfl).1) (t276 (by omega) A (rgn 6 rfl) rl2 (rgn (-1) rfl) e35) (fun w35 r35 A35 => ?_)
      obtain ⟨u36, e36, e⟩ := ob e
      cases e
      exact hg_retI rfl (by decide) (fit_B (kB_e e36)) (kr _ _ rfl _ r35 A35)
    · refine hg_icT (tgt := 253) rfl (by decide) r33 rl5 (show ¬ (v33 = l5) from q34) ?_
      refine hg_run 2 (pc' := 221) (ls' := [some (vr 395), z1, some (vi l2), z3, z4, some (vi l5), some (vi (wadd l6 1)), z7]) (st' := []) rfl ?_
      cases e
      exact kb (wadd l6 1) h rfl _ (rg_add _ _) A
set_option maxRecDepth 100000 in
theorem t275_l221 {d : Nat} (hd : 5 ≤ d) {l2 : Int} {l5 : Int} {z1 : Option hO} {z3 : Option hO} {z4 : Option hO} {z7 : Option hO} {Q : mmO → Prop} (rl2 : rg l2) (rl5 : rg l5) (n : Nat) {l6 : Int}  {h : hS} {w : mmW} {r : (hS) ⊕ (Int × hS)} (rl6 : rg l6) (A : Abs h w) (e : lp (fun s => c275_b221 l2 l5 s.1 s.2) n (l6, h) = some r) (ke : ∀ (x_0 : hS), r = .inl (x_0) → ∀ w', ∀ (y6 : Option hO), Abs x_0 w' → hG d 275 259 [some (vr 395), z1, some (vi l2), z3, z4, some (vi l5), y6, z7] [] w' Q) (kr : ∀ (v1 : Int) (h1 : hS), r = .inr (v1, h1) → ∀ w', rg v1 → Abs h1 w' → Q (some (.int (Int32.ofInt v1)), w')) : hG d 275 221 [some (vr 395), z1, some (vi l2), z3, z4, some (vi l5), some (vi l6), z7] [] w Q := by
  induction n generalizing l6 h w with
  | zero => cases e
  | succ n ih =>
    rcases lp_succ e with ⟨s1, e1, e2⟩ | e1
    · exact t275_b221 hd rl2 rl5 rl6 A e1 (fun s_0 s_1 q w1 rl6 A1 => by cases q; exact ih rl6 A1 e2) (fun x_0 q => by cases q) (fun v0 h0 q => by cases q)
    · exact t275_b221 hd rl2 rl5 rl6 A e1 (fun s_0 s_1 q => by cases q) (fun x_0 q => by cases q; exact ke _ rfl) (fun v0 h0 q => by cases q; exact kr _ _ rfl)
def c275_b156 (l2 : Int) (l5 : Int) (l7 : Int) (h : hS) : Option ((Int × hS) ⊕ ((hS) ⊕ (Int × hS))) :=
  if l7 = (-1) then
  some (.inr (.inl (h)))
  else
  (c277 l7 l5 l2 h).bind (fun v56 =>
  if v56.1 = 0 then
  some (.inr (.inr (0, v56.2)))
  else
  (c257 l7 4 v56.2).bind (fun v58 =>
  some (.inl (v58, v56.2))))
set_option maxRecDepth 100000 in
theorem t275_b156 {d : Nat} (hd : 5 ≤ d) {l2 : Int} {l5 : Int} {l7 : Int} {z1 : Option hO} {z3 : Option hO} {z4 : Option hO} {z6 : Option hO} {h : hS} {w : mmW} {o : (Int × hS) ⊕ ((hS) ⊕ (Int × hS))} {Q : mmO → Prop} (rl2 : rg l2) (rl5 : rg l5) (rl7 : rg l7) (A : Abs h w) (e : c275_b156 l2 l5 l7 h = some o) (kb : ∀ (s_0 : Int) (s_1 : hS), o = .inl (s_0, s_1) → ∀ w', rg s_0 → Abs s_1 w' → hG d 275 156 [some (vr 395), z1, some (vi l2), z3, z4, some (vi l5), z6, some (vi s_0)] [] w' Q) (ke : ∀ (x_0 : hS), o = .inr (.inl (x_0)) → ∀ w', ∀ (y7 : Option hO), Abs x_0 w' → hG d 275 188 [some (vr 395), z1, some (vi l2), z3, z4, some (vi l5), z6, y7] [] w' Q) (kr : ∀ (v1 : Int) (h1 : hS), o = .inr (.inr (v1, h1)) → ∀ w', rg v1 → Abs h1 w' → Q (some (.int (Int32.ofInt v1)), w')) : hG d 275 156 [some (vr 395), z1, some (vi l2), z3, z4, some (vi l5), z6, some (vi l7)] [] w Q := by
  unfold c275_b156 at e
  refine hg_run 2 (pc' := 159) (ls' := [some (vr 395), z1, some (vi l2), z3, z4, some (vi l5), z6, some (vi l7)]) (st' := [vI (-1), vI l7]) rfl ?_
  rcases oi e with ⟨q55, e⟩ | ⟨q55, e⟩
  · refine hg_icT (tgt := 188) rfl (by decide) rl7 (rgn (-1) rfl) q55 ?_
    cases e
    exact ke h rfl _ _  A
  · refine hg_icF (tgt := 188) rfl (by decide) rl7 (rgn (-1) rfl) q55 ?_
    refine hg_run 4 (pc' := 168) (ls' := [some (vr 395), z1, some (vi l2), z3, z4, some (vi l5), z6, some (vi l7)]) (st' := [vI l2, vI l5, vI l7, vR 395]) rfl ?_
    obtain ⟨v56, e56, e⟩ := ob e
    refine hg_cI (as := [vR 395, vI l7, vI l5, vI l2]) (st' := []) rfl (fun _ _ _ _ => rfl) rfl rfl (Nat.le_of_ble_eq_true rfl) (Nat.le_of_ble_eq_true rfl) (recvV A (a := 13) (Abs_ks A (i := 23) rfl).1) (t277 (by omega) A rl7 rl5 rl2 e56) (fun w56 r56 A56 => ?_)
    rcases oi e with ⟨q57, e⟩ | ⟨q57, e⟩
    · refine hg_ifF (tgt := 176) rfl (by decide) r56 (show ¬ ¬ (v56.1 = 0) from fun f => f q57) ?_
      refine hg_run 1 (pc' := 175) (ls' := [some (vr 395), z1, some (vi l2), z3, z4, some (vi l5), z6, some (vi l7)]) (st' := [vI 0]) rfl ?_
      cases e
      exact hg_retI rfl (by decide) (fit_B (.inl rfl)) (kr _ _ rfl _ (rgn 0 rfl) A56)
    · refine hg_ifT (tgt := 176) rfl (by decide) r56 (show ¬ (v56.1 = 0) from q57) ?_
      refine hg_run 3 (pc' := 180) (ls' := [some (vr 395), z1, some (vi l2), z3, z4, some (vi l5), z6, some (vi l7)]) (st' := [vI 4, vI l7, vR 395]) rfl ?_
      obtain ⟨v58, e58, e⟩ := ob e
      refine hg_cIp (as := [vR 395, vI l7, vI 4]) (st' := []) rfl (fun _ _ _ _ => rfl) rfl rfl (Nat.le_of_ble_eq_true rfl) (Nat.le_of_ble_eq_true rfl) (recvV A56 (a := 13) (Abs_ks A56 (i := 23) rfl).1) (t257 (by omega) A56 rl7 (rgn 4 rfl) e58) (fun r58 => ?_)
      refine hg_run 2 (pc' := 156) (ls' := [some (vr 395), z1, some (vi l2), z3, z4, some (vi l5), z6, some (vi v58)]) (st' := []) rfl ?_
      cases e
      exact kb v58 v56.2 rfl _ r58 A56
set_option maxRecDepth 100000 in
theorem t275_l156 {d : Nat} (hd : 5 ≤ d) {l2 : Int} {l5 : Int} {z1 : Option hO} {z3 : Option hO} {z4 : Option hO} {z6 : Option hO} {Q : mmO → Prop} (rl2 : rg l2) (rl5 : rg l5) (n : Nat) {l7 : Int}  {h : hS} {w : mmW} {r : (hS) ⊕ (Int × hS)} (rl7 : rg l7) (A : Abs h w) (e : lp (fun s => c275_b156 l2 l5 s.1 s.2) n (l7, h) = some r) (ke : ∀ (x_0 : hS), r = .inl (x_0) → ∀ w', ∀ (y7 : Option hO), Abs x_0 w' → hG d 275 188 [some (vr 395), z1, some (vi l2), z3, z4, some (vi l5), z6, y7] [] w' Q) (kr : ∀ (v1 : Int) (h1 : hS), r = .inr (v1, h1) → ∀ w', rg v1 → Abs h1 w' → Q (some (.int (Int32.ofInt v1)), w')) : hG d 275 156 [some (vr 395), z1, some (vi l2), z3, z4, some (vi l5), z6, some (vi l7)] [] w Q := by
  induction n generalizing l7 h w with
  | zero => cases e
  | succ n ih =>
    rcases lp_succ e with ⟨s1, e1, e2⟩ | e1
    · exact t275_b156 hd rl2 rl5 rl7 A e1 (fun s_0 s_1 q w1 rl7 A1 => by cases q; exact ih rl7 A1 e2) (fun x_0 q => by cases q) (fun v0 h0 q => by cases q)
    · exact t275_b156 hd rl2 rl5 rl7 A e1 (fun s_0 s_1 q => by cases q) (fun x_0 q => by cases q; exact ke _ rfl) (fun v0 h0 q => by cases q; exact kr _ _ rfl)
def c275_j114 (l1 : Int) (l2 : Int) (l4 : Int) (l6 : Int) (h : hS) : Option (Int × hS) :=
  (c200 1 l4 h).bind (fun v50 =>
  (c201 1 v50.1 1 l6 v50.2).bind (fun h51 =>
  (c197 0 l4 h51).bind (fun v52 =>
  (c201 1 v50.1 4 v52 h51).bind (fun h53 =>
  (c257 l1 3 h53).bind (fun v54 =>
  (lp (fun s => c275_b156 l2 v50.1 s.1 s.2) hF0 (v54, h53)).bind (fun r59 => xs r59 (fun x59 =>
  some (1, x59)) (fun o59 => some o59)))))))
set_option maxRecDepth 100000 in
theorem t275_j114 {d : Nat} (hd : 5 ≤ d) {l1 : Int} {l2 : Int} {l4 : Int} {l6 : Int} {z3 : Option hO} {z5 : Option hO} {z7 : Option hO} {h : hS} {w : mmW} {o : Int × hS} {Q : mmO → Prop} (rl1 : rg l1) (rl2 : rg l2) (rl4 : rg l4) (rl6 : rg l6) (A : Abs h w) (e : c275_j114 l1 l2 l4 l6 h = some o) (kr : ∀ (v1 : Int) (h1 : hS), o = (v1, h1) → ∀ w', rg v1 → Abs h1 w' → Q (some (.int (Int32.ofInt v1)), w')) : hG d 275 114 [some (vr 395), some (vi l1), some (vi l2), z3, some (vi l4), z5, some (vi l6), z7] [] w Q := by
  unfold c275_j114 at e
  refine hg_run 3 (pc' := 118) (ls' := [some (vr 395), some (vi l1), some (vi l2), z3, some (vi l4), z5, some (vi l6), z7]) (st' := [vI l4, vI 1, vR 395]) rfl ?_
  obtain ⟨v50, e50, e⟩ := ob e
  refine hg_cI (as := [vR 395, vI 1, vI l4]) (st' := []) rfl (fun _ _ _ _ => rfl) rfl rfl (Nat.le_of_ble_eq_true rfl) (Nat.le_of_ble_eq_true rfl) (recvV A (a := 13) (Abs_ks A (i := 23) rfl).1) (t200 (by omega) A (rgn 1 rfl) rl4 e50) (fun w50 r50 A50 => ?_)
  refine hg_run 6 (pc' := 130) (ls' := [some (vr 395), some (vi l1), some (vi l2), z3, some (vi l4), some (vi v50.1), some (vi l6), z7]) (st' := [vI l6, vI 1, vI v50.1, vI 1, vR 395]) rfl ?_
  obtain ⟨h51, e51, e⟩ := ob e
  refine hg_cV (as := [vR 395, vI 1, vI v50.1, vI 1, vI l6]) (st' := []) rfl (fun _ _ _ _ => rfl) rfl rfl (Nat.le_of_ble_eq_true rfl) (Nat.le_of_ble_eq_true rfl) (recvV A50 (a := 13) (Abs_ks A50 (i := 23) rfl).1) (t201 (by omega) A50 (rgn 1 rfl) r50 (rgn 1 rfl) rl6 e51) (fun w51 A51 => ?_)
  refine hg_run 7 (pc' := 142) (ls' := [some (vr 395), some (vi l1), some (vi l2), z3, some (vi l4), some (vi v50.1), some (vi l6), z7]) (st' := [vI l4, vI 0, vR 395, vI 4, vI v50.1, vI 1, vR 395]) rfl ?_
  obtain ⟨v52, e52, e⟩ := ob e
  refine hg_cIp (as := [vR 395, vI 0, vI l4]) (st' := [vI 4, vI v50.1, vI 1, vR 395]) rfl (fun _ _ _ _ => rfl) rfl rfl (Nat.le_of_ble_eq_true rfl) (Nat.le_of_ble_eq_true rfl) (recvV A51 (a := 13) (Abs_ks A51 (i := 23) rfl).1) (t197 (by omega) A51 (rgn 0 rfl) rl4 e52) (fun r52 => ?_)
  obtain ⟨h53, e53, e⟩ := ob e
  refine hg_cV (as := [vR 395, vI 1, vI v50.1, vI 4, vI v52]) (st' := []) rfl (fun _ _ _ _ => rfl) rfl rfl (Nat.le_of_ble_eq_true rfl) (Nat.le_of_ble_eq_true rfl) (recvV A51 (a := 13) (Abs_ks A51 (i := 23) rfl).1) (t201 (by omega) A51 (rgn 1 rfl) r50 (rgn 4 rfl) r52 e53) (fun w53 A53 => ?_)
  refine hg_run 3 (pc' := 151) (ls' := [some (vr 395), some (vi l1), some (vi l2), z3, some (vi l4), some (vi v50.1), some (vi l6), z7]) (st' := [vI 3, vI l1, vR 395]) rfl ?_
  obtain ⟨v54, e54, e⟩ := ob e
  refine hg_cIp (as := [vR 395, vI l1, vI 3]) (st' := []) rfl (fun _ _ _ _ => rfl) rfl rfl (Nat.le_of_ble_eq_true rfl) (Nat.le_of_ble_eq_true rfl) (recvV A53 (a := 13) (Abs_ks A53 (i := 23) rfl).1) (t257 (by omega) A53 rl1 (rgn 3 rfl) e54) (fun r54 => ?_)
  refine hg_run 1 (pc' := 156) (ls' := [some (vr 395), some (vi l1), some (vi l2), z3, some (vi l4), some (vi v50.1), some (vi l6), some (vi v54)]) (st' := []) rfl ?_
  obtain ⟨r59, e59, e⟩ := ob e
  refine t275_l156 hd rl2 r50 _ r54 A53 e59 ?_ ?_
  · intro x59_0 qq59 w59 z59_7 A59
    subst qq59
    have e := xs_l e
    refine hg_run 1 (pc' := 189) (ls' := [some (vr 395), some (vi l1), some (vi l2), z3, some (vi l4), some (vi v50.1), some (vi l6), z59_7]) (st' := [vI 1]) rfl ?_
    cases e
    exact hg_retI rfl (by decide) (fit_B (.inr rfl)) (kr _ _ rfl _ (rgn 1 rfl) A59)
  · intro v59 h59 qq59 w59 r59 A59
    subst qq59
    have e := xs_r e
    cases e
    exact kr _ _ rfl w59 r59 A59
def c275_j88 (s0 : Int) (l1 : Int) (l2 : Int) (l4 : Int) (h : hS) : Option (Int × hS) :=
  (c256 l1 2 h).bind (fun v48 =>
  if v48 = (-1) then
  c275_j114 l1 l2 l4 s0 h
  else
  if s0 = (-1) then
  (c276 1 l2 (-1) h).bind (fun v61 =>
  (kB v61.1).bind (fun u62 =>
  some (v61.1, v61.2)))
  else
  c275_j114 l1 l2 l4 s0 h)
set_option maxRecDepth 100000 in
theorem t275_j88 {d : Nat} (hd : 5 ≤ d) {s0 : Int} {l1 : Int} {l2 : Int} {l4 : Int} {z3 : Option hO} {z5 : Option hO} {z6 : Option hO} {z7 : Option hO} {h : hS} {w : mmW} {o : Int × hS} {Q : mmO → Prop} (rs0 : rg s0) (rl1 : rg l1) (rl2 : rg l2) (rl4 : rg l4) (A : Abs h w) (e : c275_j88 s0 l1 l2 l4 h = some o) (kr : ∀ (v1 : Int) (h1 : hS), o = (v1, h1) → ∀ w', rg v1 → Abs h1 w' → Q (some (.int (Int32.ofInt v1)), w')) : hG d 275 88 [some (vr 395), some (vi l1), some (vi l2), z3, some (vi l4), z5, z6, z7] [vI s0] w Q := by
  unfold c275_j88 at e
  refine hg_run 4 (pc' := 93) (ls' := [some (vr 395), some (vi l1), some (vi l2), z3, some (vi l4), z5, some (vi s0), z7]) (st' := [vI 2, vI l1, vR 395]) rfl ?_
  obtain ⟨v48, e48, e⟩ := ob e
  refine hg_cIp (as := [vR 395, vI l1, vI 2]) (st' := []) rfl (fun _ _ _ _ => rfl) rfl rfl (Nat.le_of_ble_eq_true rfl) (Nat.le_of_ble_eq_true rfl) (recvV A (a := 13) (Abs_ks A (i := 23) rfl).1) (t256 (by omega) A rl1 (rgn 2 rfl) e48) (fun r48 => ?_)
  refine hg_run 1 (pc' := 97) (ls' := [some (vr 395), some (vi l1), some (vi l2), z3, some (vi l4), z5, some (vi s0), z7]) (st' := [vI (-1), vI v48]) rfl ?_
  rcases oi e with ⟨q49, e⟩ | ⟨q49, e⟩
  · refine hg_icT (tgt := 114) rfl (by decide) r48 (rgn (-1) rfl) q49 ?_
    exact t275_j114 hd rl1 rl2 rl4 rs0 A e kr
  · refine hg_icF (tgt := 114) rfl (by decide) r48 (rgn (-1) rfl) q49 ?_
    refine hg_run 2 (pc' := 103) (ls' := [some (vr 395), some (vi l1), some (vi l2), z3, some (vi l4), z5, some (vi s0), z7]) (st' := [vI (-1), vI s0]) rfl ?_
    rcases oi e with ⟨q60, e⟩ | ⟨q60, e⟩
    · refine hg_icF (tgt := 114) rfl (by decide) rs0 (rgn (-1) rfl) (show ¬ ¬ (s0 = (-1)) from fun f => f q60) ?_
      refine hg_run 4 (pc' := 110) (ls' := [some (vr 395), some (vi l1), some (vi l2), z3, some (vi l4), z5, some (vi s0), z7]) (st' := [vI (-1), vI l2, vI 1, vR 395]) rfl ?_
      obtain ⟨v61, e61, e⟩ := ob e
      refine hg_cI (as := [vR 395, vI 1, vI l2, vI (-1)]) (st' := []) rfl (fun _ _ _ _ => rfl) rfl rfl (Nat.le_of_ble_eq_true rfl) (Nat.le_of_ble_eq_true rfl) (recvV A (a := 13) (Abs_ks A (i := 23) rfl).1) (t276 (by omega) A (rgn 1 rfl) rl2 (rgn (-1) rfl) e61) (fun w61 r61 A61 => ?_)
      obtain ⟨u62, e62, e⟩ := ob e
      cases e
      exact hg_retI rfl (by decide) (fit_B (kB_e e62)) (kr _ _ rfl _ r61 A61)
    · refine hg_icT (tgt := 114) rfl (by decide) rs0 (rgn (-1) rfl) (show ¬ (s0 = (-1)) from q60) ?_
      exact t275_j114 hd rl1 rl2 rl4 rs0 A e kr
def c275 (l1 : Int) (l2 : Int) (h : hS) : Option (Int × hS) :=
  (c256 l1 0 h).bind (fun v1 =>
  (c256 l1 1 h).bind (fun v2 =>
  (c197 1 v2 h).bind (fun v3 =>
  if v1 = 40 then
  if v3 = (-1) then
  (c198 1 h).bind (fun v42 =>
  if v42 = 12 then
  (c276 7 l2 (-1) h).bind (fun v63 =>
  (kB v63.1).bind (fun u64 =>
  some (v63.1, v63.2)))
  else
  (c256 l1 2 h).bind (fun v44 =>
  if v44 = (-1) then
  c275_j88 (-1) l1 l2 v2 h
  else
  (c256 l1 2 h).bind (fun v46 =>
  (c197 1 v46 h).bind (fun v47 =>
  c275_j88 v47 l1 l2 v2 h))))
  else
  (c276 2 l2 (-1) h).bind (fun v65 =>
  (kB v65.1).bind (fun u66 =>
  some (v65.1, v65.2)))
  else
  if v3 = (-1) then
  (c276 1 l2 (-1) h).bind (fun v39 =>
  (kB v39.1).bind (fun u40 =>
  some (v39.1, v39.2)))
  else
  if v1 = 44 then
  some (1, h)
  else
  if v1 = 42 then
  (lp (fun s => c275_b221 l2 v3 s.1 s.2) hF0 (0, h)).bind (fun r37 => xs r37 (fun x37 =>
  (c278 v3 x37).bind (fun h38 =>
  some (1, h38))) (fun o37 => some o37))
  else
  (c201 1 v3 3 1 h).bind (fun h8 =>
  if v1 = 43 then
  (c256 l1 2 h8).bind (fun v16 =>
  if v16 = (-1) then
  c275_j307 (-1) l1 l2 v3 h8
  else
  (c256 l1 2 h8).bind (fun v18 =>
  (c197 1 v18 h8).bind (fun v19 =>
  c275_j307 v19 l1 l2 v3 h8)))
  else
  (c257 l1 3 h8).bind (fun v10 =>
  (lp (fun s => c275_b379 l2 v3 s.1 s.2) hF0 (v10, h8)).bind (fun r15 => xs r15 (fun x15 =>
  some (1, x15)) (fun o15 => some o15)))))))
set_option maxRecDepth 100000 in
theorem t275 {d : Nat} (hd : 6 ≤ d) {l1 : Int} {l2 : Int} {h : hS} {w : mmW} {o : Int × hS} (A : Abs h w) (rl1 : rg l1) (rl2 : rg l2) (e : c275 l1 l2 h = some o) : hEv d 275 [vR 395, vI l1, vI l2] w (qI o) := by
  obtain ⟨d, rfl⟩ : ∃ d1, d = d1 + 1 := ⟨d - 1, by omega⟩
  have hd : 5 ≤ d := by omega
  refine hEv_start (args := [vr 395, vi l1, vi l2]) (nl := 8) rfl (Nat.le_of_ble_eq_true rfl) ?_
  show hG d 275 0 [some (vr 395), some (vi l1), some (vi l2), none, none, none, none, none] [] w _
  have kr : ∀ (v1 : Int) (h1 : hS), o = (v1, h1) → ∀ w', rg v1 → Abs h1 w' → qI o (some (.int (Int32.ofInt v1)), w') := fun v1 h1 q w' r A' => by cases q; exact ⟨rfl, r, A'⟩
  unfold c275 at e
  refine hg_run 3 (pc' := 3) (ls' := [some (vr 395), some (vi l1), some (vi l2), none, none, none, none, none]) (st' := [vI 0, vI l1, vR 395]) rfl ?_
  obtain ⟨v1, e1, e⟩ := ob e
  refine hg_cIp (as := [vR 395, vI l1, vI 0]) (st' := []) rfl (fun _ _ _ _ => rfl) rfl rfl (Nat.le_of_ble_eq_true rfl) (Nat.le_of_ble_eq_true rfl) (recvV A (a := 13) (Abs_ks A (i := 23) rfl).1) (t256 (by omega) A rl1 (rgn 0 rfl) e1) (fun r1 => ?_)
  refine hg_run 4 (pc' := 10) (ls' := [some (vr 395), some (vi l1), some (vi l2), some (vi v1), none, none, none, none]) (st' := [vI 1, vI l1, vR 395]) rfl ?_
  obtain ⟨v2, e2, e⟩ := ob e
  refine hg_cIp (as := [vR 395, vI l1, vI 1]) (st' := []) rfl (fun _ _ _ _ => rfl) rfl rfl (Nat.le_of_ble_eq_true rfl) (Nat.le_of_ble_eq_true rfl) (recvV A (a := 13) (Abs_ks A (i := 23) rfl).1) (t256 (by omega) A rl1 (rgn 1 rfl) e2) (fun r2 => ?_)
  refine hg_run 4 (pc' := 19) (ls' := [some (vr 395), some (vi l1), some (vi l2), some (vi v1), some (vi v2), none, none, none]) (st' := [vI v2, vI 1, vR 395]) rfl ?_
  obtain ⟨v3, e3, e⟩ := ob e
  refine hg_cIp (as := [vR 395, vI 1, vI v2]) (st' := []) rfl (fun _ _ _ _ => rfl) rfl rfl (Nat.le_of_ble_eq_true rfl) (Nat.le_of_ble_eq_true rfl) (recvV A (a := 13) (Abs_ks A (i := 23) rfl).1) (t197 (by omega) A (rgn 1 rfl) r2 e3) (fun r3 => ?_)
  refine hg_run 3 (pc' := 27) (ls' := [some (vr 395), some (vi l1), some (vi l2), some (vi v1), some (vi v2), some (vi v3), none, none]) (st' := [vI 40, vI v1]) rfl ?_
  rcases oi e with ⟨q4, e⟩ | ⟨q4, e⟩
  · refine hg_icF (tgt := 190) rfl (by decide) r1 (rgn 40 rfl) (show ¬ ¬ (v1 = 40) from fun f => f q4) ?_
    refine hg_run 2 (pc' := 33) (ls' := [some (vr 395), some (vi l1), some (vi l2), some (vi v1), some (vi v2), some (vi v3), none, none]) (st' := [vI (-1), vI v3]) rfl ?_
    rcases oi e with ⟨q41, e⟩ | ⟨q41, e⟩
    · refine hg_icT (tgt := 44) rfl (by decide) r3 (rgn (-1) rfl) q41 ?_
      refine hg_run 2 (pc' := 46) (ls' := [some (vr 395), some (vi l1), some (vi l2), some (vi v1), some (vi v2), some (vi v3), none, none]) (st' := [vI 1, vR 395]) rfl ?_
      obtain ⟨v42, e42, e⟩ := ob e
      refine hg_cIp (as := [vR 395, vI 1]) (st' := []) rfl (fun _ _ _ _ => rfl) rfl rfl (Nat.le_of_ble_eq_true rfl) (Nat.le_of_ble_eq_true rfl) (recvV A (a := 13) (Abs_ks A (i := 23) rfl).1) (t198 (by omega) A (rgn 1 rfl) e42) (fun r42 => ?_)
      refine hg_run 1 (pc' := 51) (ls' := [some (vr 395), some (vi l1), some (vi l2), some (vi v1), some (vi v2), some (vi v3), none, none]) (st' := [vI 12, vI v42]) rfl ?_
      rcases oi e with ⟨q43, e⟩ | ⟨q43, e⟩
      · refine hg_icF (tgt := 63) rfl (by decide) r42 (rgn 12 rfl) (show ¬ ¬ (v42 = 12) from fun f => f q43) ?_
        refine hg_run 4 (pc' := 59) (ls' := [some (vr 395), some (vi l1), some (vi l2), some (vi v1), some (vi v2), some (vi v3), none, none]) (st' := [vI (-1), vI l2, vI 7, vR 395]) rfl ?_
        obtain ⟨v63, e63, e⟩ := ob e
        refine hg_cI (as := [vR 395, vI 7, vI l2, vI (-1)]) (st' := []) rfl (fun _ _ _ _ => rfl) rfl rfl (Nat.le_of_ble_eq_true rfl) (Nat.le_of_ble_eq_true rfl) (recvV A (a := 13) (Abs_ks A (i := 23) rfl).1) (t276 (by omega) A (rgn 7 rfl) rl2 (rgn (-1) rfl) e63) (fun w63 r63 A63 => ?_)
        obtain ⟨u64, e64, e⟩ := ob e
        cases e
        exact hg_retI rfl (by decide) (fit_B (kB_e e64)) (kr _ _ rfl _ r63 A63)
      · refine hg_icT (tgt := 63) rfl (by decide) r42 (rgn 12 rfl) (show ¬ (v42 = 12) from q43) ?_
        refine hg_run 3 (pc' := 66) (ls' := [some (vr 395), some (vi l1), some (vi l2), some (vi v1), some (vi v2), some (vi v3), none, none]) (st' := [vI 2, vI l1, vR 395]) rfl ?_
        obtain ⟨v44, e44, e⟩ := ob e
        refine hg_cIp (as := [vR 395, vI l1, vI 2]) (st' := []) rfl (fun _ _ _ _ => rfl) rfl rfl (Nat.le_of_ble_eq_true rfl) (Nat.le_of_ble_eq_true rfl) (recvV A (a := 13) (Abs_ks A (i := 23) rfl).1) (t256 (by omega) A rl1 (rgn 2 rfl) e44) (fun r44 => ?_)
        refine hg_run 1 (pc' := 70) (ls' := [some (vr 395), some (vi l1), some (vi l2), some (vi v1), some (vi v2), some (vi v3), none, none]) (st' := [vI (-1), vI v44]) rfl ?_
        rcases oi e with ⟨q45, e⟩ | ⟨q45, e⟩
        · refine hg_icF (tgt := 77) rfl (by decide) r44 (rgn (-1) rfl) (show ¬ ¬ (v44 = (-1)) from fun f => f q45) ?_
          refine hg_run 2 (pc' := 88) (ls' := [some (vr 395), some (vi l1), some (vi l2), some (vi v1), some (vi v2), some (vi v3), none, none]) (st' := [vI (-1)]) rfl ?_
          exact t275_j88 hd (rgn (-1) rfl) rl1 rl2 r2 A e kr
        · refine hg_icT (tgt := 77) rfl (by decide) r44 (rgn (-1) rfl) (show ¬ (v44 = (-1)) from q45) ?_
          refine hg_run 5 (pc' := 82) (ls' := [some (vr 395), some (vi l1), some (vi l2), some (vi v1), some (vi v2), some (vi v3), none, none]) (st' := [vI 2, vI l1, vR 395, vI 1, vR 395]) rfl ?_
          obtain ⟨v46, e46, e⟩ := ob e
          refine hg_cIp (as := [vR 395, vI l1, vI 2]) (st' := [vI 1, vR 395]) rfl (fun _ _ _ _ => rfl) rfl rfl (Nat.le_of_ble_eq_true rfl) (Nat.le_of_ble_eq_true rfl) (recvV A (a := 13) (Abs_ks A (i := 23) rfl).1) (t256 (by omega) A rl1 (rgn 2 rfl) e46) (fun r46 => ?_)
          obtain ⟨v47, e47, e⟩ := ob e
          refine hg_cIp (as := [vR 395, vI 1, vI v46]) (st' := []) rfl (fun _ _ _ _ => rfl) rfl rfl (Nat.le_of_ble_eq_true rfl) (Nat.le_of_ble_eq_true rfl) (recvV A (a := 13) (Abs_ks A (i := 23) rfl).1) (t197 (by omega) A (rgn 1 rfl) r46 e47) (fun r47 => ?_)
          exact t275_j88 hd r47 rl1 rl2 r2 A e kr
    · refine hg_icF (tgt := 44) rfl (by decide) r3 (rgn (-1) rfl) q41 ?_
      refine hg_run 4 (pc' := 40) (ls' := [some (vr 395), some (vi l1), some (vi l2), some (vi v1), some (vi v2), some (vi v3), none, none]) (st' := [vI (-1), vI l2, vI 2, vR 395]) rfl ?_
      obtain ⟨v65, e65, e⟩ := ob e
      refine hg_cI (as := [vR 395, vI 2, vI l2, vI (-1)]) (st' := []) rfl (fun _ _ _ _ => rfl) rfl rfl (Nat.le_of_ble_eq_true rfl) (Nat.le_of_ble_eq_true rfl) (recvV A (a := 13) (Abs_ks A (i := 23) rfl).1) (t276 (by omega) A (rgn 2 rfl) rl2 (rgn (-1) rfl) e65) (fun w65 r65 A65 => ?_)
      obtain ⟨u66, e66, e⟩ := ob e
      cases e
      exact hg_retI rfl (by decide) (fit_B (kB_e e66)) (kr _ _ rfl _ r65 A65)
  · refine hg_icT (tgt := 190) rfl (by decide) r1 (rgn 40 rfl) (show ¬ (v1 = 40) from q4) ?_
    refine hg_run 2 (pc' := 193) (ls' := [some (vr 395), some (vi l1), some (vi l2), some (vi v1), some (vi v2), some (vi v3), none, none]) (st' := [vI (-1), vI v3]) rfl ?_
    rcases oi e with ⟨q5, e⟩ | ⟨q5, e⟩
    · refine hg_icF (tgt := 204) rfl (by decide) r3 (rgn (-1) rfl) (show ¬ ¬ (v3 = (-1)) from fun f => f q5) ?_
      refine hg_run 4 (pc' := 200) (ls' := [some (vr 395), some (vi l1), some (vi l2), some (vi v1), some (vi v2), some (vi v3), none, none]) (st' := [vI (-1), vI l2, vI 1, vR 395]) rfl ?_
      obtain ⟨v39, e39, e⟩ := ob e
      refine hg_cI (as := [vR 395, vI 1, vI l2, vI (-1)]) (st' := []) rfl (fun _ _ _ _ => rfl) rfl rfl (Nat.le_of_ble_eq_true rfl) (Nat.le_of_ble_eq_true rfl) (recvV A (a := 13) (Abs_ks A (i := 23) rfl).1) (t276 (by omega) A (rgn 1 rfl) rl2 (rgn (-1) rfl) e39) (fun w39 r39 A39 => ?_)
      obtain ⟨u40, e40, e⟩ := ob e
      cases e
      exact hg_retI rfl (by decide) (fit_B (kB_e e40)) (kr _ _ rfl _ r39 A39)
    · refine hg_icT (tgt := 204) rfl (by decide) r3 (rgn (-1) rfl) (show ¬ (v3 = (-1)) from q5) ?_
      refine hg_run 2 (pc' := 207) (ls' := [some (vr 395), some (vi l1), some (vi l2), some (vi v1), some (vi v2), some (vi v3), none, none]) (st' := [vI 44, vI v1]) rfl ?_
      rcases oi e with ⟨q6, e⟩ | ⟨q6, e⟩
      · refine hg_icF (tgt := 212) rfl (by decide) r1 (rgn 44 rfl) (show ¬ ¬ (v1 = 44) from fun f => f q6) ?_
        refine hg_run 1 (pc' := 211) (ls' := [some (vr 395), some (vi l1), some (vi l2), some (vi v1), some (vi v2), some (vi v3), none, none]) (st' := [vI 1]) rfl ?_
        cases e
        exact hg_retI rfl (by decide) (fit_B (.inr rfl)) (kr _ _ rfl _ (rgn 1 rfl) A)
      · refine hg_icT (tgt := 212) rfl (by decide) r1 (rgn 44 rfl) (show ¬ (v1 = 44) from q6) ?_
        refine hg_run 2 (pc' := 215) (ls' := [some (vr 395), some (vi l1), some (vi l2), some (vi v1), some (vi v2), some (vi v3), none, none]) (st' := [vI 42, vI v1]) rfl ?_
        rcases oi e with ⟨q7, e⟩ | ⟨q7, e⟩
        · refine hg_icF (tgt := 267) rfl (by decide) r1 (rgn 42 rfl) (show ¬ ¬ (v1 = 42) from fun f => f q7) ?_
          refine hg_run 2 (pc' := 221) (ls' := [some (vr 395), some (vi l1), some (vi l2), some (vi v1), some (vi v2), some (vi v3), some (vi 0), none]) (st' := []) rfl ?_
          obtain ⟨r37, e37, e⟩ := ob e
          refine t275_l221 hd rl2 r3 _ (rgn 0 rfl) A e37 ?_ ?_
          · intro x37_0 qq37 w37 z37_6 A37
            subst qq37
            have e := xs_l e
            refine hg_run 2 (pc' := 262) (ls' := [some (vr 395), some (vi l1), some (vi l2), some (vi v1), some (vi v2), some (vi v3), z37_6, none]) (st' := [vI v3, vR 395]) rfl ?_
            obtain ⟨h38, e38, e⟩ := ob e
            refine hg_cV (as := [vR 395, vI v3]) (st' := []) rfl (fun _ _ _ _ => rfl) rfl rfl (Nat.le_of_ble_eq_true rfl) (Nat.le_of_ble_eq_true rfl) (recvV A37 (a := 13) (Abs_ks A37 (i := 23) rfl).1) (t278 (by omega) A37 r3 e38) (fun w38 A38 => ?_)
            refine hg_run 1 (pc' := 266) (ls' := [some (vr 395), some (vi l1), some (vi l2), some (vi v1), some (vi v2), some (vi v3), z37_6, none]) (st' := [vI 1]) rfl ?_
            cases e
            exact hg_retI rfl (by decide) (fit_B (.inr rfl)) (kr _ _ rfl _ (rgn 1 rfl) A38)
          · intro v37 h37 qq37 w37 r37 A37
            subst qq37
            have e := xs_r e
            cases e
            exact kr _ _ rfl w37 r37 A37
        · refine hg_icT (tgt := 267) rfl (by decide) r1 (rgn 42 rfl) (show ¬ (v1 = 42) from q7) ?_
          refine hg_run 5 (pc' := 273) (ls' := [some (vr 395), some (vi l1), some (vi l2), some (vi v1), some (vi v2), some (vi v3), none, none]) (st' := [vI 1, vI 3, vI v3, vI 1, vR 395]) rfl ?_
          obtain ⟨h8, e8, e⟩ := ob e
          refine hg_cV (as := [vR 395, vI 1, vI v3, vI 3, vI 1]) (st' := []) rfl (fun _ _ _ _ => rfl) rfl rfl (Nat.le_of_ble_eq_true rfl) (Nat.le_of_ble_eq_true rfl) (recvV A (a := 13) (Abs_ks A (i := 23) rfl).1) (t201 (by omega) A (rgn 1 rfl) r3 (rgn 3 rfl) (rgn 1 rfl) e8) (fun w8 A8 => ?_)
          refine hg_run 2 (pc' := 279) (ls' := [some (vr 395), some (vi l1), some (vi l2), some (vi v1), some (vi v2), some (vi v3), none, none]) (st' := [vI 43, vI v1]) rfl ?_
          rcases oi e with ⟨q9, e⟩ | ⟨q9, e⟩
          · refine hg_icF (tgt := 371) rfl (by decide) r1 (rgn 43 rfl) (show ¬ ¬ (v1 = 43) from fun f => f q9) ?_
            refine hg_run 3 (pc' := 285) (ls' := [some (vr 395), some (vi l1), some (vi l2), some (vi v1), some (vi v2), some (vi v3), none, none]) (st' := [vI 2, vI l1, vR 395]) rfl ?_
            obtain ⟨v16, e16, e⟩ := ob e
            refine hg_cIp (as := [vR 395, vI l1, vI 2]) (st' := []) rfl (fun _ _ _ _ => rfl) rfl rfl (Nat.le_of_ble_eq_true rfl) (Nat.le_of_ble_eq_true rfl) (recvV A8 (a := 13) (Abs_ks A8 (i := 23) rfl).1) (t256 (by omega) A8 rl1 (rgn 2 rfl) e16) (fun r16 => ?_)
            refine hg_run 1 (pc' := 289) (ls' := [some (vr 395), some (vi l1), some (vi l2), some (vi v1), some (vi v2), some (vi v3), none, none]) (st' := [vI (-1), vI v16]) rfl ?_
            rcases oi e with ⟨q17, e⟩ | ⟨q17, e⟩
            · refine hg_icF (tgt := 296) rfl (by decide) r16 (rgn (-1) rfl) (show ¬ ¬ (v16 = (-1)) from fun f => f q17) ?_
              refine hg_run 2 (pc' := 307) (ls' := [some (vr 395), some (vi l1), some (vi l2), some (vi v1), some (vi v2), some (vi v3), none, none]) (st' := [vI (-1)]) rfl ?_
              exact t275_j307 hd (rgn (-1) rfl) rl1 rl2 r3 A8 e kr
            · refine hg_icT (tgt := 296) rfl (by decide) r16 (rgn (-1) rfl) (show ¬ (v16 = (-1)) from q17) ?_
              refine hg_run 5 (pc' := 301) (ls' := [some (vr 395), some (vi l1), some (vi l2), some (vi v1), some (vi v2), some (vi v3), none, none]) (st' := [vI 2, vI l1, vR 395, vI 1, vR 395]) rfl ?_
              obtain ⟨v18, e18, e⟩ := ob e
              refine hg_cIp (as := [vR 395, vI l1, vI 2]) (st' := [vI 1, vR 395]) rfl (fun _ _ _ _ => rfl) rfl rfl (Nat.le_of_ble_eq_true rfl) (Nat.le_of_ble_eq_true rfl) (recvV A8 (a := 13) (Abs_ks A8 (i := 23) rfl).1) (t256 (by omega) A8 rl1 (rgn 2 rfl) e18) (fun r18 => ?_)
              obtain ⟨v19, e19, e⟩ := ob e
              refine hg_cIp (as := [vR 395, vI 1, vI v18]) (st' := []) rfl (fun _ _ _ _ => rfl) rfl rfl (Nat.le_of_ble_eq_true rfl) (Nat.le_of_ble_eq_true rfl) (recvV A8 (a := 13) (Abs_ks A8 (i := 23) rfl).1) (t197 (by omega) A8 (rgn 1 rfl) r18 e19) (fun r19 => ?_)
              exact t275_j307 hd r19 rl1 rl2 r3 A8 e kr
          · refine hg_icT (tgt := 371) rfl (by decide) r1 (rgn 43 rfl) (show ¬ (v1 = 43) from q9) ?_
            refine hg_run 3 (pc' := 374) (ls' := [some (vr 395), some (vi l1), some (vi l2), some (vi v1), some (vi v2), some (vi v3), none, none]) (st' := [vI 3, vI l1, vR 395]) rfl ?_
            obtain ⟨v10, e10, e⟩ := ob e
            refine hg_cIp (as := [vR 395, vI l1, vI 3]) (st' := []) rfl (fun _ _ _ _ => rfl) rfl rfl (Nat.le_of_ble_eq_true rfl) (Nat.le_of_ble_eq_true rfl) (recvV A8 (a := 13) (Abs_ks A8 (i := 23) rfl).1) (t257 (by omega) A8 rl1 (rgn 3 rfl) e10) (fun r10 => ?_)
            refine hg_run 1 (pc' := 379) (ls' := [some (vr 395), some (vi l1), some (vi l2), some (vi v1), some (vi v2), some (vi v3), some (vi v10), none]) (st' := []) rfl ?_
            obtain ⟨r15, e15, e⟩ := ob e
            refine t275_l379 hd rl2 r3 _ r10 A8 e15 ?_ ?_
            · intro x15_0 qq15 w15 z15_6 A15
              subst qq15
              have e := xs_l e
              refine hg_run 1 (pc' := 412) (ls' := [some (vr 395), some (vi l1), some (vi l2), some (vi v1), some (vi v2), some (vi v3), z15_6, none]) (st' := [vI 1]) rfl ?_
              cases e
              exact hg_retI rfl (by decide) (fit_B (.inr rfl)) (kr _ _ rfl _ (rgn 1 rfl) A15)
            · intro v15 h15 qq15 w15 r15 A15
              subst qq15
              have e := xs_r e
              cases e
              exact kr _ _ rfl w15 r15 A15
def c282_b13 (l1 : Int) (l2 : Int) (h : hS) : Option ((Int × hS) ⊕ ((hS) ⊕ (Int × hS))) :=
  (c199 1 l1 5 h).bind (fun v3 =>
  if v3 ≤ l2 then
  some (.inr (.inl (h)))
  else
  (c199 1 l1 (wadd 6 l2) h).bind (fun v5 =>
  (c209 1 l1 v5 h).bind (fun v6 =>
  if v6 = 0 then
  some (.inl ((wadd l2 1), h))
  else
  (c276 8 (-1) (-1) h).bind (fun v8 =>
  (kB v8.1).bind (fun u9 =>
  some (.inr (.inr (v8.1, v8.2))))))))
theorem t282_b13 {d : Nat} (hd : 4 ≤ d) {l1 : Int} {l2 : Int}  {h : hS} {w : mmW} {o : (Int × hS) ⊕ ((hS) ⊕ (Int × hS))} {Q : mmO → Prop} (rl1 : rg l1) (rl2 : rg l2) (A : Abs h w) (e : c282_b13 l1 l2 h = some o) (kb : ∀ (s_0 : Int) (s_1 : hS), o = .inl (s_0, s_1) → ∀ w', rg s_0 → Abs s_1 w' → hG d 282 13 [some (vr 395), some (vi l1), some (vi s_0)] [] w' Q) (ke : ∀ (x_0 : hS), o = .inr (.inl (x_0)) → ∀ w', ∀ (y2 : Option hO), Abs x_0 w' → hG d 282 58 [some (vr 395), some (vi l1), y2] [] w' Q) (kr : ∀ (v1 : Int) (h1 : hS), o = .inr (.inr (v1, h1)) → ∀ w', rg v1 → Abs h1 w' → Q (some (.int (Int32.ofInt v1)), w')) : hG d 282 13 [some (vr 395), some (vi l1), some (vi l2)] [] w Q := by
  unfold c282_b13 at e
  refine hg_run 5 (pc' := 18) (ls' := [some (vr 395), some (vi l1), some (vi l2)]) (st' := [vI 5, vI l1, vI 1, vR 395, vI l2]) rfl ?_
  obtain ⟨v3, e3, e⟩ := ob e
  refine hg_cIp (as := [vR 395, vI 1, vI l1, vI 5]) (st' := [vI l2]) rfl (fun _ _ _ _ => rfl) rfl rfl (Nat.le_of_ble_eq_true rfl) (Nat.le_of_ble_eq_true rfl) (recvV A (a := 13) (Abs_ks A (i := 23) rfl).1) (t199 (by omega) A (rgn 1 rfl) rl1 (rgn 5 rfl) e3) (fun r3 => ?_)
  rcases oi e with ⟨q4, e⟩ | ⟨q4, e⟩
  · refine hg_icT (tgt := 58) rfl (by decide) rl2 r3 q4 ?_
    cases e
    exact ke h rfl _ _  A
  · refine hg_icF (tgt := 58) rfl (by decide) rl2 r3 q4 ?_
    refine hg_run 9 (pc' := 34) (ls' := [some (vr 395), some (vi l1), some (vi l2)]) (st' := [vI (wadd 6 l2), vI l1, vI 1, vR 395, vI l1, vI 1, vR 395]) rfl ?_
    obtain ⟨v5, e5, e⟩ := ob e
    refine hg_cIp (as := [vR 395, vI 1, vI l1, vI (wadd 6 l2)]) (st' := [vI l1, vI 1, vR 395]) rfl (fun _ _ _ _ => rfl) rfl rfl (Nat.le_of_ble_eq_true rfl) (Nat.le_of_ble_eq_true rfl) (recvV A (a := 13) (Abs_ks A (i := 23) rfl).1) (t199 (by omega) A (rgn 1 rfl) rl1 (rg_add _ _) e5) (fun r5 => ?_)
    obtain ⟨v6, e6, e⟩ := ob e
    refine hg_cIp (as := [vR 395, vI 1, vI l1, vI v5]) (st' := []) rfl (fun _ _ _ _ => rfl) rfl rfl (Nat.le_of_ble_eq_true rfl) (Nat.le_of_ble_eq_true rfl) (recvV A (a := 13) (Abs_ks A (i := 23) rfl).1) (t209 (by omega) A (rgn 1 rfl) rl1 r5 e6) (fun r6 => ?_)
    rcases oi e with ⟨q7, e⟩ | ⟨q7, e⟩
    · refine hg_ifT (tgt := 52) rfl (by decide) r6 q7 ?_
      refine hg_run 2 (pc' := 13) (ls' := [some (vr 395), some (vi l1), some (vi (wadd l2 1))]) (st' := []) rfl ?_
      cases e
      exact kb (wadd l2 1) h rfl _ (rg_add _ _) A
    · refine hg_ifF (tgt := 52) rfl (by decide) r6 q7 ?_
      refine hg_run 4 (pc' := 48) (ls' := [some (vr 395), some (vi l1), some (vi l2)]) (st' := [vI (-1), vI (-1), vI 8, vR 395]) rfl ?_
      obtain ⟨v8, e8, e⟩ := ob e
      refine hg_cI (as := [vR 395, vI 8, vI (-1), vI (-1)]) (st' := []) rfl (fun _ _ _ _ => rfl) rfl rfl (Nat.le_of_ble_eq_true rfl) (Nat.le_of_ble_eq_true rfl) (recvV A (a := 13) (Abs_ks A (i := 23) rfl).1) (t276 (by omega) A (rgn 8 rfl) (rgn (-1) rfl) (rgn (-1) rfl) e8) (fun w8 r8 A8 => ?_)
      obtain ⟨u9, e9, e⟩ := ob e
      cases e
      exact hg_retI rfl (by decide) (fit_B (kB_e e9)) (kr _ _ rfl _ r8 A8)
theorem t282_l13 {d : Nat} (hd : 4 ≤ d) {l1 : Int}  {Q : mmO → Prop} (rl1 : rg l1) (n : Nat) {l2 : Int}  {h : hS} {w : mmW} {r : (hS) ⊕ (Int × hS)} (rl2 : rg l2) (A : Abs h w) (e : lp (fun s => c282_b13 l1 s.1 s.2) n (l2, h) = some r) (ke : ∀ (x_0 : hS), r = .inl (x_0) → ∀ w', ∀ (y2 : Option hO), Abs x_0 w' → hG d 282 58 [some (vr 395), some (vi l1), y2] [] w' Q) (kr : ∀ (v1 : Int) (h1 : hS), r = .inr (v1, h1) → ∀ w', rg v1 → Abs h1 w' → Q (some (.int (Int32.ofInt v1)), w')) : hG d 282 13 [some (vr 395), some (vi l1), some (vi l2)] [] w Q := by
  induction n generalizing l2 h w with
  | zero => cases e
  | succ n ih =>
    rcases lp_succ e with ⟨s1, e1, e2⟩ | e1
    · exact t282_b13 hd rl1 rl2 A e1 (fun s_0 s_1 q w1 rl2 A1 => by cases q; exact ih rl2 A1 e2) (fun x_0 q => by cases q) (fun v0 h0 q => by cases q)
    · exact t282_b13 hd rl1 rl2 A e1 (fun s_0 s_1 q => by cases q) (fun x_0 q => by cases q; exact ke _ rfl) (fun v0 h0 q => by cases q; exact kr _ _ rfl)
def c282_b60 (l1 : Int) (l2 : Int) (h : hS) : Option ((Int × hS) ⊕ ((hS) ⊕ (Int × hS))) :=
  (c199 1 l1 30 h).bind (fun v11 =>
  if v11 ≤ l2 then
  some (.inr (.inl (h)))
  else
  (c199 1 l1 (wadd 31 l2) h).bind (fun v13 =>
  (c209 1 l1 v13 h).bind (fun v14 =>
  if v14 = 0 then
  some (.inl ((wadd l2 1), h))
  else
  (c276 8 (-1) (-1) h).bind (fun v16 =>
  (kB v16.1).bind (fun u17 =>
  some (.inr (.inr (v16.1, v16.2))))))))
theorem t282_b60 {d : Nat} (hd : 4 ≤ d) {l1 : Int} {l2 : Int}  {h : hS} {w : mmW} {o : (Int × hS) ⊕ ((hS) ⊕ (Int × hS))} {Q : mmO → Prop} (rl1 : rg l1) (rl2 : rg l2) (A : Abs h w) (e : c282_b60 l1 l2 h = some o) (kb : ∀ (s_0 : Int) (s_1 : hS), o = .inl (s_0, s_1) → ∀ w', rg s_0 → Abs s_1 w' → hG d 282 60 [some (vr 395), some (vi l1), some (vi s_0)] [] w' Q) (ke : ∀ (x_0 : hS), o = .inr (.inl (x_0)) → ∀ w', ∀ (y2 : Option hO), Abs x_0 w' → hG d 282 106 [some (vr 395), some (vi l1), y2] [] w' Q) (kr : ∀ (v1 : Int) (h1 : hS), o = .inr (.inr (v1, h1)) → ∀ w', rg v1 → Abs h1 w' → Q (some (.int (Int32.ofInt v1)), w')) : hG d 282 60 [some (vr 395), some (vi l1), some (vi l2)] [] w Q := by
  unfold c282_b60 at e
  refine hg_run 5 (pc' := 66) (ls' := [some (vr 395), some (vi l1), some (vi l2)]) (st' := [vI 30, vI l1, vI 1, vR 395, vI l2]) rfl ?_
  obtain ⟨v11, e11, e⟩ := ob e
  refine hg_cIp (as := [vR 395, vI 1, vI l1, vI 30]) (st' := [vI l2]) rfl (fun _ _ _ _ => rfl) rfl rfl (Nat.le_of_ble_eq_true rfl) (Nat.le_of_ble_eq_true rfl) (recvV A (a := 13) (Abs_ks A (i := 23) rfl).1) (t199 (by omega) A (rgn 1 rfl) rl1 (rgn 30 rfl) e11) (fun r11 => ?_)
  rcases oi e with ⟨q12, e⟩ | ⟨q12, e⟩
  · refine hg_icT (tgt := 106) rfl (by decide) rl2 r11 q12 ?_
    cases e
    exact ke h rfl _ _  A
  · refine hg_icF (tgt := 106) rfl (by decide) rl2 r11 q12 ?_
    refine hg_run 9 (pc' := 82) (ls' := [some (vr 395), some (vi l1), some (vi l2)]) (st' := [vI (wadd 31 l2), vI l1, vI 1, vR 395, vI l1, vI 1, vR 395]) rfl ?_
    obtain ⟨v13, e13, e⟩ := ob e
    refine hg_cIp (as := [vR 395, vI 1, vI l1, vI (wadd 31 l2)]) (st' := [vI l1, vI 1, vR 395]) rfl (fun _ _ _ _ => rfl) rfl rfl (Nat.le_of_ble_eq_true rfl) (Nat.le_of_ble_eq_true rfl) (recvV A (a := 13) (Abs_ks A (i := 23) rfl).1) (t199 (by omega) A (rgn 1 rfl) rl1 (rg_add _ _) e13) (fun r13 => ?_)
    obtain ⟨v14, e14, e⟩ := ob e
    refine hg_cIp (as := [vR 395, vI 1, vI l1, vI v13]) (st' := []) rfl (fun _ _ _ _ => rfl) rfl rfl (Nat.le_of_ble_eq_true rfl) (Nat.le_of_ble_eq_true rfl) (recvV A (a := 13) (Abs_ks A (i := 23) rfl).1) (t209 (by omega) A (rgn 1 rfl) rl1 r13 e14) (fun r14 => ?_)
    rcases oi e with ⟨q15, e⟩ | ⟨q15, e⟩
    · refine hg_ifT (tgt := 100) rfl (by decide) r14 q15 ?_
      refine hg_run 2 (pc' := 60) (ls' := [some (vr 395), some (vi l1), some (vi (wadd l2 1))]) (st' := []) rfl ?_
      cases e
      exact kb (wadd l2 1) h rfl _ (rg_add _ _) A
    · refine hg_ifF (tgt := 100) rfl (by decide) r14 q15 ?_
      refine hg_run 4 (pc' := 96) (ls' := [some (vr 395), some (vi l1), some (vi l2)]) (st' := [vI (-1), vI (-1), vI 8, vR 395]) rfl ?_
      obtain ⟨v16, e16, e⟩ := ob e
      refine hg_cI (as := [vR 395, vI 8, vI (-1), vI (-1)]) (st' := []) rfl (fun _ _ _ _ => rfl) rfl rfl (Nat.le_of_ble_eq_true rfl) (Nat.le_of_ble_eq_true rfl) (recvV A (a := 13) (Abs_ks A (i := 23) rfl).1) (t276 (by omega) A (rgn 8 rfl) (rgn (-1) rfl) (rgn (-1) rfl) e16) (fun w16 r16 A16 => ?_)
      obtain ⟨u17, e17, e⟩ := ob e
      cases e
      exact hg_retI rfl (by decide) (fit_B (kB_e e17)) (kr _ _ rfl _ r16 A16)
theorem t282_l60 {d : Nat} (hd : 4 ≤ d) {l1 : Int}  {Q : mmO → Prop} (rl1 : rg l1) (n : Nat) {l2 : Int}  {h : hS} {w : mmW} {r : (hS) ⊕ (Int × hS)} (rl2 : rg l2) (A : Abs h w) (e : lp (fun s => c282_b60 l1 s.1 s.2) n (l2, h) = some r) (ke : ∀ (x_0 : hS), r = .inl (x_0) → ∀ w', ∀ (y2 : Option hO), Abs x_0 w' → hG d 282 106 [some (vr 395), some (vi l1), y2] [] w' Q) (kr : ∀ (v1 : Int) (h1 : hS), r = .inr (v1, h1) → ∀ w', rg v1 → Abs h1 w' → Q (some (.int (Int32.ofInt v1)), w')) : hG d 282 60 [some (vr 395), some (vi l1), some (vi l2)] [] w Q := by
  induction n generalizing l2 h w with
  | zero => cases e
  | succ n ih =>
    rcases lp_succ e with ⟨s1, e1, e2⟩ | e1
    · exact t282_b60 hd rl1 rl2 A e1 (fun s_0 s_1 q w1 rl2 A1 => by cases q; exact ih rl2 A1 e2) (fun x_0 q => by cases q) (fun v0 h0 q => by cases q)
    · exact t282_b60 hd rl1 rl2 A e1 (fun s_0 s_1 q => by cases q) (fun x_0 q => by cases q; exact ke _ rfl) (fun v0 h0 q => by cases q; exact kr _ _ rfl)
def c282_b2 (l1 : Int) (h : hS) : Option ((Int × hS) ⊕ ((hS) ⊕ (Int × hS))) :=
  (c198 1 h).bind (fun v1 =>
  if v1 ≤ l1 then
  some (.inr (.inl (h)))
  else
  (lp (fun s => c282_b13 l1 s.1 s.2) hF0 (0, h)).bind (fun r10 => xs r10 (fun x10 =>
  (lp (fun s => c282_b60 l1 s.1 s.2) hF0 (0, x10)).bind (fun r18 => xs r18 (fun x18 =>
  some (.inl ((wadd l1 1), x18))) (fun o18 => some (.inr (.inr o18))))) (fun o10 => some (.inr (.inr o10)))))
theorem t282_b2 {d : Nat} (hd : 4 ≤ d) {l1 : Int} {z2 : Option hO} {h : hS} {w : mmW} {o : (Int × hS) ⊕ ((hS) ⊕ (Int × hS))} {Q : mmO → Prop} (rl1 : rg l1) (A : Abs h w) (e : c282_b2 l1 h = some o) (kb : ∀ (s_0 : Int) (s_1 : hS), o = .inl (s_0, s_1) → ∀ w', ∀ (y2 : Option hO), rg s_0 → Abs s_1 w' → hG d 282 2 [some (vr 395), some (vi s_0), y2] [] w' Q) (ke : ∀ (x_0 : hS), o = .inr (.inl (x_0)) → ∀ w', ∀ (y1 y2 : Option hO), Abs x_0 w' → hG d 282 112 [some (vr 395), y1, y2] [] w' Q) (kr : ∀ (v1 : Int) (h1 : hS), o = .inr (.inr (v1, h1)) → ∀ w', rg v1 → Abs h1 w' → Q (some (.int (Int32.ofInt v1)), w')) : hG d 282 2 [some (vr 395), some (vi l1), z2] [] w Q := by
  unfold c282_b2 at e
  refine hg_run 3 (pc' := 5) (ls' := [some (vr 395), some (vi l1), z2]) (st' := [vI 1, vR 395, vI l1]) rfl ?_
  obtain ⟨v1, e1, e⟩ := ob e
  refine hg_cIp (as := [vR 395, vI 1]) (st' := [vI l1]) rfl (fun _ _ _ _ => rfl) rfl rfl (Nat.le_of_ble_eq_true rfl) (Nat.le_of_ble_eq_true rfl) (recvV A (a := 13) (Abs_ks A (i := 23) rfl).1) (t198 (by omega) A (rgn 1 rfl) e1) (fun r1 => ?_)
  rcases oi e with ⟨q2, e⟩ | ⟨q2, e⟩
  · refine hg_icT (tgt := 112) rfl (by decide) rl1 r1 q2 ?_
    cases e
    exact ke h rfl _ _ _  A
  · refine hg_icF (tgt := 112) rfl (by decide) rl1 r1 q2 ?_
    refine hg_run 2 (pc' := 13) (ls' := [some (vr 395), some (vi l1), some (vi 0)]) (st' := []) rfl ?_
    obtain ⟨r10, e10, e⟩ := ob e
    refine t282_l13 hd rl1 _ (rgn 0 rfl) A e10 ?_ ?_
    · intro x10_0 qq10 w10 z10_2 A10
      subst qq10
      have e := xs_l e
      refine hg_run 2 (pc' := 60) (ls' := [some (vr 395), some (vi l1), some (vi 0)]) (st' := []) rfl ?_
      obtain ⟨r18, e18, e⟩ := ob e
      refine t282_l60 hd rl1 _ (rgn 0 rfl) A10 e18 ?_ ?_
      · intro x18_0 qq18 w18 z18_2 A18
        subst qq18
        have e := xs_l e
        refine hg_run 2 (pc' := 2) (ls' := [some (vr 395), some (vi (wadd l1 1)), z18_2]) (st' := []) rfl ?_
        cases e
        exact kb (wadd l1 1) x18_0 rfl _ _ (rg_add _ _) A18
      · intro v18 h18 qq18 w18 r18 A18
        subst qq18
        have e := xs_r e
        cases e
        exact kr _ _ rfl w18 r18 A18
    · intro v10 h10 qq10 w10 r10 A10
      subst qq10
      have e := xs_r e
      cases e
      exact kr _ _ rfl w10 r10 A10
theorem t282_l2 {d : Nat} (hd : 4 ≤ d)   {Q : mmO → Prop}  (n : Nat) {l1 : Int} {z2 : Option hO} {h : hS} {w : mmW} {r : (hS) ⊕ (Int × hS)} (rl1 : rg l1) (A : Abs h w) (e : lp (fun s => c282_b2  s.1 s.2) n (l1, h) = some r) (ke : ∀ (x_0 : hS), r = .inl (x_0) → ∀ w', ∀ (y1 y2 : Option hO), Abs x_0 w' → hG d 282 112 [some (vr 395), y1, y2] [] w' Q) (kr : ∀ (v1 : Int) (h1 : hS), r = .inr (v1, h1) → ∀ w', rg v1 → Abs h1 w' → Q (some (.int (Int32.ofInt v1)), w')) : hG d 282 2 [some (vr 395), some (vi l1), z2] [] w Q := by
  induction n generalizing l1 z2 h w with
  | zero => cases e
  | succ n ih =>
    rcases lp_succ e with ⟨s1, e1, e2⟩ | e1
    · exact t282_b2 hd rl1 A e1 (fun s_0 s_1 q w1 y2 rl1 A1 => by cases q; exact ih rl1 A1 e2) (fun x_0 q => by cases q) (fun v0 h0 q => by cases q)
    · exact t282_b2 hd rl1 A e1 (fun s_0 s_1 q => by cases q) (fun x_0 q => by cases q; exact ke _ rfl) (fun v0 h0 q => by cases q; exact kr _ _ rfl)
def c282 (h : hS) : Option (Int × hS) :=
  (lp (fun s => c282_b2  s.1 s.2) hF0 (0, h)).bind (fun r19 => xs r19 (fun x19 =>
  some (1, x19)) (fun o19 => some o19))
theorem t282 {d : Nat} (hd : 5 ≤ d)  {h : hS} {w : mmW} {o : Int × hS} (A : Abs h w)  (e : c282 h = some o) : hEv d 282 [vR 395] w (qI o) := by
  obtain ⟨d, rfl⟩ : ∃ d1, d = d1 + 1 := ⟨d - 1, by omega⟩
  have hd : 4 ≤ d := by omega
  refine hEv_start (args := [vr 395]) (nl := 3) rfl (Nat.le_of_ble_eq_true rfl) ?_
  show hG d 282 0 [some (vr 395), none, none] [] w _
  have kr : ∀ (v1 : Int) (h1 : hS), o = (v1, h1) → ∀ w', rg v1 → Abs h1 w' → qI o (some (.int (Int32.ofInt v1)), w') := fun v1 h1 q w' r A' => by cases q; exact ⟨rfl, r, A'⟩
  unfold c282 at e
  refine hg_run 2 (pc' := 2) (ls' := [some (vr 395), some (vi 0), none]) (st' := []) rfl ?_
  obtain ⟨r19, e19, e⟩ := ob e
  refine t282_l2 hd  _ (rgn 0 rfl) A e19 ?_ ?_
  · intro x19_0 qq19 w19 z19_1 z19_2 A19
    subst qq19
    have e := xs_l e
    refine hg_run 1 (pc' := 113) (ls' := [some (vr 395), z19_1, z19_2]) (st' := [vI 1]) rfl ?_
    cases e
    exact hg_retI rfl (by decide) (fit_B (.inr rfl)) (kr _ _ rfl _ (rgn 1 rfl) A19)
  · intro v19 h19 qq19 w19 r19 A19
    subst qq19
    have e := xs_r e
    cases e
    exact kr _ _ rfl w19 r19 A19
def c284_b2 (l1 : Int) (h : hS) (l2 : Int) : Option ((Int) ⊕ ((Unit) ⊕ (Int))) :=
  (c198 1 h).bind (fun v1 =>
  if v1 ≤ l2 then
  some (.inr (.inl ()))
  else
  (c199 1 l2 4 h).bind (fun v3 =>
  (aIs h 404 40 l1).bind (fun v4 =>
  if v3 = v4 then
  some (.inr (.inr l2))
  else
  some (.inl ((wadd l2 1))))))
theorem t284_b2 {d : Nat} (hd : 1 ≤ d) {l1 : Int} {l2 : Int}  {h : hS} {w : mmW} {o : (Int) ⊕ ((Unit) ⊕ (Int))} {Q : mmO → Prop} (rl1 : rg l1) (rl2 : rg l2) (A : Abs h w) (e : c284_b2 l1 h l2 = some o) (kb : ∀ (s_0 : Int), o = .inl (s_0) → rg s_0 → hG d 284 2 [some (vr 395), some (vi l1), some (vi s_0)] [] w Q) (ke : o = .inr (.inl ()) → ∀ (y2 : Option hO), hG d 284 35 [some (vr 395), some (vi l1), y2] [] w Q) (kr : ∀ v1 : Int, o = .inr (.inr v1) → rg v1 → Q (some (.int (Int32.ofInt v1)), w)) : hG d 284 2 [some (vr 395), some (vi l1), some (vi l2)] [] w Q := by
  unfold c284_b2 at e
  refine hg_run 3 (pc' := 5) (ls' := [some (vr 395), some (vi l1), some (vi l2)]) (st' := [vI 1, vR 395, vI l2]) rfl ?_
  obtain ⟨v1, e1, e⟩ := ob e
  refine hg_cIp (as := [vR 395, vI 1]) (st' := [vI l2]) rfl (fun _ _ _ _ => rfl) rfl rfl (Nat.le_of_ble_eq_true rfl) (Nat.le_of_ble_eq_true rfl) (recvV A (a := 13) (Abs_ks A (i := 23) rfl).1) (t198 (by omega) A (rgn 1 rfl) e1) (fun r1 => ?_)
  rcases oi e with ⟨q2, e⟩ | ⟨q2, e⟩
  · refine hg_icT (tgt := 35) rfl (by decide) rl2 r1 q2 ?_
    cases e
    exact ke  rfl _ 
  · refine hg_icF (tgt := 35) rfl (by decide) rl2 r1 q2 ?_
    refine hg_run 4 (pc' := 15) (ls' := [some (vr 395), some (vi l1), some (vi l2)]) (st' := [vI 4, vI l2, vI 1, vR 395]) rfl ?_
    obtain ⟨v3, e3, e⟩ := ob e
    refine hg_cIp (as := [vR 395, vI 1, vI l2, vI 4]) (st' := []) rfl (fun _ _ _ _ => rfl) rfl rfl (Nat.le_of_ble_eq_true rfl) (Nat.le_of_ble_eq_true rfl) (recvV A (a := 13) (Abs_ks A (i := 23) rfl).1) (t199 (by omega) A (rgn 1 rfl) rl2 (rgn 4 rfl) e3) (fun r3 => ?_)
    refine hg_run 1 (pc' := 19) (ls' := [some (vr 395), some (vi l1), some (vi l2)]) (st' := [vR 395, vI v3]) rfl ?_
    refine gs_395_35 rfl A ?_
    refine hg_run 1 (pc' := 23) (ls' := [some (vr 395), some (vi l1), some (vi l2)]) (st' := [vI l1, vR 404, vI v3]) rfl ?_
    obtain ⟨v4, e4, e⟩ := ob e
    refine hg_aIs 0 rfl (fun _ _ _ _ => rfl) A (Abs_ks A (i := 32) rfl) rfl (by decide) e4 (fun r4 => ?_)
    rcases oi e with ⟨q5, e⟩ | ⟨q5, e⟩
    · refine hg_icF (tgt := 29) rfl (by decide) r3 r4 (show ¬ ¬ (v3 = v4) from fun f => f q5) ?_
      refine hg_run 1 (pc' := 28) (ls' := [some (vr 395), some (vi l1), some (vi l2)]) (st' := [vI l2]) rfl ?_
      cases e
      exact hg_retI rfl (by decide) (fit_I _) (kr _ rfl rl2)
    · refine hg_icT (tgt := 29) rfl (by decide) r3 r4 (show ¬ (v3 = v4) from q5) ?_
      refine hg_run 2 (pc' := 2) (ls' := [some (vr 395), some (vi l1), some (vi (wadd l2 1))]) (st' := []) rfl ?_
      cases e
      exact kb (wadd l2 1) rfl (rg_add _ _)
theorem t284_l2 {d : Nat} (hd : 1 ≤ d) {l1 : Int}  {h : hS} {w : mmW} {Q : mmO → Prop} (rl1 : rg l1) (n : Nat) {l2 : Int}  {r : (Unit) ⊕ (Int)} (rl2 : rg l2) (A : Abs h w) (e : lp (fun s => c284_b2 l1 h s) n (l2) = some r) (ke : r = .inl () → ∀ (y2 : Option hO), hG d 284 35 [some (vr 395), some (vi l1), y2] [] w Q) (kr : ∀ v1 : Int, r = .inr v1 → rg v1 → Q (some (.int (Int32.ofInt v1)), w)) : hG d 284 2 [some (vr 395), some (vi l1), some (vi l2)] [] w Q := by
  induction n generalizing l2 with
  | zero => cases e
  | succ n ih =>
    rcases lp_succ e with ⟨s1, e1, e2⟩ | e1
    · exact t284_b2 hd rl1 rl2 A e1 (fun s_0 q rl2 => by cases q; exact ih rl2 e2) (fun  q => by cases q) (fun v0 q => by cases q)
    · exact t284_b2 hd rl1 rl2 A e1 (fun s_0 q => by cases q) (fun  q => by cases q; exact ke  rfl) (fun v0 q => by cases q; exact kr _ rfl)
def c284 (l1 : Int) (h : hS) : Option (Int) :=
  (lp (fun s => c284_b2 l1 h s) hF0 (0)).bind (fun r6 => xs r6 (fun x6 =>
  some (-1)) (fun o6 => some o6))
theorem t284 {d : Nat} (hd : 2 ≤ d) {l1 : Int} {h : hS} {w : mmW} {o : Int} (A : Abs h w) (rl1 : rg l1) (e : c284 l1 h = some o) : hEv d 284 [vR 395, vI l1] w (qIp o w) := by
  obtain ⟨d, rfl⟩ : ∃ d1, d = d1 + 1 := ⟨d - 1, by omega⟩
  have hd : 1 ≤ d := by omega
  refine hEv_start (args := [vr 395, vi l1]) (nl := 3) rfl (Nat.le_of_ble_eq_true rfl) ?_
  show hG d 284 0 [some (vr 395), some (vi l1), none] [] w _
  have kr : ∀ v1 : Int, o = v1 → rg v1 → qIp o w (some (.int (Int32.ofInt v1)), w) := fun v1 q r => by cases q; exact ⟨rfl, r⟩
  unfold c284 at e
  refine hg_run 2 (pc' := 2) (ls' := [some (vr 395), some (vi l1), some (vi 0)]) (st' := []) rfl ?_
  obtain ⟨r6, e6, e⟩ := ob e
  refine t284_l2 hd rl1 _ (rgn 0 rfl) A e6 ?_ ?_
  · intro  qq6 z6_2
    subst qq6
    have e := xs_l e
    refine hg_run 1 (pc' := 36) (ls' := [some (vr 395), some (vi l1), z6_2]) (st' := [vI (-1)]) rfl ?_
    cases e
    exact hg_retI rfl (by decide) (fit_I _) (kr _ rfl (rgn (-1) rfl))
  · intro v6 qq6 r6
    subst qq6
    have e := xs_r e
    cases e
    exact kr _ rfl r6
def c286_b2 (l3 : Int) (h : hS) : Option ((Int × hS) ⊕ (hS)) :=
  if 40 ≤ l3 then
  some (.inr (h))
  else
  (wIs h 444 40 l3 (-1)).bind (fun h2 =>
  some (.inl ((wadd l3 1), h2)))
set_option maxRecDepth 100000 in
theorem t286_b2 {d : Nat} (hd : 2 ≤ d) {l3 : Int} {l1 : Int} {l2 : Int} {z4 : Option hO} {z5 : Option hO} {z6 : Option hO} {h : hS} {w : mmW} {o : (Int × hS) ⊕ (hS)} {Q : mmO → Prop} (rl3 : rg l3) (A : Abs h w) (e : c286_b2 l3 h = some o) (kb : ∀ (s_0 : Int) (s_1 : hS), o = .inl (s_0, s_1) → ∀ w', rg s_0 → Abs s_1 w' → hG d 286 2 [some (vr 395), some (vi l1), some (vi l2), some (vi s_0), z4, z5, z6] [] w' Q) (ke : ∀ (x_0 : hS), o = .inr (x_0) → ∀ w', ∀ (y3 : Option hO), Abs x_0 w' → hG d 286 21 [some (vr 395), some (vi l1), some (vi l2), y3, z4, z5, z6] [] w' Q) : hG d 286 2 [some (vr 395), some (vi l1), some (vi l2), some (vi l3), z4, z5, z6] [] w Q := by
  unfold c286_b2 at e
  refine hg_run 2 (pc' := 5) (ls' := [some (vr 395), some (vi l1), some (vi l2), some (vi l3), z4, z5, z6]) (st' := [vI 40, vI l3]) rfl ?_
  rcases oi e with ⟨q1, e⟩ | ⟨q1, e⟩
  · refine hg_icT (tgt := 21) rfl (by decide) rl3 (rgn 40 rfl) q1 ?_
    cases e
    exact ke h rfl _ _  A
  · refine hg_icF (tgt := 21) rfl (by decide) rl3 (rgn 40 rfl) q1 ?_
    refine hg_run 1 (pc' := 9) (ls' := [some (vr 395), some (vi l1), some (vi l2), some (vi l3), z4, z5, z6]) (st' := [vR 395]) rfl ?_
    refine gs_395_91 rfl A ?_
    refine hg_run 2 (pc' := 14) (ls' := [some (vr 395), some (vi l1), some (vi l2), some (vi l3), z4, z5, z6]) (st' := [vI (-1), vI l3, vR 444]) rfl ?_
    obtain ⟨h2, e2, e⟩ := ob e
    refine hg_wIs rfl A (Abs_ks A (i := 72) rfl) (by decide) (rgn (-1) rfl) e2 (fun w2 A2 => ?_)
    refine hg_run 2 (pc' := 2) (ls' := [some (vr 395), some (vi l1), some (vi l2), some (vi (wadd l3 1)), z4, z5, z6]) (st' := []) rfl ?_
    cases e
    exact kb (wadd l3 1) h2 rfl _ (rg_add _ _) A2
set_option maxRecDepth 100000 in
theorem t286_l2 {d : Nat} (hd : 2 ≤ d)  {l1 : Int} {l2 : Int} {z4 : Option hO} {z5 : Option hO} {z6 : Option hO} {Q : mmO → Prop}  (n : Nat) {l3 : Int}  {h : hS} {w : mmW} {r : hS} (rl3 : rg l3) (A : Abs h w) (e : lp (fun s => c286_b2  s.1 s.2) n (l3, h) = some r) (ke : ∀ (x_0 : hS), r = (x_0) → ∀ w', ∀ (y3 : Option hO), Abs x_0 w' → hG d 286 21 [some (vr 395), some (vi l1), some (vi l2), y3, z4, z5, z6] [] w' Q) : hG d 286 2 [some (vr 395), some (vi l1), some (vi l2), some (vi l3), z4, z5, z6] [] w Q := by
  induction n generalizing l3 h w with
  | zero => cases e
  | succ n ih =>
    rcases lp_succ e with ⟨s1, e1, e2⟩ | e1
    · exact t286_b2 hd rl3 A e1 (fun s_0 s_1 q w1 rl3 A1 => by cases q; exact ih rl3 A1 e2) (fun x_0 q => by cases q)
    · exact t286_b2 hd rl3 A e1 (fun s_0 s_1 q => by cases q) (fun x_0 q => by cases q; exact ke _ rfl)
def c286_j150 (l6 : Int) (h : hS) : Option ((Int × hS) ⊕ (hS)) :=
  (c257 l6 4 h).bind (fun v13 =>
  some (.inl (v13, h)))
set_option maxRecDepth 100000 in
theorem t286_j150 {d : Nat} (hd : 2 ≤ d) {l6 : Int} {z1 : Option hO} {l2 : Int} {l3 : Int} {l4 : Int} {l5 : Int} {h : hS} {w : mmW} {o : (Int × hS) ⊕ (hS)} {Q : mmO → Prop} (rl6 : rg l6) (A : Abs h w) (e : c286_j150 l6 h = some o) (kb : ∀ (s_0 : Int) (s_1 : hS), o = .inl (s_0, s_1) → ∀ w', rg s_0 → Abs s_1 w' → hG d 286 86 [some (vr 395), z1, some (vi l2), some (vi l3), some (vi l4), some (vi l5), some (vi s_0)] [] w' Q) (ke : ∀ (x_0 : hS), o = .inr (x_0) → ∀ w', ∀ (y6 : Option hO), Abs x_0 w' → hG d 286 162 [some (vr 395), z1, some (vi l2), some (vi l3), some (vi l4), some (vi l5), y6] [] w' Q) : hG d 286 150 [some (vr 395), z1, some (vi l2), some (vi l3), some (vi l4), some (vi l5), some (vi l6)] [] w Q := by
  unfold c286_j150 at e
  refine hg_run 3 (pc' := 154) (ls' := [some (vr 395), z1, some (vi l2), some (vi l3), some (vi l4), some (vi l5), some (vi l6)]) (st' := [vI 4, vI l6, vR 395]) rfl ?_
  obtain ⟨v13, e13, e⟩ := ob e
  refine hg_cIp (as := [vR 395, vI l6, vI 4]) (st' := []) rfl (fun _ _ _ _ => rfl) rfl rfl (Nat.le_of_ble_eq_true rfl) (Nat.le_of_ble_eq_true rfl) (recvV A (a := 13) (Abs_ks A (i := 23) rfl).1) (t257 (by omega) A rl6 (rgn 4 rfl) e13) (fun r13 => ?_)
  refine hg_run 2 (pc' := 86) (ls' := [some (vr 395), z1, some (vi l2), some (vi l3), some (vi l4), some (vi l5), some (vi v13)]) (st' := []) rfl ?_
  cases e
  exact kb v13 h rfl _ r13 A
def c286_b86 (l2 : Int) (l3 : Int) (l5 : Int) (l6 : Int) (h : hS) : Option ((Int × hS) ⊕ (hS)) :=
  if l6 = (-1) then
  some (.inr (h))
  else
  (c256 l6 0 h).bind (fun v11 =>
  if v11 = 35 then
  (c279 1 l2 l5 h).bind (fun v14 =>
  if v14 = 0 then
  c286_j150 l6 h
  else
  (c256 l6 1 h).bind (fun v16 =>
  (c257 l6 2 h).bind (fun v17 =>
  (wIs h 444 40 v16 v17).bind (fun h18 =>
  (c256 l6 1 h18).bind (fun v19 =>
  (wIs h18 445 40 v19 l3).bind (fun h20 =>
  c286_j150 l6 h20))))))
  else
  c286_j150 l6 h)
set_option maxRecDepth 100000 in
theorem t286_b86 {d : Nat} (hd : 2 ≤ d) {l2 : Int} {l3 : Int} {l5 : Int} {l6 : Int} {z1 : Option hO} {l4 : Int} {h : hS} {w : mmW} {o : (Int × hS) ⊕ (hS)} {Q : mmO → Prop} (rl2 : rg l2) (rl3 : rg l3) (rl5 : rg l5) (rl6 : rg l6) (A : Abs h w) (e : c286_b86 l2 l3 l5 l6 h = some o) (kb : ∀ (s_0 : Int) (s_1 : hS), o = .inl (s_0, s_1) → ∀ w', rg s_0 → Abs s_1 w' → hG d 286 86 [some (vr 395), z1, some (vi l2), some (vi l3), some (vi l4), some (vi l5), some (vi s_0)] [] w' Q) (ke : ∀ (x_0 : hS), o = .inr (x_0) → ∀ w', ∀ (y6 : Option hO), Abs x_0 w' → hG d 286 162 [some (vr 395), z1, some (vi l2), some (vi l3), some (vi l4), some (vi l5), y6] [] w' Q) : hG d 286 86 [some (vr 395), z1, some (vi l2), some (vi l3), some (vi l4), some (vi l5), some (vi l6)] [] w Q := by
  unfold c286_b86 at e
  refine hg_run 2 (pc' := 89) (ls' := [some (vr 395), z1, some (vi l2), some (vi l3), some (vi l4), some (vi l5), some (vi l6)]) (st' := [vI (-1), vI l6]) rfl ?_
  rcases oi e with ⟨q10, e⟩ | ⟨q10, e⟩
  · refine hg_icT (tgt := 162) rfl (by decide) rl6 (rgn (-1) rfl) q10 ?_
    cases e
    exact ke h rfl _ _  A
  · refine hg_icF (tgt := 162) rfl (by decide) rl6 (rgn (-1) rfl) q10 ?_
    refine hg_run 3 (pc' := 96) (ls' := [some (vr 395), z1, some (vi l2), some (vi l3), some (vi l4), some (vi l5), some (vi l6)]) (st' := [vI 0, vI l6, vR 395]) rfl ?_
    obtain ⟨v11, e11, e⟩ := ob e
    refine hg_cIp (as := [vR 395, vI l6, vI 0]) (st' := []) rfl (fun _ _ _ _ => rfl) rfl rfl (Nat.le_of_ble_eq_true rfl) (Nat.le_of_ble_eq_true rfl) (recvV A (a := 13) (Abs_ks A (i := 23) rfl).1) (t256 (by omega) A rl6 (rgn 0 rfl) e11) (fun r11 => ?_)
    refine hg_run 1 (pc' := 101) (ls' := [some (vr 395), z1, some (vi l2), some (vi l3), some (vi l4), some (vi l5), some (vi l6)]) (st' := [vI 35, vI v11]) rfl ?_
    rcases oi e with ⟨q12, e⟩ | ⟨q12, e⟩
    · refine hg_icF (tgt := 150) rfl (by decide) r11 (rgn 35 rfl) (show ¬ ¬ (v11 = 35) from fun f => f q12) ?_
      refine hg_run 4 (pc' := 109) (ls' := [some (vr 395), z1, some (vi l2), some (vi l3), some (vi l4), some (vi l5), some (vi l6)]) (st' := [vI l5, vI l2, vI 1, vR 395]) rfl ?_
      obtain ⟨v14, e14, e⟩ := ob e
      refine hg_cIp (as := [vR 395, vI 1, vI l2, vI l5]) (st' := []) rfl (fun _ _ _ _ => rfl) rfl rfl (Nat.le_of_ble_eq_true rfl) (Nat.le_of_ble_eq_true rfl) (recvV A (a := 13) (Abs_ks A (i := 23) rfl).1) (t279 (by omega) A (rgn 1 rfl) rl2 rl5 e14) (fun r14 => ?_)
      rcases oi e with ⟨q15, e⟩ | ⟨q15, e⟩
      · refine hg_ifF (tgt := 118) rfl (by decide) r14 (show ¬ ¬ (v14 = 0) from fun f => f q15) ?_
        refine hg_run 1 (pc' := 150) (ls' := [some (vr 395), z1, some (vi l2), some (vi l3), some (vi l4), some (vi l5), some (vi l6)]) (st' := []) rfl ?_
        exact t286_j150 hd rl6 A e kb ke
      · refine hg_ifT (tgt := 118) rfl (by decide) r14 (show ¬ (v14 = 0) from q15) ?_
        refine hg_run 1 (pc' := 119) (ls' := [some (vr 395), z1, some (vi l2), some (vi l3), some (vi l4), some (vi l5), some (vi l6)]) (st' := [vR 395]) rfl ?_
        refine gs_395_91 rfl A ?_
        refine hg_run 3 (pc' := 126) (ls' := [some (vr 395), z1, some (vi l2), some (vi l3), some (vi l4), some (vi l5), some (vi l6)]) (st' := [vI 1, vI l6, vR 395, vR 444]) rfl ?_
        obtain ⟨v16, e16, e⟩ := ob e
        refine hg_cIp (as := [vR 395, vI l6, vI 1]) (st' := [vR 444]) rfl (fun _ _ _ _ => rfl) rfl rfl (Nat.le_of_ble_eq_true rfl) (Nat.le_of_ble_eq_true rfl) (recvV A (a := 13) (Abs_ks A (i := 23) rfl).1) (t256 (by omega) A rl6 (rgn 1 rfl) e16) (fun r16 => ?_)
        refine hg_run 3 (pc' := 133) (ls' := [some (vr 395), z1, some (vi l2), some (vi l3), some (vi l4), some (vi l5), some (vi l6)]) (st' := [vI 2, vI l6, vR 395, vI v16, vR 444]) rfl ?_
        obtain ⟨v17, e17, e⟩ := ob e
        refine hg_cIp (as := [vR 395, vI l6, vI 2]) (st' := [vI v16, vR 444]) rfl (fun _ _ _ _ => rfl) rfl rfl (Nat.le_of_ble_eq_true rfl) (Nat.le_of_ble_eq_true rfl) (recvV A (a := 13) (Abs_ks A (i := 23) rfl).1) (t257 (by omega) A rl6 (rgn 2 rfl) e17) (fun r17 => ?_)
        obtain ⟨h18, e18, e⟩ := ob e
        refine hg_wIs rfl A (Abs_ks A (i := 72) rfl) (by decide) r17 e18 (fun w18 A18 => ?_)
        refine hg_run 1 (pc' := 138) (ls' := [some (vr 395), z1, some (vi l2), some (vi l3), some (vi l4), some (vi l5), some (vi l6)]) (st' := [vR 395]) rfl ?_
        refine gs_395_92 rfl A18 ?_
        refine hg_run 3 (pc' := 145) (ls' := [some (vr 395), z1, some (vi l2), some (vi l3), some (vi l4), some (vi l5), some (vi l6)]) (st' := [vI 1, vI l6, vR 395, vR 445]) rfl ?_
        obtain ⟨v19, e19, e⟩ := ob e
        refine hg_cIp (as := [vR 395, vI l6, vI 1]) (st' := [vR 445]) rfl (fun _ _ _ _ => rfl) rfl rfl (Nat.le_of_ble_eq_true rfl) (Nat.le_of_ble_eq_true rfl) (recvV A18 (a := 13) (Abs_ks A18 (i := 23) rfl).1) (t256 (by omega) A18 rl6 (rgn 1 rfl) e19) (fun r19 => ?_)
        refine hg_run 1 (pc' := 149) (ls' := [some (vr 395), z1, some (vi l2), some (vi l3), some (vi l4), some (vi l5), some (vi l6)]) (st' := [vI l3, vI v19, vR 445]) rfl ?_
        obtain ⟨h20, e20, e⟩ := ob e
        refine hg_wIs rfl A18 (Abs_ks A18 (i := 73) rfl) (by decide) rl3 e20 (fun w20 A20 => ?_)
        exact t286_j150 hd rl6 A20 e kb ke
    · refine hg_icT (tgt := 150) rfl (by decide) r11 (rgn 35 rfl) (show ¬ (v11 = 35) from q12) ?_
      exact t286_j150 hd rl6 A e kb ke
set_option maxRecDepth 100000 in
theorem t286_l86 {d : Nat} (hd : 2 ≤ d) {l2 : Int} {l3 : Int} {l5 : Int} {z1 : Option hO} {l4 : Int} {Q : mmO → Prop} (rl2 : rg l2) (rl3 : rg l3) (rl5 : rg l5) (n : Nat) {l6 : Int}  {h : hS} {w : mmW} {r : hS} (rl6 : rg l6) (A : Abs h w) (e : lp (fun s => c286_b86 l2 l3 l5 s.1 s.2) n (l6, h) = some r) (ke : ∀ (x_0 : hS), r = (x_0) → ∀ w', ∀ (y6 : Option hO), Abs x_0 w' → hG d 286 162 [some (vr 395), z1, some (vi l2), some (vi l3), some (vi l4), some (vi l5), y6] [] w' Q) : hG d 286 86 [some (vr 395), z1, some (vi l2), some (vi l3), some (vi l4), some (vi l5), some (vi l6)] [] w Q := by
  induction n generalizing l6 h w with
  | zero => cases e
  | succ n ih =>
    rcases lp_succ e with ⟨s1, e1, e2⟩ | e1
    · exact t286_b86 hd rl2 rl3 rl5 rl6 A e1 (fun s_0 s_1 q w1 rl6 A1 => by cases q; exact ih rl6 A1 e2) (fun x_0 q => by cases q)
    · exact t286_b86 hd rl2 rl3 rl5 rl6 A e1 (fun s_0 s_1 q => by cases q) (fun x_0 q => by cases q; exact ke _ rfl)
def c286_j84 (s0 : Int) (l2 : Int) (l3 : Int) (l4 : Int) (l5 : Int) (h : hS) : Option ((Int × Int × hS) ⊕ (hS)) :=
  (lp (fun s => c286_b86 l2 l3 l5 s.1 s.2) hF0 (s0, h)).bind (fun r21 =>
  (c257 l4 4 r21).bind (fun v22 =>
  some (.inl ((wadd l3 1), v22, r21))))
set_option maxRecDepth 100000 in
theorem t286_j84 {d : Nat} (hd : 2 ≤ d) {s0 : Int} {l2 : Int} {l3 : Int} {l4 : Int} {l5 : Int} {z1 : Option hO} {z6 : Option hO} {h : hS} {w : mmW} {o : (Int × Int × hS) ⊕ (hS)} {Q : mmO → Prop} (rs0 : rg s0) (rl2 : rg l2) (rl3 : rg l3) (rl4 : rg l4) (rl5 : rg l5) (A : Abs h w) (e : c286_j84 s0 l2 l3 l4 l5 h = some o) (kb : ∀ (s_0 : Int) (s_1 : Int) (s_2 : hS), o = .inl (s_0, s_1, s_2) → ∀ w', ∀ (y5 y6 : Option hO), rg s_0 → rg s_1 → Abs s_2 w' → hG d 286 31 [some (vr 395), z1, some (vi l2), some (vi s_0), some (vi s_1), y5, y6] [] w' Q) (ke : ∀ (x_0 : hS), o = .inr (x_0) → ∀ w', ∀ (y3 y4 y5 y6 : Option hO), Abs x_0 w' → hG d 286 177 [some (vr 395), z1, some (vi l2), y3, y4, y5, y6] [] w' Q) : hG d 286 84 [some (vr 395), z1, some (vi l2), some (vi l3), some (vi l4), some (vi l5), z6] [vI s0] w Q := by
  unfold c286_j84 at e
  refine hg_run 1 (pc' := 86) (ls' := [some (vr 395), z1, some (vi l2), some (vi l3), some (vi l4), some (vi l5), some (vi s0)]) (st' := []) rfl ?_
  obtain ⟨r21, e21, e⟩ := ob e
  refine t286_l86 hd rl2 rl3 rl5 _ rs0 A e21 ?_
  intro x21_0 qq21 w21 z21_6 A21
  subst qq21
  refine hg_run 4 (pc' := 169) (ls' := [some (vr 395), z1, some (vi l2), some (vi (wadd l3 1)), some (vi l4), some (vi l5), z21_6]) (st' := [vI 4, vI l4, vR 395]) rfl ?_
  obtain ⟨v22, e22, e⟩ := ob e
  refine hg_cIp (as := [vR 395, vI l4, vI 4]) (st' := []) rfl (fun _ _ _ _ => rfl) rfl rfl (Nat.le_of_ble_eq_true rfl) (Nat.le_of_ble_eq_true rfl) (recvV A21 (a := 13) (Abs_ks A21 (i := 23) rfl).1) (t257 (by omega) A21 rl4 (rgn 4 rfl) e22) (fun r22 => ?_)
  refine hg_run 2 (pc' := 31) (ls' := [some (vr 395), z1, some (vi l2), some (vi (wadd l3 1)), some (vi v22), some (vi l5), z21_6]) (st' := []) rfl ?_
  cases e
  exact kb (wadd l3 1) v22 r21 rfl _ _ _ (rg_add _ _) r22 A21
def c286_j65 (s0 : Int) (l2 : Int) (l3 : Int) (l4 : Int) (h : hS) : Option ((Int × Int × hS) ⊕ (hS)) :=
  if s0 = (-1) then
  c286_j84 (-1) l2 l3 l4 s0 h
  else
  (c257 l4 3 h).bind (fun v9 =>
  c286_j84 v9 l2 l3 l4 s0 h)
set_option maxRecDepth 100000 in
theorem t286_j65 {d : Nat} (hd : 2 ≤ d) {s0 : Int} {l2 : Int} {l3 : Int} {l4 : Int} {z1 : Option hO} {z5 : Option hO} {z6 : Option hO} {h : hS} {w : mmW} {o : (Int × Int × hS) ⊕ (hS)} {Q : mmO → Prop} (rs0 : rg s0) (rl2 : rg l2) (rl3 : rg l3) (rl4 : rg l4) (A : Abs h w) (e : c286_j65 s0 l2 l3 l4 h = some o) (kb : ∀ (s_0 : Int) (s_1 : Int) (s_2 : hS), o = .inl (s_0, s_1, s_2) → ∀ w', ∀ (y5 y6 : Option hO), rg s_0 → rg s_1 → Abs s_2 w' → hG d 286 31 [some (vr 395), z1, some (vi l2), some (vi s_0), some (vi s_1), y5, y6] [] w' Q) (ke : ∀ (x_0 : hS), o = .inr (x_0) → ∀ w', ∀ (y3 y4 y5 y6 : Option hO), Abs x_0 w' → hG d 286 177 [some (vr 395), z1, some (vi l2), y3, y4, y5, y6] [] w' Q) : hG d 286 65 [some (vr 395), z1, some (vi l2), some (vi l3), some (vi l4), z5, z6] [vI s0] w Q := by
  unfold c286_j65 at e
  refine hg_run 3 (pc' := 70) (ls' := [some (vr 395), z1, some (vi l2), some (vi l3), some (vi l4), some (vi s0), z6]) (st' := [vI (-1), vI s0]) rfl ?_
  rcases oi e with ⟨q8, e⟩ | ⟨q8, e⟩
  · refine hg_icF (tgt := 77) rfl (by decide) rs0 (rgn (-1) rfl) (show ¬ ¬ (s0 = (-1)) from fun f => f q8) ?_
    refine hg_run 2 (pc' := 84) (ls' := [some (vr 395), z1, some (vi l2), some (vi l3), some (vi l4), some (vi s0), z6]) (st' := [vI (-1)]) rfl ?_
    exact t286_j84 hd (rgn (-1) rfl) rl2 rl3 rl4 rs0 A e kb ke
  · refine hg_icT (tgt := 77) rfl (by decide) rs0 (rgn (-1) rfl) (show ¬ (s0 = (-1)) from q8) ?_
    refine hg_run 3 (pc' := 81) (ls' := [some (vr 395), z1, some (vi l2), some (vi l3), some (vi l4), some (vi s0), z6]) (st' := [vI 3, vI l4, vR 395]) rfl ?_
    obtain ⟨v9, e9, e⟩ := ob e
    refine hg_cIp (as := [vR 395, vI l4, vI 3]) (st' := []) rfl (fun _ _ _ _ => rfl) rfl rfl (Nat.le_of_ble_eq_true rfl) (Nat.le_of_ble_eq_true rfl) (recvV A (a := 13) (Abs_ks A (i := 23) rfl).1) (t257 (by omega) A rl4 (rgn 3 rfl) e9) (fun r9 => ?_)
    exact t286_j84 hd r9 rl2 rl3 rl4 rs0 A e kb ke
def c286_b31 (l2 : Int) (l3 : Int) (l4 : Int) (h : hS) : Option ((Int × Int × hS) ⊕ (hS)) :=
  if l4 = (-1) then
  some (.inr (h))
  else
  (c256 l4 0 h).bind (fun v6 =>
  if v6 = 41 then
  (c256 l4 1 h).bind (fun v23 =>
  (c197 1 v23 h).bind (fun v24 =>
  c286_j65 v24 l2 l3 l4 h))
  else
  c286_j65 (-1) l2 l3 l4 h)
set_option maxRecDepth 100000 in
theorem t286_b31 {d : Nat} (hd : 2 ≤ d) {l2 : Int} {l3 : Int} {l4 : Int} {z1 : Option hO} {z5 : Option hO} {z6 : Option hO} {h : hS} {w : mmW} {o : (Int × Int × hS) ⊕ (hS)} {Q : mmO → Prop} (rl2 : rg l2) (rl3 : rg l3) (rl4 : rg l4) (A : Abs h w) (e : c286_b31 l2 l3 l4 h = some o) (kb : ∀ (s_0 : Int) (s_1 : Int) (s_2 : hS), o = .inl (s_0, s_1, s_2) → ∀ w', ∀ (y5 y6 : Option hO), rg s_0 → rg s_1 → Abs s_2 w' → hG d 286 31 [some (vr 395), z1, some (vi l2), some (vi s_0), some (vi s_1), y5, y6] [] w' Q) (ke : ∀ (x_0 : hS), o = .inr (x_0) → ∀ w', ∀ (y3 y4 y5 y6 : Option hO), Abs x_0 w' → hG d 286 177 [some (vr 395), z1, some (vi l2), y3, y4, y5, y6] [] w' Q) : hG d 286 31 [some (vr 395), z1, some (vi l2), some (vi l3), some (vi l4), z5, z6] [] w Q := by
  unfold c286_b31 at e
  refine hg_run 2 (pc' := 34) (ls' := [some (vr 395), z1, some (vi l2), some (vi l3), some (vi l4), z5, z6]) (st' := [vI (-1), vI l4]) rfl ?_
  rcases oi e with ⟨q5, e⟩ | ⟨q5, e⟩
  · refine hg_icT (tgt := 177) rfl (by decide) rl4 (rgn (-1) rfl) q5 ?_
    cases e
    exact ke h rfl _ _ _ _ _  A
  · refine hg_icF (tgt := 177) rfl (by decide) rl4 (rgn (-1) rfl) q5 ?_
    refine hg_run 3 (pc' := 41) (ls' := [some (vr 395), z1, some (vi l2), some (vi l3), some (vi l4), z5, z6]) (st' := [vI 0, vI l4, vR 395]) rfl ?_
    obtain ⟨v6, e6, e⟩ := ob e
    refine hg_cIp (as := [vR 395, vI l4, vI 0]) (st' := []) rfl (fun _ _ _ _ => rfl) rfl rfl (Nat.le_of_ble_eq_true rfl) (Nat.le_of_ble_eq_true rfl) (recvV A (a := 13) (Abs_ks A (i := 23) rfl).1) (t256 (by omega) A rl4 (rgn 0 rfl) e6) (fun r6 => ?_)
    refine hg_run 1 (pc' := 46) (ls' := [some (vr 395), z1, some (vi l2), some (vi l3), some (vi l4), z5, z6]) (st' := [vI 41, vI v6]) rfl ?_
    rcases oi e with ⟨q7, e⟩ | ⟨q7, e⟩
    · refine hg_icF (tgt := 64) rfl (by decide) r6 (rgn 41 rfl) (show ¬ ¬ (v6 = 41) from fun f => f q7) ?_
      refine hg_run 5 (pc' := 55) (ls' := [some (vr 395), z1, some (vi l2), some (vi l3), some (vi l4), z5, z6]) (st' := [vI 1, vI l4, vR 395, vI 1, vR 395]) rfl ?_
      obtain ⟨v23, e23, e⟩ := ob e
      refine hg_cIp (as := [vR 395, vI l4, vI 1]) (st' := [vI 1, vR 395]) rfl (fun _ _ _ _ => rfl) rfl rfl (Nat.le_of_ble_eq_true rfl) (Nat.le_of_ble_eq_true rfl) (recvV A (a := 13) (Abs_ks A (i := 23) rfl).1) (t256 (by omega) A rl4 (rgn 1 rfl) e23) (fun r23 => ?_)
      obtain ⟨v24, e24, e⟩ := ob e
      refine hg_cIp (as := [vR 395, vI 1, vI v23]) (st' := []) rfl (fun _ _ _ _ => rfl) rfl rfl (Nat.le_of_ble_eq_true rfl) (Nat.le_of_ble_eq_true rfl) (recvV A (a := 13) (Abs_ks A (i := 23) rfl).1) (t197 (by omega) A (rgn 1 rfl) r23 e24) (fun r24 => ?_)
      refine hg_run 1 (pc' := 65) (ls' := [some (vr 395), z1, some (vi l2), some (vi l3), some (vi l4), z5, z6]) (st' := [vI v24]) rfl ?_
      exact t286_j65 hd r24 rl2 rl3 rl4 A e kb ke
    · refine hg_icT (tgt := 64) rfl (by decide) r6 (rgn 41 rfl) (show ¬ (v6 = 41) from q7) ?_
      refine hg_run 1 (pc' := 65) (ls' := [some (vr 395), z1, some (vi l2), some (vi l3), some (vi l4), z5, z6]) (st' := [vI (-1)]) rfl ?_
      exact t286_j65 hd (rgn (-1) rfl) rl2 rl3 rl4 A e kb ke
set_option maxRecDepth 100000 in
theorem t286_l31 {d : Nat} (hd : 2 ≤ d) {l2 : Int} {z1 : Option hO} {Q : mmO → Prop} (rl2 : rg l2) (n : Nat) {l3 : Int} {l4 : Int} {z5 z6 : Option hO} {h : hS} {w : mmW} {r : hS} (rl3 : rg l3) (rl4 : rg l4) (A : Abs h w) (e : lp (fun s => c286_b31 l2 s.1 s.2.1 s.2.2) n (l3, l4, h) = some r) (ke : ∀ (x_0 : hS), r = (x_0) → ∀ w', ∀ (y3 y4 y5 y6 : Option hO), Abs x_0 w' → hG d 286 177 [some (vr 395), z1, some (vi l2), y3, y4, y5, y6] [] w' Q) : hG d 286 31 [some (vr 395), z1, some (vi l2), some (vi l3), some (vi l4), z5, z6] [] w Q := by
  induction n generalizing l3 l4 z5 z6 h w with
  | zero => cases e
  | succ n ih =>
    rcases lp_succ e with ⟨s1, e1, e2⟩ | e1
    · exact t286_b31 hd rl2 rl3 rl4 A e1 (fun s_0 s_1 s_2 q w1 y5 y6 rl3 rl4 A1 => by cases q; exact ih rl3 rl4 A1 e2) (fun x_0 q => by cases q)
    · exact t286_b31 hd rl2 rl3 rl4 A e1 (fun s_0 s_1 s_2 q => by cases q) (fun x_0 q => by cases q; exact ke _ rfl)
def c286 (l1 : Int) (l2 : Int) (h : hS) : Option (hS) :=
  (lp (fun s => c286_b2  s.1 s.2) hF0 (0, h)).bind (fun r3 =>
  (aIs r3 401 6 l1).bind (fun v4 =>
  (lp (fun s => c286_b31 l2 s.1 s.2.1 s.2.2) hF0 (0, v4, r3)).bind (fun r25 =>
  some r25)))
set_option maxRecDepth 100000 in
theorem t286 {d : Nat} (hd : 3 ≤ d) {l1 : Int} {l2 : Int} {h : hS} {w : mmW} {o : hS} (A : Abs h w) (rl1 : rg l1) (rl2 : rg l2) (e : c286 l1 l2 h = some o) : hEv d 286 [vR 395, vI l1, vI l2] w (qV o) := by
  obtain ⟨d, rfl⟩ : ∃ d1, d = d1 + 1 := ⟨d - 1, by omega⟩
  have hd : 2 ≤ d := by omega
  refine hEv_start (args := [vr 395, vi l1, vi l2]) (nl := 7) rfl (Nat.le_of_ble_eq_true rfl) ?_
  show hG d 286 0 [some (vr 395), some (vi l1), some (vi l2), none, none, none, none] [] w _
  have kr : ∀ h1 : hS, o = h1 → ∀ w', Abs h1 w' → qV o (none, w') := fun h1 q w' A' => by cases q; exact ⟨rfl, A'⟩
  unfold c286 at e
  refine hg_run 2 (pc' := 2) (ls' := [some (vr 395), some (vi l1), some (vi l2), some (vi 0), none, none, none]) (st' := []) rfl ?_
  obtain ⟨r3, e3, e⟩ := ob e
  refine t286_l2 hd  _ (rgn 0 rfl) A e3 ?_
  intro x3_0 qq3 w3 z3_3 A3
  subst qq3
  refine hg_run 3 (pc' := 24) (ls' := [some (vr 395), some (vi l1), some (vi l2), some (vi 0), none, none, none]) (st' := [vR 395]) rfl ?_
  refine gs_395_31 rfl A3 ?_
  refine hg_run 1 (pc' := 28) (ls' := [some (vr 395), some (vi l1), some (vi l2), some (vi 0), none, none, none]) (st' := [vI l1, vR 401]) rfl ?_
  obtain ⟨v4, e4, e⟩ := ob e
  refine hg_aIs 0 rfl (fun _ _ _ _ => rfl) A3 (Abs_ks A3 (i := 29) rfl) rfl (by decide) e4 (fun r4 => ?_)
  refine hg_run 1 (pc' := 31) (ls' := [some (vr 395), some (vi l1), some (vi l2), some (vi 0), some (vi v4), none, none]) (st' := []) rfl ?_
  obtain ⟨r25, e25, e⟩ := ob e
  refine t286_l31 hd rl2 _ (rgn 0 rfl) r4 A3 e25 ?_
  intro x25_0 qq25 w25 z25_3 z25_4 z25_5 z25_6 A25
  subst qq25
  cases e
  exact hg_retV rfl (kr _ rfl _ A25)
def c287_j162 (l10 : Int) : Option ((Int) ⊕ ((Unit) ⊕ (Int))) :=
  some (.inl ((wadd l10 1)))
set_option maxRecDepth 100000 in
theorem t287_j162 {d : Nat} (hd : 3 ≤ d) {l10 : Int} {z1 : Option hO} {z2 : Option hO} {l3 : Int} {z4 : Option hO} {l5 : Int} {z6 : Option hO} {z7 : Option hO} {z8 : Option hO} {l9 : Int} {z11 : Option hO} {h : hS} {w : mmW} {o : (Int) ⊕ ((Unit) ⊕ (Int))} {Q : mmO → Prop} (rl10 : rg l10) (A : Abs h w) (e : c287_j162 l10 = some o) (kb : ∀ (s_0 : Int), o = .inl (s_0) → ∀ (y11 : Option hO), rg s_0 → hG d 287 98 [some (vr 395), z1, z2, some (vi l3), z4, some (vi l5), z6, z7, z8, some (vi l9), some (vi s_0), y11] [] w Q) (ke : o = .inr (.inl ()) → ∀ (y10 y11 : Option hO), hG d 287 168 [some (vr 395), z1, z2, some (vi l3), z4, some (vi l5), z6, z7, z8, some (vi l9), y10, y11] [] w Q) (kr : ∀ v1 : Int, o = .inr (.inr v1) → rg v1 → Q (some (.int (Int32.ofInt v1)), w)) : hG d 287 162 [some (vr 395), z1, z2, some (vi l3), z4, some (vi l5), z6, z7, z8, some (vi l9), some (vi l10), z11] [] w Q := by
  unfold c287_j162 at e
  refine hg_run 2 (pc' := 98) (ls' := [some (vr 395), z1, z2, some (vi l3), z4, some (vi l5), z6, z7, z8, some (vi l9), some (vi (wadd l10 1)), z11]) (st' := []) rfl ?_
  cases e
  exact kb (wadd l10 1) rfl _ (rg_add _ _)
def c287_j134 (s0 : Int) (l3 : Int) (l5 : Int) (l10 : Int) (h : hS) : Option ((Int) ⊕ ((Unit) ⊕ (Int))) :=
  if s0 = (-1) then
  c287_j162 l10
  else
  (c199 l3 l10 (wadd 22 s0) h).bind (fun v14 =>
  if v14 = l5 then
  some (.inr (.inr l5))
  else
  c287_j162 l10)
set_option maxRecDepth 100000 in
theorem t287_j134 {d : Nat} (hd : 3 ≤ d) {s0 : Int} {l3 : Int} {l5 : Int} {l10 : Int} {z1 : Option hO} {z2 : Option hO} {z4 : Option hO} {z6 : Option hO} {z7 : Option hO} {z8 : Option hO} {l9 : Int} {z11 : Option hO} {h : hS} {w : mmW} {o : (Int) ⊕ ((Unit) ⊕ (Int))} {Q : mmO → Prop} (rs0 : rg s0) (rl3 : rg l3) (rl5 : rg l5) (rl10 : rg l10) (A : Abs h w) (e : c287_j134 s0 l3 l5 l10 h = some o) (kb : ∀ (s_0 : Int), o = .inl (s_0) → ∀ (y11 : Option hO), rg s_0 → hG d 287 98 [some (vr 395), z1, z2, some (vi l3), z4, some (vi l5), z6, z7, z8, some (vi l9), some (vi s_0), y11] [] w Q) (ke : o = .inr (.inl ()) → ∀ (y10 y11 : Option hO), hG d 287 168 [some (vr 395), z1, z2, some (vi l3), z4, some (vi l5), z6, z7, z8, some (vi l9), y10, y11] [] w Q) (kr : ∀ v1 : Int, o = .inr (.inr v1) → rg v1 → Q (some (.int (Int32.ofInt v1)), w)) : hG d 287 134 [some (vr 395), z1, z2, some (vi l3), z4, some (vi l5), z6, z7, z8, some (vi l9), some (vi l10), z11] [vI s0] w Q := by
  unfold c287_j134 at e
  refine hg_run 3 (pc' := 139) (ls' := [some (vr 395), z1, z2, some (vi l3), z4, some (vi l5), z6, z7, z8, some (vi l9), some (vi l10), some (vi s0)]) (st' := [vI (-1), vI s0]) rfl ?_
  rcases oi e with ⟨q13, e⟩ | ⟨q13, e⟩
  · refine hg_icT (tgt := 162) rfl (by decide) rs0 (rgn (-1) rfl) q13 ?_
    exact t287_j162 hd rl10 A e kb ke kr
  · refine hg_icF (tgt := 162) rfl (by decide) rs0 (rgn (-1) rfl) q13 ?_
    refine hg_run 6 (pc' := 151) (ls' := [some (vr 395), z1, z2, some (vi l3), z4, some (vi l5), z6, z7, z8, some (vi l9), some (vi l10), some (vi s0)]) (st' := [vI (wadd 22 s0), vI l10, vI l3, vR 395]) rfl ?_
    obtain ⟨v14, e14, e⟩ := ob e
    refine hg_cIp (as := [vR 395, vI l3, vI l10, vI (wadd 22 s0)]) (st' := []) rfl (fun _ _ _ _ => rfl) rfl rfl (Nat.le_of_ble_eq_true rfl) (Nat.le_of_ble_eq_true rfl) (recvV A (a := 13) (Abs_ks A (i := 23) rfl).1) (t199 (by omega) A rl3 rl10 (rg_add _ _) e14) (fun r14 => ?_)
    refine hg_run 1 (pc' := 156) (ls' := [some (vr 395), z1, z2, some (vi l3), z4, some (vi l5), z6, z7, z8, some (vi l9), some (vi l10), some (vi s0)]) (st' := [vI l5, vI v14]) rfl ?_
    rcases oi e with ⟨q15, e⟩ | ⟨q15, e⟩
    · refine hg_icF (tgt := 162) rfl (by decide) r14 rl5 (show ¬ ¬ (v14 = l5) from fun f => f q15) ?_
      refine hg_run 1 (pc' := 161) (ls' := [some (vr 395), z1, z2, some (vi l3), z4, some (vi l5), z6, z7, z8, some (vi l9), some (vi l10), some (vi s0)]) (st' := [vI l5]) rfl ?_
      cases e
      exact hg_retI rfl (by decide) (fit_I _) (kr _ rfl rl5)
    · refine hg_icT (tgt := 162) rfl (by decide) r14 rl5 (show ¬ (v14 = l5) from q15) ?_
      exact t287_j162 hd rl10 A e kb ke kr
def c287_b98 (l3 : Int) (l5 : Int) (l9 : Int) (h : hS) (l10 : Int) : Option ((Int) ⊕ ((Unit) ⊕ (Int))) :=
  (c198 l3 h).bind (fun v9 =>
  if v9 ≤ l10 then
  some (.inr (.inl ()))
  else
  (c199 l3 l10 4 h).bind (fun v11 =>
  if v11 = l9 then
  (c207 l3 l10 l5 h).bind (fun v16 =>
  c287_j134 v16 l3 l5 l10 h)
  else
  c287_j134 (-1) l3 l5 l10 h))
set_option maxRecDepth 100000 in
theorem t287_b98 {d : Nat} (hd : 3 ≤ d) {l3 : Int} {l5 : Int} {l9 : Int} {l10 : Int} {z1 : Option hO} {z2 : Option hO} {z4 : Option hO} {z6 : Option hO} {z7 : Option hO} {z8 : Option hO} {z11 : Option hO} {h : hS} {w : mmW} {o : (Int) ⊕ ((Unit) ⊕ (Int))} {Q : mmO → Prop} (rl3 : rg l3) (rl5 : rg l5) (rl9 : rg l9) (rl10 : rg l10) (A : Abs h w) (e : c287_b98 l3 l5 l9 h l10 = some o) (kb : ∀ (s_0 : Int), o = .inl (s_0) → ∀ (y11 : Option hO), rg s_0 → hG d 287 98 [some (vr 395), z1, z2, some (vi l3), z4, some (vi l5), z6, z7, z8, some (vi l9), some (vi s_0), y11] [] w Q) (ke : o = .inr (.inl ()) → ∀ (y10 y11 : Option hO), hG d 287 168 [some (vr 395), z1, z2, some (vi l3), z4, some (vi l5), z6, z7, z8, some (vi l9), y10, y11] [] w Q) (kr : ∀ v1 : Int, o = .inr (.inr v1) → rg v1 → Q (some (.int (Int32.ofInt v1)), w)) : hG d 287 98 [some (vr 395), z1, z2, some (vi l3), z4, some (vi l5), z6, z7, z8, some (vi l9), some (vi l10), z11] [] w Q := by
  unfold c287_b98 at e
  refine hg_run 3 (pc' := 102) (ls' := [some (vr 395), z1, z2, some (vi l3), z4, some (vi l5), z6, z7, z8, some (vi l9), some (vi l10), z11]) (st' := [vI l3, vR 395, vI l10]) rfl ?_
  obtain ⟨v9, e9, e⟩ := ob e
  refine hg_cIp (as := [vR 395, vI l3]) (st' := [vI l10]) rfl (fun _ _ _ _ => rfl) rfl rfl (Nat.le_of_ble_eq_true rfl) (Nat.le_of_ble_eq_true rfl) (recvV A (a := 13) (Abs_ks A (i := 23) rfl).1) (t198 (by omega) A rl3 e9) (fun r9 => ?_)
  rcases oi e with ⟨q10, e⟩ | ⟨q10, e⟩
  · refine hg_icT (tgt := 168) rfl (by decide) rl10 r9 q10 ?_
    cases e
    exact ke  rfl _ _ 
  · refine hg_icF (tgt := 168) rfl (by decide) rl10 r9 q10 ?_
    refine hg_run 4 (pc' := 113) (ls' := [some (vr 395), z1, z2, some (vi l3), z4, some (vi l5), z6, z7, z8, some (vi l9), some (vi l10), z11]) (st' := [vI 4, vI l10, vI l3, vR 395]) rfl ?_
    obtain ⟨v11, e11, e⟩ := ob e
    refine hg_cIp (as := [vR 395, vI l3, vI l10, vI 4]) (st' := []) rfl (fun _ _ _ _ => rfl) rfl rfl (Nat.le_of_ble_eq_true rfl) (Nat.le_of_ble_eq_true rfl) (recvV A (a := 13) (Abs_ks A (i := 23) rfl).1) (t199 (by omega) A rl3 rl10 (rgn 4 rfl) e11) (fun r11 => ?_)
    refine hg_run 1 (pc' := 118) (ls' := [some (vr 395), z1, z2, some (vi l3), z4, some (vi l5), z6, z7, z8, some (vi l9), some (vi l10), z11]) (st' := [vI l9, vI v11]) rfl ?_
    rcases oi e with ⟨q12, e⟩ | ⟨q12, e⟩
    · refine hg_icF (tgt := 133) rfl (by decide) r11 rl9 (show ¬ ¬ (v11 = l9) from fun f => f q12) ?_
      refine hg_run 4 (pc' := 127) (ls' := [some (vr 395), z1, z2, some (vi l3), z4, some (vi l5), z6, z7, z8, some (vi l9), some (vi l10), z11]) (st' := [vI l5, vI l10, vI l3, vR 395]) rfl ?_
      obtain ⟨v16, e16, e⟩ := ob e
      refine hg_cIp (as := [vR 395, vI l3, vI l10, vI l5]) (st' := []) rfl (fun _ _ _ _ => rfl) rfl rfl (Nat.le_of_ble_eq_true rfl) (Nat.le_of_ble_eq_true rfl) (recvV A (a := 13) (Abs_ks A (i := 23) rfl).1) (t207 (by omega) A rl3 rl10 rl5 e16) (fun r16 => ?_)
      refine hg_run 1 (pc' := 134) (ls' := [some (vr 395), z1, z2, some (vi l3), z4, some (vi l5), z6, z7, z8, some (vi l9), some (vi l10), z11]) (st' := [vI v16]) rfl ?_
      exact t287_j134 hd r16 rl3 rl5 rl10 A e kb ke kr
    · refine hg_icT (tgt := 133) rfl (by decide) r11 rl9 (show ¬ (v11 = l9) from q12) ?_
      refine hg_run 1 (pc' := 134) (ls' := [some (vr 395), z1, z2, some (vi l3), z4, some (vi l5), z6, z7, z8, some (vi l9), some (vi l10), z11]) (st' := [vI (-1)]) rfl ?_
      exact t287_j134 hd (rgn (-1) rfl) rl3 rl5 rl10 A e kb ke kr
set_option maxRecDepth 100000 in
theorem t287_l98 {d : Nat} (hd : 3 ≤ d) {l3 : Int} {l5 : Int} {l9 : Int} {z1 : Option hO} {z2 : Option hO} {z4 : Option hO} {z6 : Option hO} {z7 : Option hO} {z8 : Option hO} {h : hS} {w : mmW} {Q : mmO → Prop} (rl3 : rg l3) (rl5 : rg l5) (rl9 : rg l9) (n : Nat) {l10 : Int} {z11 : Option hO} {r : (Unit) ⊕ (Int)} (rl10 : rg l10) (A : Abs h w) (e : lp (fun s => c287_b98 l3 l5 l9 h s) n (l10) = some r) (ke : r = .inl () → ∀ (y10 y11 : Option hO), hG d 287 168 [some (vr 395), z1, z2, some (vi l3), z4, some (vi l5), z6, z7, z8, some (vi l9), y10, y11] [] w Q) (kr : ∀ v1 : Int, r = .inr v1 → rg v1 → Q (some (.int (Int32.ofInt v1)), w)) : hG d 287 98 [some (vr 395), z1, z2, some (vi l3), z4, some (vi l5), z6, z7, z8, some (vi l9), some (vi l10), z11] [] w Q := by
  induction n generalizing l10 z11 with
  | zero => cases e
  | succ n ih =>
    rcases lp_succ e with ⟨s1, e1, e2⟩ | e1
    · exact t287_b98 hd rl3 rl5 rl9 rl10 A e1 (fun s_0 q y11 rl10 => by cases q; exact ih rl10 e2) (fun  q => by cases q) (fun v0 q => by cases q)
    · exact t287_b98 hd rl3 rl5 rl9 rl10 A e1 (fun s_0 q => by cases q) (fun  q => by cases q; exact ke  rfl) (fun v0 q => by cases q; exact kr _ rfl)
def c287_j70 (l1 : Int) (l2 : Int) (l3 : Int) (l5 : Int) (l7 : Int) (h : hS) : Option (Int) :=
  (c237 l1 l2 l5 h).bind (fun v6 =>
  if v6 = (-1) then
  some (-1)
  else
  if v6 = l7 then
  some (-1)
  else
  (lp (fun s => c287_b98 l3 l5 v6 h s) hF0 (0)).bind (fun r17 => xs r17 (fun x17 =>
  some (-1)) (fun o17 => some o17)))
set_option maxRecDepth 100000 in
theorem t287_j70 {d : Nat} (hd : 3 ≤ d) {l1 : Int} {l2 : Int} {l3 : Int} {l5 : Int} {l7 : Int} {z4 : Option hO} {z6 : Option hO} {z8 : Option hO} {z9 : Option hO} {z10 : Option hO} {z11 : Option hO} {h : hS} {w : mmW} {o : Int} {Q : mmO → Prop} (rl1 : rg l1) (rl2 : rg l2) (rl3 : rg l3) (rl5 : rg l5) (rl7 : rg l7) (A : Abs h w) (e : c287_j70 l1 l2 l3 l5 l7 h = some o) (kr : ∀ v1 : Int, o = v1 → rg v1 → Q (some (.int (Int32.ofInt v1)), w)) : hG d 287 70 [some (vr 395), some (vi l1), some (vi l2), some (vi l3), z4, some (vi l5), z6, some (vi l7), z8, z9, z10, z11] [] w Q := by
  unfold c287_j70 at e
  refine hg_run 4 (pc' := 75) (ls' := [some (vr 395), some (vi l1), some (vi l2), some (vi l3), z4, some (vi l5), z6, some (vi l7), z8, z9, z10, z11]) (st' := [vI l5, vI l2, vI l1, vR 395]) rfl ?_
  obtain ⟨v6, e6, e⟩ := ob e
  refine hg_cIp (as := [vR 395, vI l1, vI l2, vI l5]) (st' := []) rfl (fun _ _ _ _ => rfl) rfl rfl (Nat.le_of_ble_eq_true rfl) (Nat.le_of_ble_eq_true rfl) (recvV A (a := 13) (Abs_ks A (i := 23) rfl).1) (t237 (by omega) A rl1 rl2 rl5 e6) (fun r6 => ?_)
  refine hg_run 3 (pc' := 83) (ls' := [some (vr 395), some (vi l1), some (vi l2), some (vi l3), z4, some (vi l5), z6, some (vi l7), z8, some (vi v6), z10, z11]) (st' := [vI (-1), vI v6]) rfl ?_
  rcases oi e with ⟨q7, e⟩ | ⟨q7, e⟩
  · refine hg_icT (tgt := 93) rfl (by decide) r6 (rgn (-1) rfl) q7 ?_
    refine hg_run 1 (pc' := 94) (ls' := [some (vr 395), some (vi l1), some (vi l2), some (vi l3), z4, some (vi l5), z6, some (vi l7), z8, some (vi v6), z10, z11]) (st' := [vI (-1)]) rfl ?_
    cases e
    exact hg_retI rfl (by decide) (fit_I _) (kr _ rfl (rgn (-1) rfl))
  · refine hg_icF (tgt := 93) rfl (by decide) r6 (rgn (-1) rfl) q7 ?_
    refine hg_run 2 (pc' := 90) (ls' := [some (vr 395), some (vi l1), some (vi l2), some (vi l3), z4, some (vi l5), z6, some (vi l7), z8, some (vi v6), z10, z11]) (st' := [vI l7, vI v6]) rfl ?_
    rcases oi e with ⟨q8, e⟩ | ⟨q8, e⟩
    · refine hg_icF (tgt := 95) rfl (by decide) r6 rl7 (show ¬ ¬ (v6 = l7) from fun f => f q8) ?_
      refine hg_run 1 (pc' := 94) (ls' := [some (vr 395), some (vi l1), some (vi l2), some (vi l3), z4, some (vi l5), z6, some (vi l7), z8, some (vi v6), z10, z11]) (st' := [vI (-1)]) rfl ?_
      cases e
      exact hg_retI rfl (by decide) (fit_I _) (kr _ rfl (rgn (-1) rfl))
    · refine hg_icT (tgt := 95) rfl (by decide) r6 rl7 (show ¬ (v6 = l7) from q8) ?_
      refine hg_run 2 (pc' := 98) (ls' := [some (vr 395), some (vi l1), some (vi l2), some (vi l3), z4, some (vi l5), z6, some (vi l7), z8, some (vi v6), some (vi 0), z11]) (st' := []) rfl ?_
      obtain ⟨r17, e17, e⟩ := ob e
      refine t287_l98 hd rl3 rl5 r6 _ (rgn 0 rfl) A e17 ?_ ?_
      · intro  qq17 z17_10 z17_11
        subst qq17
        have e := xs_l e
        refine hg_run 1 (pc' := 169) (ls' := [some (vr 395), some (vi l1), some (vi l2), some (vi l3), z4, some (vi l5), z6, some (vi l7), z8, some (vi v6), z17_10, z17_11]) (st' := [vI (-1)]) rfl ?_
        cases e
        exact hg_retI rfl (by decide) (fit_I _) (kr _ rfl (rgn (-1) rfl))
      · intro v17 qq17 r17
        subst qq17
        have e := xs_r e
        cases e
        exact kr _ rfl r17
def c287 (l1 : Int) (l2 : Int) (l3 : Int) (l4 : Int) (l5 : Int) (h : hS) : Option (Int) :=
  (c237 l3 l4 l5 h).bind (fun v1 =>
  (c199 l3 v1 4 h).bind (fun v2 =>
  (c207 l3 v1 l5 h).bind (fun v3 =>
  (c199 l3 v1 (wadd 22 v3) h).bind (fun v4 =>
  if v4 = (-1) then
  c287_j70 l1 l2 l3 l5 v2 h
  else
  if v2 = (-1) then
  c287_j70 l1 l2 l3 l5 v2 h
  else
  (c237 l1 l2 v4 h).bind (fun v19 =>
  if v19 = v2 then
  some v4
  else
  c287_j70 l1 l2 l3 l5 v2 h)))))
set_option maxRecDepth 100000 in
theorem t287 {d : Nat} (hd : 4 ≤ d) {l1 : Int} {l2 : Int} {l3 : Int} {l4 : Int} {l5 : Int} {h : hS} {w : mmW} {o : Int} (A : Abs h w) (rl1 : rg l1) (rl2 : rg l2) (rl3 : rg l3) (rl4 : rg l4) (rl5 : rg l5) (e : c287 l1 l2 l3 l4 l5 h = some o) : hEv d 287 [vR 395, vI l1, vI l2, vI l3, vI l4, vI l5] w (qIp o w) := by
  obtain ⟨d, rfl⟩ : ∃ d1, d = d1 + 1 := ⟨d - 1, by omega⟩
  have hd : 3 ≤ d := by omega
  refine hEv_start (args := [vr 395, vi l1, vi l2, vi l3, vi l4, vi l5]) (nl := 12) rfl (Nat.le_of_ble_eq_true rfl) ?_
  show hG d 287 0 [some (vr 395), some (vi l1), some (vi l2), some (vi l3), some (vi l4), some (vi l5), none, none, none, none, none, none] [] w _
  have kr : ∀ v1 : Int, o = v1 → rg v1 → qIp o w (some (.int (Int32.ofInt v1)), w) := fun v1 q r => by cases q; exact ⟨rfl, r⟩
  unfold c287 at e
  refine hg_run 4 (pc' := 6) (ls' := [some (vr 395), some (vi l1), some (vi l2), some (vi l3), some (vi l4), some (vi l5), none, none, none, none, none, none]) (st' := [vI l5, vI l4, vI l3, vR 395]) rfl ?_
  obtain ⟨v1, e1, e⟩ := ob e
  refine hg_cIp (as := [vR 395, vI l3, vI l4, vI l5]) (st' := []) rfl (fun _ _ _ _ => rfl) rfl rfl (Nat.le_of_ble_eq_true rfl) (Nat.le_of_ble_eq_true rfl) (recvV A (a := 13) (Abs_ks A (i := 23) rfl).1) (t237 (by omega) A rl3 rl4 rl5 e1) (fun r1 => ?_)
  refine hg_run 5 (pc' := 16) (ls' := [some (vr 395), some (vi l1), some (vi l2), some (vi l3), some (vi l4), some (vi l5), some (vi v1), none, none, none, none, none]) (st' := [vI 4, vI v1, vI l3, vR 395]) rfl ?_
  obtain ⟨v2, e2, e⟩ := ob e
  refine hg_cIp (as := [vR 395, vI l3, vI v1, vI 4]) (st' := []) rfl (fun _ _ _ _ => rfl) rfl rfl (Nat.le_of_ble_eq_true rfl) (Nat.le_of_ble_eq_true rfl) (recvV A (a := 13) (Abs_ks A (i := 23) rfl).1) (t199 (by omega) A rl3 r1 (rgn 4 rfl) e2) (fun r2 => ?_)
  refine hg_run 9 (pc' := 33) (ls' := [some (vr 395), some (vi l1), some (vi l2), some (vi l3), some (vi l4), some (vi l5), some (vi v1), some (vi v2), none, none, none, none]) (st' := [vI l5, vI v1, vI l3, vR 395, vI 22, vI v1, vI l3, vR 395]) rfl ?_
  obtain ⟨v3, e3, e⟩ := ob e
  refine hg_cIp (as := [vR 395, vI l3, vI v1, vI l5]) (st' := [vI 22, vI v1, vI l3, vR 395]) rfl (fun _ _ _ _ => rfl) rfl rfl (Nat.le_of_ble_eq_true rfl) (Nat.le_of_ble_eq_true rfl) (recvV A (a := 13) (Abs_ks A (i := 23) rfl).1) (t207 (by omega) A rl3 r1 rl5 e3) (fun r3 => ?_)
  refine hg_run 1 (pc' := 37) (ls' := [some (vr 395), some (vi l1), some (vi l2), some (vi l3), some (vi l4), some (vi l5), some (vi v1), some (vi v2), none, none, none, none]) (st' := [vI (wadd 22 v3), vI v1, vI l3, vR 395]) rfl ?_
  obtain ⟨v4, e4, e⟩ := ob e
  refine hg_cIp (as := [vR 395, vI l3, vI v1, vI (wadd 22 v3)]) (st' := []) rfl (fun _ _ _ _ => rfl) rfl rfl (Nat.le_of_ble_eq_true rfl) (Nat.le_of_ble_eq_true rfl) (recvV A (a := 13) (Abs_ks A (i := 23) rfl).1) (t199 (by omega) A rl3 r1 (rg_add _ _) e4) (fun r4 => ?_)
  refine hg_run 3 (pc' := 45) (ls' := [some (vr 395), some (vi l1), some (vi l2), some (vi l3), some (vi l4), some (vi l5), some (vi v1), some (vi v2), some (vi v4), none, none, none]) (st' := [vI (-1), vI v4]) rfl ?_
  rcases oi e with ⟨q5, e⟩ | ⟨q5, e⟩
  · refine hg_icT (tgt := 70) rfl (by decide) r4 (rgn (-1) rfl) q5 ?_
    exact t287_j70 hd rl1 rl2 rl3 rl5 r2 A e kr
  · refine hg_icF (tgt := 70) rfl (by decide) r4 (rgn (-1) rfl) q5 ?_
    refine hg_run 2 (pc' := 51) (ls' := [some (vr 395), some (vi l1), some (vi l2), some (vi l3), some (vi l4), some (vi l5), some (vi v1), some (vi v2), some (vi v4), none, none, none]) (st' := [vI (-1), vI v2]) rfl ?_
    rcases oi e with ⟨q18, e⟩ | ⟨q18, e⟩
    · refine hg_icT (tgt := 70) rfl (by decide) r2 (rgn (-1) rfl) q18 ?_
      exact t287_j70 hd rl1 rl2 rl3 rl5 r2 A e kr
    · refine hg_icF (tgt := 70) rfl (by decide) r2 (rgn (-1) rfl) q18 ?_
      refine hg_run 4 (pc' := 59) (ls' := [some (vr 395), some (vi l1), some (vi l2), some (vi l3), some (vi l4), some (vi l5), some (vi v1), some (vi v2), some (vi v4), none, none, none]) (st' := [vI v4, vI l2, vI l1, vR 395]) rfl ?_
      obtain ⟨v19, e19, e⟩ := ob e
      refine hg_cIp (as := [vR 395, vI l1, vI l2, vI v4]) (st' := []) rfl (fun _ _ _ _ => rfl) rfl rfl (Nat.le_of_ble_eq_true rfl) (Nat.le_of_ble_eq_true rfl) (recvV A (a := 13) (Abs_ks A (i := 23) rfl).1) (t237 (by omega) A rl1 rl2 r4 e19) (fun r19 => ?_)
      refine hg_run 1 (pc' := 64) (ls' := [some (vr 395), some (vi l1), some (vi l2), some (vi l3), some (vi l4), some (vi l5), some (vi v1), some (vi v2), some (vi v4), none, none, none]) (st' := [vI v2, vI v19]) rfl ?_
      rcases oi e with ⟨q20, e⟩ | ⟨q20, e⟩
      · refine hg_icF (tgt := 70) rfl (by decide) r19 r2 (show ¬ ¬ (v19 = v2) from fun f => f q20) ?_
        refine hg_run 1 (pc' := 69) (ls' := [some (vr 395), some (vi l1), some (vi l2), some (vi l3), some (vi l4), some (vi l5), some (vi v1), some (vi v2), some (vi v4), none, none, none]) (st' := [vI v4]) rfl ?_
        cases e
        exact hg_retI rfl (by decide) (fit_I _) (kr _ rfl r4)
      · refine hg_icT (tgt := 70) rfl (by decide) r19 r2 (show ¬ (v19 = v2) from q20) ?_
        exact t287_j70 hd rl1 rl2 rl3 rl5 r2 A e kr
def c285_b33 (h : hS) (l4 : Int) (l5 : Int) : Option ((Int × Int) ⊕ (Int)) :=
  if l5 = (-1) then
  some (.inr (l4))
  else
  (c199 1 l5 1 h).bind (fun v6 =>
  some (.inl ((wadd l4 1), v6)))
set_option maxRecDepth 100000 in
theorem t285_b33 {d : Nat} (hd : 125 ≤ d) {l4 : Int} {l5 : Int} {z1 : Option hO} {l2 : Int} {l3 : Int} {z6 : Option hO} {z7 : Option hO} {z8 : Option hO} {h : hS} {w : mmW} {o : (Int × Int) ⊕ (Int)} {Q : mmO → Prop} (rl4 : rg l4) (rl5 : rg l5) (A : Abs h w) (e : c285_b33 h l4 l5 = some o) (kb : ∀ (s_0 : Int) (s_1 : Int), o = .inl (s_0, s_1) → rg s_0 → rg s_1 → hG d 285 33 [some (vr 395), z1, some (vi l2), some (vi l3), some (vi s_0), some (vi s_1), z6, z7, z8] [] w Q) (ke : ∀ (x_0 : Int), o = .inr (x_0) → ∀ (y5 : Option hO), rg x_0 → hG d 285 55 [some (vr 395), z1, some (vi l2), some (vi l3), some (vi x_0), y5, z6, z7, z8] [] w Q) : hG d 285 33 [some (vr 395), z1, some (vi l2), some (vi l3), some (vi l4), some (vi l5), z6, z7, z8] [] w Q := by
  unfold c285_b33 at e
  refine hg_run 2 (pc' := 36) (ls' := [some (vr 395), z1, some (vi l2), some (vi l3), some (vi l4), some (vi l5), z6, z7, z8]) (st' := [vI (-1), vI l5]) rfl ?_
  rcases oi e with ⟨q5, e⟩ | ⟨q5, e⟩
  · refine hg_icT (tgt := 55) rfl (by decide) rl5 (rgn (-1) rfl) q5 ?_
    cases e
    exact ke l4 rfl _ rl4
  · refine hg_icF (tgt := 55) rfl (by decide) rl5 (rgn (-1) rfl) q5 ?_
    refine hg_run 5 (pc' := 47) (ls' := [some (vr 395), z1, some (vi l2), some (vi l3), some (vi (wadd l4 1)), some (vi l5), z6, z7, z8]) (st' := [vI 1, vI l5, vI 1, vR 395]) rfl ?_
    obtain ⟨v6, e6, e⟩ := ob e
    refine hg_cIp (as := [vR 395, vI 1, vI l5, vI 1]) (st' := []) rfl (fun _ _ _ _ => rfl) rfl rfl (Nat.le_of_ble_eq_true rfl) (Nat.le_of_ble_eq_true rfl) (recvV A (a := 13) (Abs_ks A (i := 23) rfl).1) (t199 (by omega) A (rgn 1 rfl) rl5 (rgn 1 rfl) e6) (fun r6 => ?_)
    refine hg_run 2 (pc' := 33) (ls' := [some (vr 395), z1, some (vi l2), some (vi l3), some (vi (wadd l4 1)), some (vi v6), z6, z7, z8]) (st' := []) rfl ?_
    cases e
    exact kb (wadd l4 1) v6 rfl (rg_add _ _) r6
set_option maxRecDepth 100000 in
theorem t285_l33 {d : Nat} (hd : 125 ≤ d)  {z1 : Option hO} {l2 : Int} {l3 : Int} {z6 : Option hO} {z7 : Option hO} {z8 : Option hO} {h : hS} {w : mmW} {Q : mmO → Prop}  (n : Nat) {l4 : Int} {l5 : Int}  {r : Int} (rl4 : rg l4) (rl5 : rg l5) (A : Abs h w) (e : lp (fun s => c285_b33 h s.1 s.2) n (l4, l5) = some r) (ke : ∀ (x_0 : Int), r = (x_0) → ∀ (y5 : Option hO), rg x_0 → hG d 285 55 [some (vr 395), z1, some (vi l2), some (vi l3), some (vi x_0), y5, z6, z7, z8] [] w Q) : hG d 285 33 [some (vr 395), z1, some (vi l2), some (vi l3), some (vi l4), some (vi l5), z6, z7, z8] [] w Q := by
  induction n generalizing l4 l5 with
  | zero => cases e
  | succ n ih =>
    rcases lp_succ e with ⟨s1, e1, e2⟩ | e1
    · exact t285_b33 hd rl4 rl5 A e1 (fun s_0 s_1 q rl4 rl5 => by cases q; exact ih rl4 rl5 e2) (fun x_0 q => by cases q)
    · exact t285_b33 hd rl4 rl5 A e1 (fun s_0 s_1 q => by cases q) (fun x_0 q => by cases q; exact ke _ rfl)
def c285_b66 (l4 : Int) (h : hS) (l5 : Int) (l6 : Int) : Option ((Int × Int) ⊕ (Int)) :=
  if l4 ≤ l6 then
  some (.inr (l5))
  else
  (c199 1 l5 1 h).bind (fun v10 =>
  some (.inl (v10, (wadd l6 1))))
set_option maxRecDepth 100000 in
theorem t285_b66 {d : Nat} (hd : 125 ≤ d) {l4 : Int} {l5 : Int} {l6 : Int} {z1 : Option hO} {l2 : Int} {l3 : Int} {z7 : Option hO} {z8 : Option hO} {h : hS} {w : mmW} {o : (Int × Int) ⊕ (Int)} {Q : mmO → Prop} (rl4 : rg l4) (rl5 : rg l5) (rl6 : rg l6) (A : Abs h w) (e : c285_b66 l4 h l5 l6 = some o) (kb : ∀ (s_0 : Int) (s_1 : Int), o = .inl (s_0, s_1) → rg s_0 → rg s_1 → hG d 285 66 [some (vr 395), z1, some (vi l2), some (vi l3), some (vi l4), some (vi s_0), some (vi s_1), z7, z8] [] w Q) (ke : ∀ (x_0 : Int), o = .inr (x_0) → ∀ (y6 : Option hO), rg x_0 → hG d 285 89 [some (vr 395), z1, some (vi l2), some (vi l3), some (vi l4), some (vi x_0), y6, z7, z8] [] w Q) : hG d 285 66 [some (vr 395), z1, some (vi l2), some (vi l3), some (vi l4), some (vi l5), some (vi l6), z7, z8] [] w Q := by
  unfold c285_b66 at e
  refine hg_run 2 (pc' := 70) (ls' := [some (vr 395), z1, some (vi l2), some (vi l3), some (vi l4), some (vi l5), some (vi l6), z7, z8]) (st' := [vI l4, vI l6]) rfl ?_
  rcases oi e with ⟨q9, e⟩ | ⟨q9, e⟩
  · refine hg_icT (tgt := 89) rfl (by decide) rl6 rl4 q9 ?_
    cases e
    exact ke l5 rfl _ rl5
  · refine hg_icF (tgt := 89) rfl (by decide) rl6 rl4 q9 ?_
    refine hg_run 4 (pc' := 78) (ls' := [some (vr 395), z1, some (vi l2), some (vi l3), some (vi l4), some (vi l5), some (vi l6), z7, z8]) (st' := [vI 1, vI l5, vI 1, vR 395]) rfl ?_
    obtain ⟨v10, e10, e⟩ := ob e
    refine hg_cIp (as := [vR 395, vI 1, vI l5, vI 1]) (st' := []) rfl (fun _ _ _ _ => rfl) rfl rfl (Nat.le_of_ble_eq_true rfl) (Nat.le_of_ble_eq_true rfl) (recvV A (a := 13) (Abs_ks A (i := 23) rfl).1) (t199 (by omega) A (rgn 1 rfl) rl5 (rgn 1 rfl) e10) (fun r10 => ?_)
    refine hg_run 3 (pc' := 66) (ls' := [some (vr 395), z1, some (vi l2), some (vi l3), some (vi l4), some (vi v10), some (vi (wadd l6 1)), z7, z8]) (st' := []) rfl ?_
    cases e
    exact kb v10 (wadd l6 1) rfl r10 (rg_add _ _)
set_option maxRecDepth 100000 in
theorem t285_l66 {d : Nat} (hd : 125 ≤ d) {l4 : Int} {z1 : Option hO} {l2 : Int} {l3 : Int} {z7 : Option hO} {z8 : Option hO} {h : hS} {w : mmW} {Q : mmO → Prop} (rl4 : rg l4) (n : Nat) {l5 : Int} {l6 : Int}  {r : Int} (rl5 : rg l5) (rl6 : rg l6) (A : Abs h w) (e : lp (fun s => c285_b66 l4 h s.1 s.2) n (l5, l6) = some r) (ke : ∀ (x_0 : Int), r = (x_0) → ∀ (y6 : Option hO), rg x_0 → hG d 285 89 [some (vr 395), z1, some (vi l2), some (vi l3), some (vi l4), some (vi x_0), y6, z7, z8] [] w Q) : hG d 285 66 [some (vr 395), z1, some (vi l2), some (vi l3), some (vi l4), some (vi l5), some (vi l6), z7, z8] [] w Q := by
  induction n generalizing l5 l6 with
  | zero => cases e
  | succ n ih =>
    rcases lp_succ e with ⟨s1, e1, e2⟩ | e1
    · exact t285_b66 hd rl4 rl5 rl6 A e1 (fun s_0 s_1 q rl5 rl6 => by cases q; exact ih rl5 rl6 e2) (fun x_0 q => by cases q)
    · exact t285_b66 hd rl4 rl5 rl6 A e1 (fun s_0 s_1 q => by cases q) (fun x_0 q => by cases q; exact ke _ rfl)
def c285_j254 (l6 : Int) (h : hS) : Option ((Int × hS) ⊕ ((hS) ⊕ (Int × hS))) :=
  some (.inl ((wadd l6 1), h))
set_option maxRecDepth 100000 in
theorem t285_j254 {d : Nat} (hd : 125 ≤ d) {l6 : Int} {z1 : Option hO} {l2 : Int} {l3 : Int} {l4 : Int} {l5 : Int} {z7 : Option hO} {z8 : Option hO} {h : hS} {w : mmW} {o : (Int × hS) ⊕ ((hS) ⊕ (Int × hS))} {Q : mmO → Prop} (rl6 : rg l6) (A : Abs h w) (e : c285_j254 l6 h = some o) (kb : ∀ (s_0 : Int) (s_1 : hS), o = .inl (s_0, s_1) → ∀ w', ∀ (y7 y8 : Option hO), rg s_0 → Abs s_1 w' → hG d 285 92 [some (vr 395), z1, some (vi l2), some (vi l3), some (vi l4), some (vi l5), some (vi s_0), y7, y8] [] w' Q) (ke : ∀ (x_0 : hS), o = .inr (.inl (x_0)) → ∀ w', ∀ (y6 y7 y8 : Option hO), Abs x_0 w' → hG d 285 260 [some (vr 395), z1, some (vi l2), some (vi l3), some (vi l4), some (vi l5), y6, y7, y8] [] w' Q) (kr : ∀ (v1 : Int) (h1 : hS), o = .inr (.inr (v1, h1)) → ∀ w', rg v1 → Abs h1 w' → Q (some (.int (Int32.ofInt v1)), w')) : hG d 285 254 [some (vr 395), z1, some (vi l2), some (vi l3), some (vi l4), some (vi l5), some (vi l6), z7, z8] [] w Q := by
  unfold c285_j254 at e
  refine hg_run 2 (pc' := 92) (ls' := [some (vr 395), z1, some (vi l2), some (vi l3), some (vi l4), some (vi l5), some (vi (wadd l6 1)), z7, z8]) (st' := []) rfl ?_
  cases e
  exact kb (wadd l6 1) h rfl _ _ _ (rg_add _ _) A
def c285_j253 (s1 : Int) (s2 : Int) (l6 : Int) (h : hS) : Option ((Int × hS) ⊕ ((hS) ⊕ (Int × hS))) :=
  (wIs h 440 1600 s1 s2).bind (fun h22 =>
  c285_j254 l6 h22)
set_option maxRecDepth 100000 in
theorem t285_j253 {d : Nat} (hd : 125 ≤ d) {s1 : Int} {s2 : Int} {l6 : Int} {z1 : Option hO} {l2 : Int} {l3 : Int} {l4 : Int} {l5 : Int} {z7 : Option hO} {z8 : Option hO} {h : hS} {w : mmW} {o : (Int × hS) ⊕ ((hS) ⊕ (Int × hS))} {Q : mmO → Prop} (rs1 : rg s1) (rs2 : rg s2) (rl6 : rg l6) (A : Abs h w) (e : c285_j253 s1 s2 l6 h = some o) (kb : ∀ (s_0 : Int) (s_1 : hS), o = .inl (s_0, s_1) → ∀ w', ∀ (y7 y8 : Option hO), rg s_0 → Abs s_1 w' → hG d 285 92 [some (vr 395), z1, some (vi l2), some (vi l3), some (vi l4), some (vi l5), some (vi s_0), y7, y8] [] w' Q) (ke : ∀ (x_0 : hS), o = .inr (.inl (x_0)) → ∀ w', ∀ (y6 y7 y8 : Option hO), Abs x_0 w' → hG d 285 260 [some (vr 395), z1, some (vi l2), some (vi l3), some (vi l4), some (vi l5), y6, y7, y8] [] w' Q) (kr : ∀ (v1 : Int) (h1 : hS), o = .inr (.inr (v1, h1)) → ∀ w', rg v1 → Abs h1 w' → Q (some (.int (Int32.ofInt v1)), w')) : hG d 285 253 [some (vr 395), z1, some (vi l2), some (vi l3), some (vi l4), some (vi l5), some (vi l6), z7, z8] [vI s2, vI s1, vR 440] w Q := by
  unfold c285_j253 at e
  obtain ⟨h22, e22, e⟩ := ob e
  refine hg_wIs rfl A (Abs_ks A (i := 68) rfl) (by decide) rs2 e22 (fun w22 A22 => ?_)
  exact t285_j254 hd rl6 A22 e kb ke kr
def c285_b92 (l2 : Int) (l3 : Int) (l5 : Int) (l6 : Int) (h : hS) : Option ((Int × hS) ⊕ ((hS) ⊕ (Int × hS))) :=
  (c199 1 l5 5 h).bind (fun v12 =>
  if v12 ≤ l6 then
  some (.inr (.inl (h)))
  else
  (c199 1 l5 (wadd 6 l6) h).bind (fun v14 =>
  (wIs h 442 1600 (wadd (wmul 40 l2) v14) (wbol 1)).bind (fun h15 =>
  (aIs h15 444 40 v14).bind (fun v16 =>
  if v16 = (-1) then
  (aIs h15 404 40 l2).bind (fun v18 =>
  (c287 0 v18 1 l3 v14 h15).bind (fun v19 =>
  if v19 = (-1) then
  (c199 1 l5 (wadd 14 l6) h15).bind (fun v23 =>
  c285_j253 (wadd (wmul 40 l2) v14) v23 l6 h15)
  else
  (aIs h15 405 1600 (wadd (wmul 40 l2) v19)).bind (fun v21 =>
  c285_j253 (wadd (wmul 40 l2) v14) v21 l6 h15)))
  else
  (aIs h15 444 40 v14).bind (fun v24 =>
  (g258 120 258 [v24, 0] h15).bind (fun v25 =>
  if v25.1 = 0 then
  (aIs v25.2 445 40 v14).bind (fun v28 =>
  (c276 9 v28 l2 v25.2).bind (fun v29 =>
  (kB v29.1).bind (fun u30 =>
  some (.inr (.inr (v29.1, v29.2))))))
  else
  (wIs v25.2 440 1600 (wadd (wmul 40 l2) v14) (hI v25.2 395 52)).bind (fun h27 =>
  c285_j254 l6 h27)))))))
set_option maxRecDepth 100000 in
theorem t285_b92 {d : Nat} (hd : 125 ≤ d) {l2 : Int} {l3 : Int} {l5 : Int} {l6 : Int} {z1 : Option hO} {l4 : Int} {z7 : Option hO} {z8 : Option hO} {h : hS} {w : mmW} {o : (Int × hS) ⊕ ((hS) ⊕ (Int × hS))} {Q : mmO → Prop} (rl2 : rg l2) (rl3 : rg l3) (rl5 : rg l5) (rl6 : rg l6) (A : Abs h w) (e : c285_b92 l2 l3 l5 l6 h = some o) (kb : ∀ (s_0 : Int) (s_1 : hS), o = .inl (s_0, s_1) → ∀ w', ∀ (y7 y8 : Option hO), rg s_0 → Abs s_1 w' → hG d 285 92 [some (vr 395), z1, some (vi l2), some (vi l3), some (vi l4), some (vi l5), some (vi s_0), y7, y8] [] w' Q) (ke : ∀ (x_0 : hS), o = .inr (.inl (x_0)) → ∀ w', ∀ (y6 y7 y8 : Option hO), Abs x_0 w' → hG d 285 260 [some (vr 395), z1, some (vi l2), some (vi l3), some (vi l4), some (vi l5), y6, y7, y8] [] w' Q) (kr : ∀ (v1 : Int) (h1 : hS), o = .inr (.inr (v1, h1)) → ∀ w', rg v1 → Abs h1 w' → Q (some (.int (Int32.ofInt v1)), w')) : hG d 285 92 [some (vr 395), z1, some (vi l2), some (vi l3), some (vi l4), some (vi l5), some (vi l6), z7, z8] [] w Q := by
  unfold c285_b92 at e
  refine hg_run 5 (pc' := 99) (ls' := [some (vr 395), z1, some (vi l2), some (vi l3), some (vi l4), some (vi l5), some (vi l6), z7, z8]) (st' := [vI 5, vI l5, vI 1, vR 395, vI l6]) rfl ?_
  obtain ⟨v12, e12, e⟩ := ob e
  refine hg_cIp (as := [vR 395, vI 1, vI l5, vI 5]) (st' := [vI l6]) rfl (fun _ _ _ _ => rfl) rfl rfl (Nat.le_of_ble_eq_true rfl) (Nat.le_of_ble_eq_true rfl) (recvV A (a := 13) (Abs_ks A (i := 23) rfl).1) (t199 (by omega) A (rgn 1 rfl) rl5 (rgn 5 rfl) e12) (fun r12 => ?_)
  rcases oi e with ⟨q13, e⟩ | ⟨q13, e⟩
  · refine hg_icT (tgt := 260) rfl (by decide) rl6 r12 q13 ?_
    cases e
    exact ke h rfl _ _ _ _  A
  · refine hg_icF (tgt := 260) rfl (by decide) rl6 r12 q13 ?_
    refine hg_run 6 (pc' := 114) (ls' := [some (vr 395), z1, some (vi l2), some (vi l3), some (vi l4), some (vi l5), some (vi l6), z7, z8]) (st' := [vI (wadd 6 l6), vI l5, vI 1, vR 395]) rfl ?_
    obtain ⟨v14, e14, e⟩ := ob e
    refine hg_cIp (as := [vR 395, vI 1, vI l5, vI (wadd 6 l6)]) (st' := []) rfl (fun _ _ _ _ => rfl) rfl rfl (Nat.le_of_ble_eq_true rfl) (Nat.le_of_ble_eq_true rfl) (recvV A (a := 13) (Abs_ks A (i := 23) rfl).1) (t199 (by omega) A (rgn 1 rfl) rl5 (rg_add _ _) e14) (fun r14 => ?_)
    refine hg_run 2 (pc' := 120) (ls' := [some (vr 395), z1, some (vi l2), some (vi l3), some (vi l4), some (vi l5), some (vi l6), some (vi v14), z8]) (st' := [vR 395]) rfl ?_
    refine gs_395_89 rfl A ?_
    refine hg_run 6 (pc' := 131) (ls' := [some (vr 395), z1, some (vi l2), some (vi l3), some (vi l4), some (vi l5), some (vi l6), some (vi v14), z8]) (st' := [vI 1, vI (wadd (wmul 40 l2) v14), vR 442]) rfl ?_
    obtain ⟨h15, e15, e⟩ := ob e
    refine hg_wBs rfl A (Abs_ks A (i := 70) rfl) (by decide) e15 (fun w15 A15 => ?_)
    refine hg_run 1 (pc' := 133) (ls' := [some (vr 395), z1, some (vi l2), some (vi l3), some (vi l4), some (vi l5), some (vi l6), some (vi v14), z8]) (st' := [vR 395]) rfl ?_
    refine gs_395_91 rfl A15 ?_
    refine hg_run 1 (pc' := 138) (ls' := [some (vr 395), z1, some (vi l2), some (vi l3), some (vi l4), some (vi l5), some (vi l6), some (vi v14), z8]) (st' := [vI v14, vR 444]) rfl ?_
    obtain ⟨v16, e16, e⟩ := ob e
    refine hg_aIs 0 rfl (fun _ _ _ _ => rfl) A15 (Abs_ks A15 (i := 72) rfl) rfl (by decide) e16 (fun r16 => ?_)
    refine hg_run 1 (pc' := 140) (ls' := [some (vr 395), z1, some (vi l2), some (vi l3), some (vi l4), some (vi l5), some (vi l6), some (vi v14), z8]) (st' := [vI (-1), vI v16]) rfl ?_
    rcases oi e with ⟨q17, e⟩ | ⟨q17, e⟩
    · refine hg_icT (tgt := 192) rfl (by decide) r16 (rgn (-1) rfl) q17 ?_
      refine hg_run 3 (pc' := 195) (ls' := [some (vr 395), z1, some (vi l2), some (vi l3), some (vi l4), some (vi l5), some (vi l6), some (vi v14), z8]) (st' := [vR 395, vI 0, vR 395]) rfl ?_
      refine gs_395_35 rfl A15 ?_
      refine hg_run 1 (pc' := 199) (ls' := [some (vr 395), z1, some (vi l2), some (vi l3), some (vi l4), some (vi l5), some (vi l6), some (vi v14), z8]) (st' := [vI l2, vR 404, vI 0, vR 395]) rfl ?_
      obtain ⟨v18, e18, e⟩ := ob e
      refine hg_aIs 0 rfl (fun _ _ _ _ => rfl) A15 (Abs_ks A15 (i := 32) rfl) rfl (by decide) e18 (fun r18 => ?_)
      refine hg_run 3 (pc' := 204) (ls' := [some (vr 395), z1, some (vi l2), some (vi l3), some (vi l4), some (vi l5), some (vi l6), some (vi v14), z8]) (st' := [vI v14, vI l3, vI 1, vI v18, vI 0, vR 395]) rfl ?_
      obtain ⟨v19, e19, e⟩ := ob e
      refine hg_cIp (as := [vR 395, vI 0, vI v18, vI 1, vI l3, vI v14]) (st' := []) rfl (fun _ _ _ _ => rfl) rfl rfl (Nat.le_of_ble_eq_true rfl) (Nat.le_of_ble_eq_true rfl) (recvV A15 (a := 13) (Abs_ks A15 (i := 23) rfl).1) (t287 (by omega) A15 (rgn 0 rfl) r18 (rgn 1 rfl) rl3 r14 e19) (fun r19 => ?_)
      refine hg_run 2 (pc' := 210) (ls' := [some (vr 395), z1, some (vi l2), some (vi l3), some (vi l4), some (vi l5), some (vi l6), some (vi v14), some (vi v19)]) (st' := [vR 395]) rfl ?_
      refine gs_395_87 rfl A15 ?_
      refine hg_run 7 (pc' := 223) (ls' := [some (vr 395), z1, some (vi l2), some (vi l3), some (vi l4), some (vi l5), some (vi l6), some (vi v14), some (vi v19)]) (st' := [vI (-1), vI v19, vI (wadd (wmul 40 l2) v14), vR 440]) rfl ?_
      rcases oi e with ⟨q20, e⟩ | ⟨q20, e⟩
      · refine hg_icF (tgt := 241) rfl (by decide) r19 (rgn (-1) rfl) (show ¬ ¬ (v19 = (-1)) from fun f => f q20) ?_
        refine hg_run 6 (pc' := 235) (ls' := [some (vr 395), z1, some (vi l2), some (vi l3), some (vi l4), some (vi l5), some (vi l6), some (vi v14), some (vi v19)]) (st' := [vI (wadd 14 l6), vI l5, vI 1, vR 395, vI (wadd (wmul 40 l2) v14), vR 440]) rfl ?_
        obtain ⟨v23, e23, e⟩ := ob e
        refine hg_cIp (as := [vR 395, vI 1, vI l5, vI (wadd 14 l6)]) (st' := [vI (wadd (wmul 40 l2) v14), vR 440]) rfl (fun _ _ _ _ => rfl) rfl rfl (Nat.le_of_ble_eq_true rfl) (Nat.le_of_ble_eq_true rfl) (recvV A15 (a := 13) (Abs_ks A15 (i := 23) rfl).1) (t199 (by omega) A15 (rgn 1 rfl) rl5 (rg_add _ _) e23) (fun r23 => ?_)
        refine hg_run 1 (pc' := 253) (ls' := [some (vr 395), z1, some (vi l2), some (vi l3), some (vi l4), some (vi l5), some (vi l6), some (vi v14), some (vi v19)]) (st' := [vI v23, vI (wadd (wmul 40 l2) v14), vR 440]) rfl ?_
        exact t285_j253 hd (rg_add _ _) r23 rl6 A15 e kb ke kr
      · refine hg_icT (tgt := 241) rfl (by decide) r19 (rgn (-1) rfl) (show ¬ (v19 = (-1)) from q20) ?_
        refine hg_run 1 (pc' := 242) (ls' := [some (vr 395), z1, some (vi l2), some (vi l3), some (vi l4), some (vi l5), some (vi l6), some (vi v14), some (vi v19)]) (st' := [vR 395, vI (wadd (wmul 40 l2) v14), vR 440]) rfl ?_
        refine gs_395_36 rfl A15 ?_
        refine hg_run 5 (pc' := 252) (ls' := [some (vr 395), z1, some (vi l2), some (vi l3), some (vi l4), some (vi l5), some (vi l6), some (vi v14), some (vi v19)]) (st' := [vI (wadd (wmul 40 l2) v19), vR 405, vI (wadd (wmul 40 l2) v14), vR 440]) rfl ?_
        obtain ⟨v21, e21, e⟩ := ob e
        refine hg_aIs 0 rfl (fun _ _ _ _ => rfl) A15 (Abs_ks A15 (i := 33) rfl) rfl (by decide) e21 (fun r21 => ?_)
        exact t285_j253 hd (rg_add _ _) r21 rl6 A15 e kb ke kr
    · refine hg_icF (tgt := 192) rfl (by decide) r16 (rgn (-1) rfl) q17 ?_
      refine hg_run 2 (pc' := 145) (ls' := [some (vr 395), z1, some (vi l2), some (vi l3), some (vi l4), some (vi l5), some (vi l6), some (vi v14), z8]) (st' := [vR 395, vR 395]) rfl ?_
      refine gs_395_91 rfl A15 ?_
      refine hg_run 1 (pc' := 150) (ls' := [some (vr 395), z1, some (vi l2), some (vi l3), some (vi l4), some (vi l5), some (vi l6), some (vi v14), z8]) (st' := [vI v14, vR 444, vR 395]) rfl ?_
      obtain ⟨v24, e24, e⟩ := ob e
      refine hg_aIs 0 rfl (fun _ _ _ _ => rfl) A15 (Abs_ks A15 (i := 72) rfl) rfl (by decide) e24 (fun r24 => ?_)
      refine hg_run 1 (pc' := 152) (ls' := [some (vr 395), z1, some (vi l2), some (vi l3), some (vi l4), some (vi l5), some (vi l6), some (vi v14), z8]) (st' := [vI 0, vI v24, vR 395]) rfl ?_
      obtain ⟨v25, e25, e⟩ := ob e
      refine hg_cI (as := [vR 395, vI v24, vI 0]) (st' := []) rfl (fun _ _ _ _ => rfl) rfl rfl (Nat.le_of_ble_eq_true rfl) (Nat.le_of_ble_eq_true rfl) (recvV A15 (a := 13) (Abs_ks A15 (i := 23) rfl).1) (u258 120 (by omega) 258 _ _ _ _ A15 (rglc r24 (rglc (rgn 0 rfl) rgl0)) e25) (fun w25 r25 A25 => ?_)
      rcases oi e with ⟨q26, e⟩ | ⟨q26, e⟩
      · refine hg_ifF (tgt := 173) rfl (by decide) r25 (show ¬ ¬ (v25.1 = 0) from fun f => f q26) ?_
        refine hg_run 3 (pc' := 162) (ls' := [some (vr 395), z1, some (vi l2), some (vi l3), some (vi l4), some (vi l5), some (vi l6), some (vi v14), z8]) (st' := [vR 395, vI 9, vR 395]) rfl ?_
        refine gs_395_92 rfl A25 ?_
        refine hg_run 1 (pc' := 167) (ls' := [some (vr 395), z1, some (vi l2), some (vi l3), some (vi l4), some (vi l5), some (vi l6), some (vi v14), z8]) (st' := [vI v14, vR 445, vI 9, vR 395]) rfl ?_
        obtain ⟨v28, e28, e⟩ := ob e
        refine hg_aIs 0 rfl (fun _ _ _ _ => rfl) A25 (Abs_ks A25 (i := 73) rfl) rfl (by decide) e28 (fun r28 => ?_)
        refine hg_run 1 (pc' := 169) (ls' := [some (vr 395), z1, some (vi l2), some (vi l3), some (vi l4), some (vi l5), some (vi l6), some (vi v14), z8]) (st' := [vI l2, vI v28, vI 9, vR 395]) rfl ?_
        obtain ⟨v29, e29, e⟩ := ob e
        refine hg_cI (as := [vR 395, vI 9, vI v28, vI l2]) (st' := []) rfl (fun _ _ _ _ => rfl) rfl rfl (Nat.le_of_ble_eq_true rfl) (Nat.le_of_ble_eq_true rfl) (recvV A25 (a := 13) (Abs_ks A25 (i := 23) rfl).1) (t276 (by omega) A25 (rgn 9 rfl) r28 rl2 e29) (fun w29 r29 A29 => ?_)
        obtain ⟨u30, e30, e⟩ := ob e
        cases e
        exact hg_retI rfl (by decide) (fit_B (kB_e e30)) (kr _ _ rfl _ r29 A29)
      · refine hg_ifT (tgt := 173) rfl (by decide) r25 (show ¬ (v25.1 = 0) from q26) ?_
        refine hg_run 1 (pc' := 174) (ls' := [some (vr 395), z1, some (vi l2), some (vi l3), some (vi l4), some (vi l5), some (vi l6), some (vi v14), z8]) (st' := [vR 395]) rfl ?_
        refine gs_395_87 rfl A25 ?_
        refine hg_run 6 (pc' := 185) (ls' := [some (vr 395), z1, some (vi l2), some (vi l3), some (vi l4), some (vi l5), some (vi l6), some (vi v14), z8]) (st' := [vR 395, vI (wadd (wmul 40 l2) v14), vR 440]) rfl ?_
        refine gs_395_52 rfl A25 ?_
        obtain ⟨h27, e27, e⟩ := ob e
        refine hg_wIs rfl A25 (Abs_ks A25 (i := 68) rfl) (by decide) (Abs_rg A25 395 52) e27 (fun w27 A27 => ?_)
        refine hg_run 1 (pc' := 254) (ls' := [some (vr 395), z1, some (vi l2), some (vi l3), some (vi l4), some (vi l5), some (vi l6), some (vi v14), z8]) (st' := []) rfl ?_
        exact t285_j254 hd rl6 A27 e kb ke kr
set_option maxRecDepth 100000 in
theorem t285_l92 {d : Nat} (hd : 125 ≤ d) {l2 : Int} {l3 : Int} {l5 : Int} {z1 : Option hO} {l4 : Int} {Q : mmO → Prop} (rl2 : rg l2) (rl3 : rg l3) (rl5 : rg l5) (n : Nat) {l6 : Int} {z7 z8 : Option hO} {h : hS} {w : mmW} {r : (hS) ⊕ (Int × hS)} (rl6 : rg l6) (A : Abs h w) (e : lp (fun s => c285_b92 l2 l3 l5 s.1 s.2) n (l6, h) = some r) (ke : ∀ (x_0 : hS), r = .inl (x_0) → ∀ w', ∀ (y6 y7 y8 : Option hO), Abs x_0 w' → hG d 285 260 [some (vr 395), z1, some (vi l2), some (vi l3), some (vi l4), some (vi l5), y6, y7, y8] [] w' Q) (kr : ∀ (v1 : Int) (h1 : hS), r = .inr (v1, h1) → ∀ w', rg v1 → Abs h1 w' → Q (some (.int (Int32.ofInt v1)), w')) : hG d 285 92 [some (vr 395), z1, some (vi l2), some (vi l3), some (vi l4), some (vi l5), some (vi l6), z7, z8] [] w Q := by
  induction n generalizing l6 z7 z8 h w with
  | zero => cases e
  | succ n ih =>
    rcases lp_succ e with ⟨s1, e1, e2⟩ | e1
    · exact t285_b92 hd rl2 rl3 rl5 rl6 A e1 (fun s_0 s_1 q w1 y7 y8 rl6 A1 => by cases q; exact ih rl6 A1 e2) (fun x_0 q => by cases q) (fun v0 h0 q => by cases q)
    · exact t285_b92 hd rl2 rl3 rl5 rl6 A e1 (fun s_0 s_1 q => by cases q) (fun x_0 q => by cases q; exact ke _ rfl) (fun v0 h0 q => by cases q; exact kr _ _ rfl)
def c285_b55 (l2 : Int) (l3 : Int) (l4 : Int) (h : hS) : Option ((Int × hS) ⊕ ((hS) ⊕ (Int × hS))) :=
  if l4 ≤ 0 then
  some (.inr (.inl (h)))
  else
  (lp (fun s => c285_b66 l4 h s.1 s.2) hF0 (l3, 1)).bind (fun r11 =>
  (lp (fun s => c285_b92 l2 l3 r11 s.1 s.2) hF0 (0, h)).bind (fun r31 => xs r31 (fun x31 =>
  some (.inl ((wadd l4 (-1)), x31))) (fun o31 => some (.inr (.inr o31)))))
set_option maxRecDepth 100000 in
theorem t285_b55 {d : Nat} (hd : 125 ≤ d) {l2 : Int} {l3 : Int} {l4 : Int} {z1 : Option hO} {z5 : Option hO} {z6 : Option hO} {z7 : Option hO} {z8 : Option hO} {h : hS} {w : mmW} {o : (Int × hS) ⊕ ((hS) ⊕ (Int × hS))} {Q : mmO → Prop} (rl2 : rg l2) (rl3 : rg l3) (rl4 : rg l4) (A : Abs h w) (e : c285_b55 l2 l3 l4 h = some o) (kb : ∀ (s_0 : Int) (s_1 : hS), o = .inl (s_0, s_1) → ∀ w', ∀ (y5 y6 y7 y8 : Option hO), rg s_0 → Abs s_1 w' → hG d 285 55 [some (vr 395), z1, some (vi l2), some (vi l3), some (vi s_0), y5, y6, y7, y8] [] w' Q) (ke : ∀ (x_0 : hS), o = .inr (.inl (x_0)) → ∀ w', ∀ (y4 y5 y6 y7 y8 : Option hO), Abs x_0 w' → hG d 285 266 [some (vr 395), z1, some (vi l2), some (vi l3), y4, y5, y6, y7, y8] [] w' Q) (kr : ∀ (v1 : Int) (h1 : hS), o = .inr (.inr (v1, h1)) → ∀ w', rg v1 → Abs h1 w' → Q (some (.int (Int32.ofInt v1)), w')) : hG d 285 55 [some (vr 395), z1, some (vi l2), some (vi l3), some (vi l4), z5, z6, z7, z8] [] w Q := by
  unfold c285_b55 at e
  refine hg_run 1 (pc' := 57) (ls' := [some (vr 395), z1, some (vi l2), some (vi l3), some (vi l4), z5, z6, z7, z8]) (st' := [vI l4]) rfl ?_
  rcases oi e with ⟨q8, e⟩ | ⟨q8, e⟩
  · refine hg_ifT (tgt := 266) rfl (by decide) rl4 q8 ?_
    cases e
    exact ke h rfl _ _ _ _ _ _  A
  · refine hg_ifF (tgt := 266) rfl (by decide) rl4 q8 ?_
    refine hg_run 4 (pc' := 66) (ls' := [some (vr 395), z1, some (vi l2), some (vi l3), some (vi l4), some (vi l3), some (vi 1), z7, z8]) (st' := []) rfl ?_
    obtain ⟨r11, e11, e⟩ := ob e
    refine t285_l66 hd rl4 _ rl3 (rgn 1 rfl) A e11 ?_
    intro x11_0 qq11 z11_6 q11_5
    subst qq11
    refine hg_run 2 (pc' := 92) (ls' := [some (vr 395), z1, some (vi l2), some (vi l3), some (vi l4), some (vi r11), some (vi 0), z7, z8]) (st' := []) rfl ?_
    obtain ⟨r31, e31, e⟩ := ob e
    refine t285_l92 hd rl2 rl3 q11_5 _ (rgn 0 rfl) A e31 ?_ ?_
    · intro x31_0 qq31 w31 z31_6 z31_7 z31_8 A31
      subst qq31
      have e := xs_l e
      refine hg_run 2 (pc' := 55) (ls' := [some (vr 395), z1, some (vi l2), some (vi l3), some (vi (wadd l4 (-1))), some (vi r11), z31_6, z31_7, z31_8]) (st' := []) rfl ?_
      cases e
      exact kb (wadd l4 (-1)) x31_0 rfl _ _ _ _ _ (rg_add _ _) A31
    · intro v31 h31 qq31 w31 r31 A31
      subst qq31
      have e := xs_r e
      cases e
      exact kr _ _ rfl w31 r31 A31
set_option maxRecDepth 100000 in
theorem t285_l55 {d : Nat} (hd : 125 ≤ d) {l2 : Int} {l3 : Int} {z1 : Option hO} {Q : mmO → Prop} (rl2 : rg l2) (rl3 : rg l3) (n : Nat) {l4 : Int} {z5 z6 z7 z8 : Option hO} {h : hS} {w : mmW} {r : (hS) ⊕ (Int × hS)} (rl4 : rg l4) (A : Abs h w) (e : lp (fun s => c285_b55 l2 l3 s.1 s.2) n (l4, h) = some r) (ke : ∀ (x_0 : hS), r = .inl (x_0) → ∀ w', ∀ (y4 y5 y6 y7 y8 : Option hO), Abs x_0 w' → hG d 285 266 [some (vr 395), z1, some (vi l2), some (vi l3), y4, y5, y6, y7, y8] [] w' Q) (kr : ∀ (v1 : Int) (h1 : hS), r = .inr (v1, h1) → ∀ w', rg v1 → Abs h1 w' → Q (some (.int (Int32.ofInt v1)), w')) : hG d 285 55 [some (vr 395), z1, some (vi l2), some (vi l3), some (vi l4), z5, z6, z7, z8] [] w Q := by
  induction n generalizing l4 z5 z6 z7 z8 h w with
  | zero => cases e
  | succ n ih =>
    rcases lp_succ e with ⟨s1, e1, e2⟩ | e1
    · exact t285_b55 hd rl2 rl3 rl4 A e1 (fun s_0 s_1 q w1 y5 y6 y7 y8 rl4 A1 => by cases q; exact ih rl4 A1 e2) (fun x_0 q => by cases q) (fun v0 h0 q => by cases q)
    · exact t285_b55 hd rl2 rl3 rl4 A e1 (fun s_0 s_1 q => by cases q) (fun x_0 q => by cases q; exact ke _ rfl) (fun v0 h0 q => by cases q; exact kr _ _ rfl)
def c285 (l1 : Int) (l2 : Int) (l3 : Int) (h : hS) : Option (Int × hS) :=
  (c286 l1 l3 h).bind (fun h1 =>
  (wIs h1 408 21 0 l2).bind (fun h2 =>
  (wIs h2 409 21 0 0).bind (fun h3 =>
  (wIs h3 410 21 0 0).bind (fun h4 =>
  (lp (fun s => c285_b33 h4 s.1 s.2) hF0 (0, l3)).bind (fun r7 =>
  (lp (fun s => c285_b55 l2 l3 s.1 s.2) hF0 (r7, h4)).bind (fun r32 => xs r32 (fun x32 =>
  some (1, x32)) (fun o32 => some o32)))))))
set_option maxRecDepth 100000 in
theorem t285 {d : Nat} (hd : 126 ≤ d) {l1 : Int} {l2 : Int} {l3 : Int} {h : hS} {w : mmW} {o : Int × hS} (A : Abs h w) (rl1 : rg l1) (rl2 : rg l2) (rl3 : rg l3) (e : c285 l1 l2 l3 h = some o) : hEv d 285 [vR 395, vI l1, vI l2, vI l3] w (qI o) := by
  obtain ⟨d, rfl⟩ : ∃ d1, d = d1 + 1 := ⟨d - 1, by omega⟩
  have hd : 125 ≤ d := by omega
  refine hEv_start (args := [vr 395, vi l1, vi l2, vi l3]) (nl := 9) rfl (Nat.le_of_ble_eq_true rfl) ?_
  show hG d 285 0 [some (vr 395), some (vi l1), some (vi l2), some (vi l3), none, none, none, none, none] [] w _
  have kr : ∀ (v1 : Int) (h1 : hS), o = (v1, h1) → ∀ w', rg v1 → Abs h1 w' → qI o (some (.int (Int32.ofInt v1)), w') := fun v1 h1 q w' r A' => by cases q; exact ⟨rfl, r, A'⟩
  unfold c285 at e
  refine hg_run 3 (pc' := 3) (ls' := [some (vr 395), some (vi l1), some (vi l2), some (vi l3), none, none, none, none, none]) (st' := [vI l3, vI l1, vR 395]) rfl ?_
  obtain ⟨h1, e1, e⟩ := ob e
  refine hg_cV (as := [vR 395, vI l1, vI l3]) (st' := []) rfl (fun _ _ _ _ => rfl) rfl rfl (Nat.le_of_ble_eq_true rfl) (Nat.le_of_ble_eq_true rfl) (recvV A (a := 13) (Abs_ks A (i := 23) rfl).1) (t286 (by omega) A rl1 rl3 e1) (fun w1 A1 => ?_)
  refine hg_run 1 (pc' := 7) (ls' := [some (vr 395), some (vi l1), some (vi l2), some (vi l3), none, none, none, none, none]) (st' := [vR 395]) rfl ?_
  refine gs_395_43 rfl A1 ?_
  refine hg_run 2 (pc' := 12) (ls' := [some (vr 395), some (vi l1), some (vi l2), some (vi l3), none, none, none, none, none]) (st' := [vI l2, vI 0, vR 408]) rfl ?_
  obtain ⟨h2, e2, e⟩ := ob e
  refine hg_wIs rfl A1 (Abs_ks A1 (i := 36) rfl) (by decide) rl2 e2 (fun w2 A2 => ?_)
  refine hg_run 1 (pc' := 14) (ls' := [some (vr 395), some (vi l1), some (vi l2), some (vi l3), none, none, none, none, none]) (st' := [vR 395]) rfl ?_
  refine gs_395_44 rfl A2 ?_
  refine hg_run 2 (pc' := 19) (ls' := [some (vr 395), some (vi l1), some (vi l2), some (vi l3), none, none, none, none, none]) (st' := [vI 0, vI 0, vR 409]) rfl ?_
  obtain ⟨h3, e3, e⟩ := ob e
  refine hg_wIs rfl A2 (Abs_ks A2 (i := 37) rfl) (by decide) (rgn 0 rfl) e3 (fun w3 A3 => ?_)
  refine hg_run 1 (pc' := 21) (ls' := [some (vr 395), some (vi l1), some (vi l2), some (vi l3), none, none, none, none, none]) (st' := [vR 395]) rfl ?_
  refine gs_395_45 rfl A3 ?_
  refine hg_run 2 (pc' := 26) (ls' := [some (vr 395), some (vi l1), some (vi l2), some (vi l3), none, none, none, none, none]) (st' := [vI 0, vI 0, vR 410]) rfl ?_
  obtain ⟨h4, e4, e⟩ := ob e
  refine hg_wIs rfl A3 (Abs_ks A3 (i := 38) rfl) (by decide) (rgn 0 rfl) e4 (fun w4 A4 => ?_)
  refine hg_run 4 (pc' := 33) (ls' := [some (vr 395), some (vi l1), some (vi l2), some (vi l3), some (vi 0), some (vi l3), none, none, none]) (st' := []) rfl ?_
  obtain ⟨r7, e7, e⟩ := ob e
  refine t285_l33 hd  _ (rgn 0 rfl) rl3 A4 e7 ?_
  intro x7_0 qq7 z7_5 q7_4
  subst qq7
  obtain ⟨r32, e32, e⟩ := ob e
  refine t285_l55 hd rl2 rl3 _ q7_4 A4 e32 ?_ ?_
  · intro x32_0 qq32 w32 z32_4 z32_5 z32_6 z32_7 z32_8 A32
    subst qq32
    have e := xs_l e
    refine hg_run 1 (pc' := 267) (ls' := [some (vr 395), some (vi l1), some (vi l2), some (vi l3), z32_4, z32_5, z32_6, z32_7, z32_8]) (st' := [vI 1]) rfl ?_
    cases e
    exact hg_retI rfl (by decide) (fit_B (.inr rfl)) (kr _ _ rfl _ (rgn 1 rfl) A32)
  · intro v32 h32 qq32 w32 r32 A32
    subst qq32
    have e := xs_r e
    cases e
    exact kr _ _ rfl w32 r32 A32
