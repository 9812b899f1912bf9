/-! read as functions: laid by wip/whole/shallow.py -/
def c65 (l1 : Int) (h : hS) : Option (hS) :=
  if 4000 ≤ (hI h 15 7) then
  some h
  else
  (wIs h 17 4000 (hI h 15 7) l1).bind (fun h3 =>
  (some (sI h3 15 7 (wadd (hI h3 15 7) 1))).bind (fun h4 =>
  some h4))
theorem t65 {d : Nat} (hd : 1 ≤ d) {l1 : Int} {h : hS} {w : mmW} {o : hS} (A : Abs h w) (rl1 : rg l1) (e : c65 l1 h = some o) : hEv d 65 [vR 15, vI l1] w (qV o) := by
  obtain ⟨d, rfl⟩ : ∃ d1, d = d1 + 1 := ⟨d - 1, by omega⟩
  have hd : 0 ≤ d := by omega
  refine hEv_start (args := [vr 15, vi l1]) (nl := 2) rfl (Nat.le_of_ble_eq_true rfl) ?_
  show hG d 65 0 [some (vr 15), some (vi l1)] [] w _
  have kr : ∀ h1 : hS, o = h1 → ∀ w', Abs h1 w' → qV o (none, w') := fun h1 q w' A' => by cases q; exact ⟨rfl, A'⟩
  unfold c65 at e
  refine hg_run 1 (pc' := 1) (ls' := [some (vr 15), some (vi l1)]) (st' := [vR 15]) rfl ?_
  refine gs_15_7 rfl A ?_
  refine hg_run 1 (pc' := 5) (ls' := [some (vr 15), some (vi l1)]) (st' := [vR 15, vI (hI h 15 7)]) rfl ?_
  refine gs_15_6 rfl A ?_
  refine hg_len (t := 0) (v := 4000) rfl A (Abs_ks A (i := 9) rfl).1 (by rw [(Abs_ks A (i := 9) rfl).2]; rfl) (fun _ => ?_)
  rcases oi e with ⟨q2, e⟩ | ⟨q2, e⟩
  · refine hg_icT (tgt := 32) rfl (by decide) (Abs_rg A 15 7) (rgn 4000 rfl) q2 ?_
    cases e
    exact hg_retV rfl (kr _ rfl _ A)
  · refine hg_icF (tgt := 32) rfl (by decide) (Abs_rg A 15 7) (rgn 4000 rfl) q2 ?_
    refine hg_run 1 (pc' := 13) (ls' := [some (vr 15), some (vi l1)]) (st' := [vR 15]) rfl ?_
    refine gs_15_6 rfl A ?_
    refine hg_run 1 (pc' := 17) (ls' := [some (vr 15), some (vi l1)]) (st' := [vR 15, vR 17]) rfl ?_
    refine gs_15_7 rfl A ?_
    refine hg_run 1 (pc' := 21) (ls' := [some (vr 15), some (vi l1)]) (st' := [vI l1, vI (hI h 15 7), vR 17]) rfl ?_
    obtain ⟨h3, e3, e⟩ := ob e
    refine hg_wIs rfl A (Abs_ks A (i := 9) rfl) (by decide) rl1 e3 (fun w3 A3 => ?_)
    refine hg_run 2 (pc' := 24) (ls' := [some (vr 15), some (vi l1)]) (st' := [vR 15, vR 15]) rfl ?_
    refine gs_15_7 rfl A3 ?_
    refine hg_run 2 (pc' := 29) (ls' := [some (vr 15), some (vi l1)]) (st' := [vI (wadd (hI h3 15 7) 1), vR 15]) rfl ?_
    obtain ⟨h4, e4, e⟩ := ob e
    refine ps_15_7 rfl A3 (rg_add _ _) e4 (fun w4 A4 => ?_)
    cases e
    exact hg_retV rfl (kr _ rfl _ A4)
def c70_j41  : Option (Int) :=
  some 1
theorem t70_j41 {d : Nat} (hd : 0 ≤ d)  {z0 : Option hO} {z1 : Option hO} {h : hS} {w : mmW} {o : Int} {Q : mmO → Prop}  (A : Abs h w) (e : c70_j41  = some o) (kr : ∀ v1 : Int, o = v1 → rg v1 → Q (some (.int (Int32.ofInt v1)), w)) : hG d 70 41 [z0, z1] [] w Q := by
  unfold c70_j41 at e
  refine hg_run 2 (pc' := 46) (ls' := [z0, z1]) (st' := [vI 1]) rfl ?_
  cases e
  exact hg_retI rfl (by decide) (fit_B (.inr rfl)) (kr _ rfl (rgn 1 rfl))
def c70_j59  : Option (Int) :=
  some 1
theorem t70_j59 {d : Nat} (hd : 0 ≤ d)  {z0 : Option hO} {z1 : Option hO} {h : hS} {w : mmW} {o : Int} {Q : mmO → Prop}  (A : Abs h w) (e : c70_j59  = some o) (kr : ∀ v1 : Int, o = v1 → rg v1 → Q (some (.int (Int32.ofInt v1)), w)) : hG d 70 59 [z0, z1] [] w Q := by
  unfold c70_j59 at e
  refine hg_run 2 (pc' := 64) (ls' := [z0, z1]) (st' := [vI 1]) rfl ?_
  cases e
  exact hg_retI rfl (by decide) (fit_B (.inr rfl)) (kr _ rfl (rgn 1 rfl))
def c70_j77  : Option (Int) :=
  some 1
theorem t70_j77 {d : Nat} (hd : 0 ≤ d)  {z0 : Option hO} {z1 : Option hO} {h : hS} {w : mmW} {o : Int} {Q : mmO → Prop}  (A : Abs h w) (e : c70_j77  = some o) (kr : ∀ v1 : Int, o = v1 → rg v1 → Q (some (.int (Int32.ofInt v1)), w)) : hG d 70 77 [z0, z1] [] w Q := by
  unfold c70_j77 at e
  refine hg_run 2 (pc' := 82) (ls' := [z0, z1]) (st' := [vI 1]) rfl ?_
  cases e
  exact hg_retI rfl (by decide) (fit_B (.inr rfl)) (kr _ rfl (rgn 1 rfl))
def c70 (l0 : Int) (l1 : Int) (h : hS) : Option (Int) :=
  if (0 : Int) = l0 then
  if l1 = 60 then
  c70_j41 
  else
  if l1 = 250 then
  c70_j41 
  else
  some 0
  else
  if (1 : Int) = l0 then
  if l1 = 43 then
  c70_j59 
  else
  if l1 = 45 then
  c70_j59 
  else
  some 0
  else
  if l1 = 42 then
  c70_j77 
  else
  if l1 = 47 then
  c70_j77 
  else
  some 0
theorem t70 {d : Nat} (hd : 1 ≤ d) {l0 : Int} {l1 : Int} {h : hS} {w : mmW} {o : Int} (A : Abs h w) (rl0 : rg l0) (rl1 : rg l1) (e : c70 l0 l1 h = some o) : hEv d 70 [vI l0, vI l1] w (qIp o w) := by
  obtain ⟨d, rfl⟩ : ∃ d1, d = d1 + 1 := ⟨d - 1, by omega⟩
  have hd : 0 ≤ d := by omega
  refine hEv_start (args := [vi l0, vi l1]) (nl := 2) rfl (Nat.le_of_ble_eq_true rfl) ?_
  show hG d 70 0 [some (vi l0), some (vi l1)] [] w _
  have kr : ∀ v1 : Int, o = v1 → rg v1 → qIp o w (some (.int (Int32.ofInt v1)), w) := fun v1 q r => by cases q; exact ⟨rfl, r⟩
  unfold c70 at e
  refine hg_run 1 (pc' := 1) (ls' := [some (vi l0), some (vi l1)]) (st' := [vI l0]) rfl ?_
  rcases oi e with ⟨q1, e⟩ | ⟨q1, e⟩
  · refine hg_lsw (off := 27) (tgt := 28) rfl rfl rl0 (show (if (0 : Int) = l0 then (27 : Int) else if (1 : Int) = l0 then (46 : Int) else (64 : Int)) = 27 by rw [if_pos q1]) (by decide) ?_
    refine hg_run 2 (pc' := 31) (ls' := [some (vi l0), some (vi l1)]) (st' := [vI 60, vI l1]) rfl ?_
    rcases oi e with ⟨q2, e⟩ | ⟨q2, e⟩
    · refine hg_icT (tgt := 41) rfl (by decide) rl1 (rgn 60 rfl) q2 ?_
      exact t70_j41 hd  A e kr
    · refine hg_icF (tgt := 41) rfl (by decide) rl1 (rgn 60 rfl) q2 ?_
      refine hg_run 2 (pc' := 38) (ls' := [some (vi l0), some (vi l1)]) (st' := [vI 250, vI l1]) rfl ?_
      rcases oi e with ⟨q3, e⟩ | ⟨q3, e⟩
      · refine hg_icF (tgt := 45) rfl (by decide) rl1 (rgn 250 rfl) (show ¬ ¬ (l1 = 250) from fun f => f q3) ?_
        exact t70_j41 hd  A e kr
      · refine hg_icT (tgt := 45) rfl (by decide) rl1 (rgn 250 rfl) (show ¬ (l1 = 250) from q3) ?_
        refine hg_run 1 (pc' := 46) (ls' := [some (vi l0), some (vi l1)]) (st' := [vI 0]) rfl ?_
        cases e
        exact hg_retI rfl (by decide) (fit_B (.inl rfl)) (kr _ rfl (rgn 0 rfl))
  · rcases oi e with ⟨q4, e⟩ | ⟨q4, e⟩
    · refine hg_lsw (off := 46) (tgt := 47) rfl rfl rl0 (show (if (0 : Int) = l0 then (27 : Int) else if (1 : Int) = l0 then (46 : Int) else (64 : Int)) = 46 by rw [if_neg q1, if_pos q4]) (by decide) ?_
      refine hg_run 2 (pc' := 50) (ls' := [some (vi l0), some (vi l1)]) (st' := [vI 43, vI l1]) rfl ?_
      rcases oi e with ⟨q5, e⟩ | ⟨q5, e⟩
      · refine hg_icT (tgt := 59) rfl (by decide) rl1 (rgn 43 rfl) q5 ?_
        exact t70_j59 hd  A e kr
      · refine hg_icF (tgt := 59) rfl (by decide) rl1 (rgn 43 rfl) q5 ?_
        refine hg_run 2 (pc' := 56) (ls' := [some (vi l0), some (vi l1)]) (st' := [vI 45, vI l1]) rfl ?_
        rcases oi e with ⟨q6, e⟩ | ⟨q6, e⟩
        · refine hg_icF (tgt := 63) rfl (by decide) rl1 (rgn 45 rfl) (show ¬ ¬ (l1 = 45) from fun f => f q6) ?_
          exact t70_j59 hd  A e kr
        · refine hg_icT (tgt := 63) rfl (by decide) rl1 (rgn 45 rfl) (show ¬ (l1 = 45) from q6) ?_
          refine hg_run 1 (pc' := 64) (ls' := [some (vi l0), some (vi l1)]) (st' := [vI 0]) rfl ?_
          cases e
          exact hg_retI rfl (by decide) (fit_B (.inl rfl)) (kr _ rfl (rgn 0 rfl))
    · refine hg_lsw (off := 64) (tgt := 65) rfl rfl rl0 (show (if (0 : Int) = l0 then (27 : Int) else if (1 : Int) = l0 then (46 : Int) else (64 : Int)) = 64 by rw [if_neg q1, if_neg q4]) (by decide) ?_
      refine hg_run 2 (pc' := 68) (ls' := [some (vi l0), some (vi l1)]) (st' := [vI 42, vI l1]) rfl ?_
      rcases oi e with ⟨q7, e⟩ | ⟨q7, e⟩
      · refine hg_icT (tgt := 77) rfl (by decide) rl1 (rgn 42 rfl) q7 ?_
        exact t70_j77 hd  A e kr
      · refine hg_icF (tgt := 77) rfl (by decide) rl1 (rgn 42 rfl) q7 ?_
        refine hg_run 2 (pc' := 74) (ls' := [some (vi l0), some (vi l1)]) (st' := [vI 47, vI l1]) rfl ?_
        rcases oi e with ⟨q8, e⟩ | ⟨q8, e⟩
        · refine hg_icF (tgt := 81) rfl (by decide) rl1 (rgn 47 rfl) (show ¬ ¬ (l1 = 47) from fun f => f q8) ?_
          exact t70_j77 hd  A e kr
        · refine hg_icT (tgt := 81) rfl (by decide) rl1 (rgn 47 rfl) (show ¬ (l1 = 47) from q8) ?_
          refine hg_run 1 (pc' := 82) (ls' := [some (vi l0), some (vi l1)]) (st' := [vI 0]) rfl ?_
          cases e
          exact hg_retI rfl (by decide) (fit_B (.inl rfl)) (kr _ rfl (rgn 0 rfl))
def c67_b39 (call : Nat → List Int → hS → Option (Int × hS)) (l1 : Int) (l2 : Int) (l3 : Int) (l4 : Int) (h : hS) : Option ((Int × hS) ⊕ ((hS) ⊕ (Int × hS))) :=
  if l3 ≤ l4 then
  some (.inr (.inl (h)))
  else
  (c39  h).bind (fun v6 =>
  (c70 l1 v6 h).bind (fun v7 =>
  if v7 = 0 then
  some (.inr (.inl (h)))
  else
  (c39  h).bind (fun v9 =>
  (some (sI h 15 3 (wadd (hI h 15 3) 1))).bind (fun h10 =>
  (call 67 [(wadd l1 1), l2] h10).bind (fun v11 =>
  if v11.1 = 0 then
  some (.inr (.inr (0, v11.2)))
  else
  (c65 v9 v11.2).bind (fun h13 =>
  some (.inl ((wadd l4 1), h13))))))))
theorem t67_b39 {d : Nat} {call : Nat → List Int → hS → Option (Int × hS)} (hcall : ∀ (k : Nat) (as : List Int) (h : hS) (w : mmW) (o : Int × hS), Abs h w → (∀ a ∈ as, rg a) → call k as h = some o → hEv d k (vR 15 :: as.map vI) w (qI o)) (hd : 2 ≤ d) {l1 : Int} {l2 : Int} {l3 : Int} {l4 : Int} {z5 : Option hO} {h : hS} {w : mmW} {o : (Int × hS) ⊕ ((hS) ⊕ (Int × hS))} {Q : mmO → Prop} (rl1 : rg l1) (rl2 : rg l2) (rl3 : rg l3) (rl4 : rg l4) (A : Abs h w) (e : c67_b39 call l1 l2 l3 l4 h = some o) (kb : ∀ (s_0 : Int) (s_1 : hS), o = .inl (s_0, s_1) → ∀ w', ∀ (y5 : Option hO), rg s_0 → Abs s_1 w' → hG d 67 39 [some (vr 15), some (vi l1), some (vi l2), some (vi l3), some (vi s_0), y5] [] w' Q) (ke : ∀ (x_0 : hS), o = .inr (.inl (x_0)) → ∀ w', ∀ (y4 y5 : Option hO), Abs x_0 w' → hG d 67 97 [some (vr 15), some (vi l1), some (vi l2), some (vi l3), y4, y5] [] w' Q) (kr : ∀ (v1 : Int) (h1 : hS), o = .inr (.inr (v1, h1)) → ∀ w', rg v1 → Abs h1 w' → Q (some (.int (Int32.ofInt v1)), w')) : hG d 67 39 [some (vr 15), some (vi l1), some (vi l2), some (vi l3), some (vi l4), z5] [] w Q := by
  unfold c67_b39 at e
  refine hg_run 2 (pc' := 42) (ls' := [some (vr 15), some (vi l1), some (vi l2), some (vi l3), some (vi l4), z5]) (st' := [vI l3, vI l4]) rfl ?_
  rcases oi e with ⟨q5, e⟩ | ⟨q5, e⟩
  · refine hg_icT (tgt := 97) rfl (by decide) rl4 rl3 q5 ?_
    cases e
    exact ke h rfl _ _ _  A
  · refine hg_icF (tgt := 97) rfl (by decide) rl4 rl3 q5 ?_
    refine hg_run 2 (pc' := 47) (ls' := [some (vr 15), some (vi l1), some (vi l2), some (vi l3), some (vi l4), z5]) (st' := [vR 15, vI l1]) rfl ?_
    obtain ⟨v6, e6, e⟩ := ob e
    refine hg_cIp (as := [vR 15]) (st' := [vI l1]) rfl (fun _ _ _ _ => rfl) rfl rfl (Nat.le_of_ble_eq_true rfl) (Nat.le_of_ble_eq_true rfl) (recvV A (a := 2) (Abs_ks A (i := 7) rfl).1) (t39 (by omega) A  e6) (fun r6 => ?_)
    obtain ⟨v7, e7, e⟩ := ob e
    refine hg_cIp (as := [vI l1, vI v6]) (st' := []) rfl (fun _ _ _ _ => rfl) rfl rfl (Nat.le_of_ble_eq_true rfl) (Nat.le_of_ble_eq_true rfl) recv0 (t70 (by omega) A rl1 r6 e7) (fun r7 => ?_)
    rcases oi e with ⟨q8, e⟩ | ⟨q8, e⟩
    · refine hg_ifT (tgt := 97) rfl (by decide) r7 q8 ?_
      cases e
      exact ke h rfl _ _ _  A
    · refine hg_ifF (tgt := 97) rfl (by decide) r7 q8 ?_
      refine hg_run 1 (pc' := 57) (ls' := [some (vr 15), some (vi l1), some (vi l2), some (vi l3), some (vi l4), z5]) (st' := [vR 15]) rfl ?_
      obtain ⟨v9, e9, e⟩ := ob e
      refine hg_cIp (as := [vR 15]) (st' := []) rfl (fun _ _ _ _ => rfl) rfl rfl (Nat.le_of_ble_eq_true rfl) (Nat.le_of_ble_eq_true rfl) (recvV A (a := 2) (Abs_ks A (i := 7) rfl).1) (t39 (by omega) A  e9) (fun r9 => ?_)
      refine hg_run 3 (pc' := 64) (ls' := [some (vr 15), some (vi l1), some (vi l2), some (vi l3), some (vi l4), some (vi v9)]) (st' := [vR 15, vR 15]) rfl ?_
      refine gs_15_3 rfl A ?_
      refine hg_run 2 (pc' := 69) (ls' := [some (vr 15), some (vi l1), some (vi l2), some (vi l3), some (vi l4), some (vi v9)]) (st' := [vI (wadd (hI h 15 3) 1), vR 15]) rfl ?_
      obtain ⟨h10, e10, e⟩ := ob e
      refine ps_15_3 rfl A (rg_add _ _) e10 (fun w10 A10 => ?_)
      refine hg_run 5 (pc' := 77) (ls' := [some (vr 15), some (vi l1), some (vi l2), some (vi l3), some (vi l4), some (vi v9)]) (st' := [vI l2, vI (wadd l1 1), vR 15]) rfl ?_
      obtain ⟨v11, e11, e⟩ := ob e
      refine hg_cI (as := [vR 15, vI (wadd l1 1), vI l2]) (st' := []) rfl (fun _ _ _ _ => rfl) rfl rfl (Nat.le_of_ble_eq_true rfl) (Nat.le_of_ble_eq_true rfl) (recvV A10 (a := 2) (Abs_ks A10 (i := 7) rfl).1) (hcall 67 _ _ _ _ A10 (rglc (rg_add _ _) (rglc rl2 rgl0)) e11) (fun w11 r11 A11 => ?_)
      rcases oi e with ⟨q12, e⟩ | ⟨q12, e⟩
      · refine hg_ifF (tgt := 85) rfl (by decide) r11 (show ¬ ¬ (v11.1 = 0) from fun f => f q12) ?_
        refine hg_run 1 (pc' := 84) (ls' := [some (vr 15), some (vi l1), some (vi l2), some (vi l3), some (vi l4), some (vi v9)]) (st' := [vI 0]) rfl ?_
        cases e
        exact hg_retI rfl (by decide) (fit_B (.inl rfl)) (kr _ _ rfl _ (rgn 0 rfl) A11)
      · refine hg_ifT (tgt := 85) rfl (by decide) r11 (show ¬ (v11.1 = 0) from q12) ?_
        refine hg_run 2 (pc' := 88) (ls' := [some (vr 15), some (vi l1), some (vi l2), some (vi l3), some (vi l4), some (vi v9)]) (st' := [vI v9, vR 15]) rfl ?_
        obtain ⟨h13, e13, e⟩ := ob e
        refine hg_cV (as := [vR 15, vI v9]) (st' := []) rfl (fun _ _ _ _ => rfl) rfl rfl (Nat.le_of_ble_eq_true rfl) (Nat.le_of_ble_eq_true rfl) (recvV A11 (a := 2) (Abs_ks A11 (i := 7) rfl).1) (t65 (by omega) A11 r9 e13) (fun w13 A13 => ?_)
        refine hg_run 2 (pc' := 39) (ls' := [some (vr 15), some (vi l1), some (vi l2), some (vi l3), some (vi (wadd l4 1)), some (vi v9)]) (st' := []) rfl ?_
        cases e
        exact kb (wadd l4 1) h13 rfl _ _ (rg_add _ _) A13
theorem t67_l39 {d : Nat} {call : Nat → List Int → hS → Option (Int × hS)} (hcall : ∀ (k : Nat) (as : List Int) (h : hS) (w : mmW) (o : Int × hS), Abs h w → (∀ a ∈ as, rg a) → call k as h = some o → hEv d k (vR 15 :: as.map vI) w (qI o)) (hd : 2 ≤ d) {l1 : Int} {l2 : Int} {l3 : Int}  {Q : mmO → Prop} (rl1 : rg l1) (rl2 : rg l2) (rl3 : rg l3) (n : Nat) {l4 : Int} {z5 : Option hO} {h : hS} {w : mmW} {r : (hS) ⊕ (Int × hS)} (rl4 : rg l4) (A : Abs h w) (e : lp (fun s => c67_b39 call l1 l2 l3 s.1 s.2) n (l4, h) = some r) (ke : ∀ (x_0 : hS), r = .inl (x_0) → ∀ w', ∀ (y4 y5 : Option hO), Abs x_0 w' → hG d 67 97 [some (vr 15), some (vi l1), some (vi l2), some (vi l3), y4, y5] [] w' Q) (kr : ∀ (v1 : Int) (h1 : hS), r = .inr (v1, h1) → ∀ w', rg v1 → Abs h1 w' → Q (some (.int (Int32.ofInt v1)), w')) : hG d 67 39 [some (vr 15), some (vi l1), some (vi l2), some (vi l3), some (vi l4), z5] [] w Q := by
  induction n generalizing l4 z5 h w with
  | zero => cases e
  | succ n ih =>
    rcases lp_succ e with ⟨s1, e1, e2⟩ | e1
    · exact t67_b39 hcall hd rl1 rl2 rl3 rl4 A e1 (fun s_0 s_1 q w1 y5 rl4 A1 => by cases q; exact ih rl4 A1 e2) (fun x_0 q => by cases q) (fun v0 h0 q => by cases q)
    · exact t67_b39 hcall hd rl1 rl2 rl3 rl4 A e1 (fun s_0 s_1 q => by cases q) (fun x_0 q => by cases q; exact ke _ rfl) (fun v0 h0 q => by cases q; exact kr _ _ rfl)
def c67_j35 (call : Nat → List Int → hS → Option (Int × hS)) (s0 : Int) (l1 : Int) (l2 : Int) (h : hS) : Option (Int × hS) :=
  (lp (fun s => c67_b39 call l1 l2 s0 s.1 s.2) hF0 (0, h)).bind (fun r14 => xs r14 (fun x14 =>
  some (1, x14)) (fun o14 => some o14))
theorem t67_j35 {d : Nat} {call : Nat → List Int → hS → Option (Int × hS)} (hcall : ∀ (k : Nat) (as : List Int) (h : hS) (w : mmW) (o : Int × hS), Abs h w → (∀ a ∈ as, rg a) → call k as h = some o → hEv d k (vR 15 :: as.map vI) w (qI o)) (hd : 2 ≤ d) {s0 : Int} {l1 : Int} {l2 : Int} {z3 : Option hO} {z4 : Option hO} {z5 : Option hO} {h : hS} {w : mmW} {o : Int × hS} {Q : mmO → Prop} (rs0 : rg s0) (rl1 : rg l1) (rl2 : rg l2) (A : Abs h w) (e : c67_j35 call s0 l1 l2 h = some o) (kr : ∀ (v1 : Int) (h1 : hS), o = (v1, h1) → ∀ w', rg v1 → Abs h1 w' → Q (some (.int (Int32.ofInt v1)), w')) : hG d 67 35 [some (vr 15), some (vi l1), some (vi l2), z3, z4, z5] [vI s0] w Q := by
  unfold c67_j35 at e
  refine hg_run 3 (pc' := 39) (ls' := [some (vr 15), some (vi l1), some (vi l2), some (vi s0), some (vi 0), z5]) (st' := []) rfl ?_
  obtain ⟨r14, e14, e⟩ := ob e
  refine t67_l39 hcall hd rl1 rl2 rs0 _ (rgn 0 rfl) A e14 ?_ ?_
  · intro x14_0 qq14 w14 z14_4 z14_5 A14
    subst qq14
    have e := xs_l e
    refine hg_run 1 (pc' := 98) (ls' := [some (vr 15), some (vi l1), some (vi l2), some (vi s0), z14_4, z14_5]) (st' := [vI 1]) rfl ?_
    cases e
    exact hg_retI rfl (by decide) (fit_B (.inr rfl)) (kr _ _ rfl _ (rgn 1 rfl) A14)
  · intro v14 h14 qq14 w14 r14 A14
    subst qq14
    have e := xs_r e
    cases e
    exact kr _ _ rfl w14 r14 A14
def c67 (call : Nat → List Int → hS → Option (Int × hS)) (l1 : Int) (l2 : Int) (h : hS) : Option (Int × hS) :=
  if l1 < 3 then
  (call 67 [(wadd l1 1), l2] h).bind (fun v2 =>
  if v2.1 = 0 then
  some (0, v2.2)
  else
  if l1 = 0 then
  c67_j35 call 1 l1 l2 v2.2
  else
  c67_j35 call 1000 l1 l2 v2.2)
  else
  (call 68 [l2] h).bind (fun v15 =>
  (kB v15.1).bind (fun u16 =>
  some (v15.1, v15.2)))
theorem t67 {d : Nat} {call : Nat → List Int → hS → Option (Int × hS)} (hcall : ∀ (k : Nat) (as : List Int) (h : hS) (w : mmW) (o : Int × hS), Abs h w → (∀ a ∈ as, rg a) → call k as h = some o → hEv d k (vR 15 :: as.map vI) w (qI o)) (hd : 2 ≤ d) {l1 : Int} {l2 : Int} {h : hS} {w : mmW} {o : Int × hS} (A : Abs h w) (rl1 : rg l1) (rl2 : rg l2) (e : c67 call l1 l2 h = some o) : hEv (d + 1) 67 [vR 15, vI l1, vI l2] w (qI o) := by
  refine hEv_start (args := [vr 15, vi l1, vi l2]) (nl := 6) rfl (Nat.le_of_ble_eq_true rfl) ?_
  show hG d 67 0 [some (vr 15), some (vi l1), some (vi l2), none, none, none] [] w _
  have kr : ∀ (v1 : Int) (h1 : hS), o = (v1, h1) → ∀ w', rg v1 → Abs h1 w' → qI o (some (.int (Int32.ofInt v1)), w') := fun v1 h1 q w' r A' => by cases q; exact ⟨rfl, r, A'⟩
  unfold c67 at e
  refine hg_run 2 (pc' := 2) (ls' := [some (vr 15), some (vi l1), some (vi l2), none, none, none]) (st' := [vI 3, vI l1]) rfl ?_
  rcases oi e with ⟨q1, e⟩ | ⟨q1, e⟩
  · refine hg_icT (tgt := 11) rfl (by decide) rl1 (rgn 3 rfl) q1 ?_
    refine hg_run 5 (pc' := 16) (ls' := [some (vr 15), some (vi l1), some (vi l2), none, none, none]) (st' := [vI l2, vI (wadd l1 1), vR 15]) rfl ?_
    obtain ⟨v2, e2, e⟩ := ob e
    refine hg_cI (as := [vR 15, vI (wadd l1 1), vI l2]) (st' := []) rfl (fun _ _ _ _ => rfl) rfl rfl (Nat.le_of_ble_eq_true rfl) (Nat.le_of_ble_eq_true rfl) (recvV A (a := 2) (Abs_ks A (i := 7) rfl).1) (hcall 67 _ _ _ _ A (rglc (rg_add _ _) (rglc rl2 rgl0)) e2) (fun w2 r2 A2 => ?_)
    rcases oi e with ⟨q3, e⟩ | ⟨q3, e⟩
    · refine hg_ifF (tgt := 24) rfl (by decide) r2 (show ¬ ¬ (v2.1 = 0) from fun f => f q3) ?_
      refine hg_run 1 (pc' := 23) (ls' := [some (vr 15), some (vi l1), some (vi l2), none, none, none]) (st' := [vI 0]) rfl ?_
      cases e
      exact hg_retI rfl (by decide) (fit_B (.inl rfl)) (kr _ _ rfl _ (rgn 0 rfl) A2)
    · refine hg_ifT (tgt := 24) rfl (by decide) r2 (show ¬ (v2.1 = 0) from q3) ?_
      refine hg_run 1 (pc' := 25) (ls' := [some (vr 15), some (vi l1), some (vi l2), none, none, none]) (st' := [vI l1]) rfl ?_
      rcases oi e with ⟨q4, e⟩ | ⟨q4, e⟩
      · refine hg_ifF (tgt := 32) rfl (by decide) rl1 (show ¬ ¬ (l1 = 0) from fun f => f q4) ?_
        refine hg_run 2 (pc' := 35) (ls' := [some (vr 15), some (vi l1), some (vi l2), none, none, none]) (st' := [vI 1]) rfl ?_
        exact t67_j35 hcall hd (rgn 1 rfl) rl1 rl2 A2 e kr
      · refine hg_ifT (tgt := 32) rfl (by decide) rl1 (show ¬ (l1 = 0) from q4) ?_
        refine hg_run 1 (pc' := 35) (ls' := [some (vr 15), some (vi l1), some (vi l2), none, none, none]) (st' := [vI 1000]) rfl ?_
        exact t67_j35 hcall hd (rgn 1000 rfl) rl1 rl2 A2 e kr
  · refine hg_icF (tgt := 11) rfl (by decide) rl1 (rgn 3 rfl) q1 ?_
    refine hg_run 2 (pc' := 7) (ls' := [some (vr 15), some (vi l1), some (vi l2), none, none, none]) (st' := [vI l2, vR 15]) rfl ?_
    obtain ⟨v15, e15, e⟩ := ob e
    refine hg_cI (as := [vR 15, vI l2]) (st' := []) rfl (fun _ _ _ _ => rfl) rfl rfl (Nat.le_of_ble_eq_true rfl) (Nat.le_of_ble_eq_true rfl) (recvV A (a := 2) (Abs_ks A (i := 7) rfl).1) (hcall 68 _ _ _ _ A (rglc rl2 rgl0) e15) (fun w15 r15 A15 => ?_)
    obtain ⟨u16, e16, e⟩ := ob e
    cases e
    exact hg_retI rfl (by decide) (fit_B (kB_e e16)) (kr _ _ rfl _ r15 A15)
def c68_j140 (call : Nat → List Int → hS → Option (Int × hS)) (l1 : Int) (l2 : Int) (h : hS) : Option (Int × hS) :=
  (call 69 [l2, l1] h).bind (fun v13 =>
  (kB v13.1).bind (fun u14 =>
  some (v13.1, v13.2)))
theorem t68_j140 {d : Nat} {call : Nat → List Int → hS → Option (Int × hS)} (hcall : ∀ (k : Nat) (as : List Int) (h : hS) (w : mmW) (o : Int × hS), Abs h w → (∀ a ∈ as, rg a) → call k as h = some o → hEv d k (vR 15 :: as.map vI) w (qI o)) (hd : 2 ≤ d) {l1 : Int} {l2 : Int} {z3 : Option hO} {h : hS} {w : mmW} {o : Int × hS} {Q : mmO → Prop} (rl1 : rg l1) (rl2 : rg l2) (A : Abs h w) (e : c68_j140 call l1 l2 h = some o) (kr : ∀ (v1 : Int) (h1 : hS), o = (v1, h1) → ∀ w', rg v1 → Abs h1 w' → Q (some (.int (Int32.ofInt v1)), w')) : hG d 68 140 [some (vr 15), some (vi l1), some (vi l2), z3] [] w Q := by
  unfold c68_j140 at e
  refine hg_run 3 (pc' := 143) (ls' := [some (vr 15), some (vi l1), some (vi l2), z3]) (st' := [vI l1, vI l2, vR 15]) rfl ?_
  obtain ⟨v13, e13, e⟩ := ob e
  refine hg_cI (as := [vR 15, vI l2, vI l1]) (st' := []) rfl (fun _ _ _ _ => rfl) rfl rfl (Nat.le_of_ble_eq_true rfl) (Nat.le_of_ble_eq_true rfl) (recvV A (a := 2) (Abs_ks A (i := 7) rfl).1) (hcall 69 _ _ _ _ A (rglc rl2 (rglc rl1 rgl0)) e13) (fun w13 r13 A13 => ?_)
  obtain ⟨u14, e14, e⟩ := ob e
  cases e
  exact hg_retI rfl (by decide) (fit_B (kB_e e14)) (kr _ _ rfl _ r13 A13)
def c68_j123 (l2 : Int) (h : hS) : Option (Int × hS) :=
  (c65 l2 h).bind (fun h17 =>
  (some (sI h17 15 3 (wadd (hI h17 15 3) 1))).bind (fun h18 =>
  some (1, h18)))
theorem t68_j123 {d : Nat} {call : Nat → List Int → hS → Option (Int × hS)} (hcall : ∀ (k : Nat) (as : List Int) (h : hS) (w : mmW) (o : Int × hS), Abs h w → (∀ a ∈ as, rg a) → call k as h = some o → hEv d k (vR 15 :: as.map vI) w (qI o)) (hd : 2 ≤ d) {l2 : Int} {z1 : Option hO} {z3 : Option hO} {h : hS} {w : mmW} {o : Int × hS} {Q : mmO → Prop} (rl2 : rg l2) (A : Abs h w) (e : c68_j123 l2 h = some o) (kr : ∀ (v1 : Int) (h1 : hS), o = (v1, h1) → ∀ w', rg v1 → Abs h1 w' → Q (some (.int (Int32.ofInt v1)), w')) : hG d 68 123 [some (vr 15), z1, some (vi l2), z3] [] w Q := by
  unfold c68_j123 at e
  refine hg_run 2 (pc' := 125) (ls' := [some (vr 15), z1, some (vi l2), z3]) (st' := [vI l2, vR 15]) rfl ?_
  obtain ⟨h17, e17, e⟩ := ob e
  refine hg_cV (as := [vR 15, vI l2]) (st' := []) rfl (fun _ _ _ _ => rfl) rfl rfl (Nat.le_of_ble_eq_true rfl) (Nat.le_of_ble_eq_true rfl) (recvV A (a := 2) (Abs_ks A (i := 7) rfl).1) (t65 (by omega) A rl2 e17) (fun w17 A17 => ?_)
  refine hg_run 2 (pc' := 130) (ls' := [some (vr 15), z1, some (vi l2), z3]) (st' := [vR 15, vR 15]) rfl ?_
  refine gs_15_3 rfl A17 ?_
  refine hg_run 2 (pc' := 135) (ls' := [some (vr 15), z1, some (vi l2), z3]) (st' := [vI (wadd (hI h17 15 3) 1), vR 15]) rfl ?_
  obtain ⟨h18, e18, e⟩ := ob e
  refine ps_15_3 rfl A17 (rg_add _ _) e18 (fun w18 A18 => ?_)
  refine hg_run 1 (pc' := 139) (ls' := [some (vr 15), z1, some (vi l2), z3]) (st' := [vI 1]) rfl ?_
  cases e
  exact hg_retI rfl (by decide) (fit_B (.inr rfl)) (kr _ _ rfl _ (rgn 1 rfl) A18)
def c68 (call : Nat → List Int → hS → Option (Int × hS)) (l1 : Int) (h : hS) : Option (Int × hS) :=
  (c39  h).bind (fun v1 =>
  if (1 : Int) = v1 then
  (c45  h).bind (fun v3 =>
  (c65 1 v3.2).bind (fun h4 =>
  (c65 v3.1 h4).bind (fun h5 =>
  if v3.1 = (-1) then
  some (0, h5)
  else
  some (1, h5))))
  else
  if (2 : Int) = v1 then
  (c65 2 h).bind (fun h8 =>
  (aIs h8 13 1001 (hI h8 15 3)).bind (fun v9 =>
  (c65 v9 h8).bind (fun h10 =>
  (some (sI h10 15 3 (wadd (hI h10 15 3) 1))).bind (fun h11 =>
  some (1, h11)))))
  else
  if (40 : Int) = v1 then
  c68_j140 call l1 v1 h
  else
  if (45 : Int) = v1 then
  c68_j140 call l1 v1 h
  else
  if (214 : Int) = v1 then
  c68_j123 v1 h
  else
  if (215 : Int) = v1 then
  c68_j123 v1 h
  else
  (c46 1 (hI h 15 3) h).bind (fun v20 =>
  (kB v20.1).bind (fun u21 =>
  some (v20.1, v20.2))))
theorem t68 {d : Nat} {call : Nat → List Int → hS → Option (Int × hS)} (hcall : ∀ (k : Nat) (as : List Int) (h : hS) (w : mmW) (o : Int × hS), Abs h w → (∀ a ∈ as, rg a) → call k as h = some o → hEv d k (vR 15 :: as.map vI) w (qI o)) (hd : 2 ≤ d) {l1 : Int} {h : hS} {w : mmW} {o : Int × hS} (A : Abs h w) (rl1 : rg l1) (e : c68 call l1 h = some o) : hEv (d + 1) 68 [vR 15, vI l1] w (qI o) := by
  refine hEv_start (args := [vr 15, vi l1]) (nl := 4) rfl (Nat.le_of_ble_eq_true rfl) ?_
  show hG d 68 0 [some (vr 15), some (vi l1), none, none] [] w _
  have kr : ∀ (v1 : Int) (h1 : hS), o = (v1, h1) → ∀ w', rg v1 → Abs h1 w' → qI o (some (.int (Int32.ofInt v1)), w') := fun v1 h1 q w' r A' => by cases q; exact ⟨rfl, r, A'⟩
  unfold c68 at e
  refine hg_run 1 (pc' := 1) (ls' := [some (vr 15), some (vi l1), none, none]) (st' := [vR 15]) rfl ?_
  obtain ⟨v1, e1, e⟩ := ob e
  refine hg_cIp (as := [vR 15]) (st' := []) rfl (fun _ _ _ _ => rfl) rfl rfl (Nat.le_of_ble_eq_true rfl) (Nat.le_of_ble_eq_true rfl) (recvV A (a := 2) (Abs_ks A (i := 7) rfl).1) (t39 (by omega) A  e1) (fun r1 => ?_)
  refine hg_run 2 (pc' := 6) (ls' := [some (vr 15), some (vi l1), some (vi v1), none]) (st' := [vI v1]) rfl ?_
  rcases oi e with ⟨q2, e⟩ | ⟨q2, e⟩
  · refine hg_lsw (off := 91) (tgt := 97) rfl rfl r1 (show (if (1 : Int) = v1 then (91 : Int) else if (2 : Int) = v1 then (58 : Int) else if (40 : Int) = v1 then (134 : Int) else if (45 : Int) = v1 then (134 : Int) else if (214 : Int) = v1 then (117 : Int) else if (215 : Int) = v1 then (117 : Int) else (141 : Int)) = 91 by rw [if_pos q2]) (by decide) ?_
    refine hg_run 1 (pc' := 98) (ls' := [some (vr 15), some (vi l1), some (vi v1), none]) (st' := [vR 15]) rfl ?_
    obtain ⟨v3, e3, e⟩ := ob e
    refine hg_cI (as := [vR 15]) (st' := []) rfl (fun _ _ _ _ => rfl) rfl rfl (Nat.le_of_ble_eq_true rfl) (Nat.le_of_ble_eq_true rfl) (recvV A (a := 2) (Abs_ks A (i := 7) rfl).1) (t45 (by omega) A  e3) (fun w3 r3 A3 => ?_)
    refine hg_run 3 (pc' := 104) (ls' := [some (vr 15), some (vi l1), some (vi v1), some (vi v3.1)]) (st' := [vI 1, vR 15]) rfl ?_
    obtain ⟨h4, e4, e⟩ := ob e
    refine hg_cV (as := [vR 15, vI 1]) (st' := []) rfl (fun _ _ _ _ => rfl) rfl rfl (Nat.le_of_ble_eq_true rfl) (Nat.le_of_ble_eq_true rfl) (recvV A3 (a := 2) (Abs_ks A3 (i := 7) rfl).1) (t65 (by omega) A3 (rgn 1 rfl) e4) (fun w4 A4 => ?_)
    refine hg_run 2 (pc' := 109) (ls' := [some (vr 15), some (vi l1), some (vi v1), some (vi v3.1)]) (st' := [vI v3.1, vR 15]) rfl ?_
    obtain ⟨h5, e5, e⟩ := ob e
    refine hg_cV (as := [vR 15, vI v3.1]) (st' := []) rfl (fun _ _ _ _ => rfl) rfl rfl (Nat.le_of_ble_eq_true rfl) (Nat.le_of_ble_eq_true rfl) (recvV A4 (a := 2) (Abs_ks A4 (i := 7) rfl).1) (t65 (by omega) A4 r3 e5) (fun w5 A5 => ?_)
    refine hg_run 2 (pc' := 114) (ls' := [some (vr 15), some (vi l1), some (vi v1), some (vi v3.1)]) (st' := [vI (-1), vI v3.1]) rfl ?_
    rcases oi e with ⟨q6, e⟩ | ⟨q6, e⟩
    · refine hg_icT (tgt := 121) rfl (by decide) r3 (rgn (-1) rfl) q6 ?_
      refine hg_run 1 (pc' := 122) (ls' := [some (vr 15), some (vi l1), some (vi v1), some (vi v3.1)]) (st' := [vI 0]) rfl ?_
      cases e
      exact hg_retI rfl (by decide) (fit_B (.inl rfl)) (kr _ _ rfl _ (rgn 0 rfl) A5)
    · refine hg_icF (tgt := 121) rfl (by decide) r3 (rgn (-1) rfl) q6 ?_
      refine hg_run 2 (pc' := 122) (ls' := [some (vr 15), some (vi l1), some (vi v1), some (vi v3.1)]) (st' := [vI 1]) rfl ?_
      cases e
      exact hg_retI rfl (by decide) (fit_B (.inr rfl)) (kr _ _ rfl _ (rgn 1 rfl) A5)
  · rcases oi e with ⟨q7, e⟩ | ⟨q7, e⟩
    · refine hg_lsw (off := 58) (tgt := 64) rfl rfl r1 (show (if (1 : Int) = v1 then (91 : Int) else if (2 : Int) = v1 then (58 : Int) else if (40 : Int) = v1 then (134 : Int) else if (45 : Int) = v1 then (134 : Int) else if (214 : Int) = v1 then (117 : Int) else if (215 : Int) = v1 then (117 : Int) else (141 : Int)) = 58 by rw [if_neg q2, if_pos q7]) (by decide) ?_
      refine hg_run 2 (pc' := 66) (ls' := [some (vr 15), some (vi l1), some (vi v1), none]) (st' := [vI 2, vR 15]) rfl ?_
      obtain ⟨h8, e8, e⟩ := ob e
      refine hg_cV (as := [vR 15, vI 2]) (st' := []) rfl (fun _ _ _ _ => rfl) rfl rfl (Nat.le_of_ble_eq_true rfl) (Nat.le_of_ble_eq_true rfl) (recvV A (a := 2) (Abs_ks A (i := 7) rfl).1) (t65 (by omega) A (rgn 2 rfl) e8) (fun w8 A8 => ?_)
      refine hg_run 2 (pc' := 71) (ls' := [some (vr 15), some (vi l1), some (vi v1), none]) (st' := [vR 15, vR 15]) rfl ?_
      refine gs_15_0 rfl A8 ?_
      refine gs_9_4 rfl A8 ?_
      refine hg_run 1 (pc' := 78) (ls' := [some (vr 15), some (vi l1), some (vi v1), none]) (st' := [vR 15, vR 13, vR 15]) rfl ?_
      refine gs_15_3 rfl A8 ?_
      obtain ⟨v9, e9, e⟩ := ob e
      refine hg_aIs 0 rfl (fun _ _ _ _ => rfl) A8 (Abs_ks A8 (i := 5) rfl) rfl (by decide) e9 (fun r9 => ?_)
      obtain ⟨h10, e10, e⟩ := ob e
      refine hg_cV (as := [vR 15, vI v9]) (st' := []) rfl (fun _ _ _ _ => rfl) rfl rfl (Nat.le_of_ble_eq_true rfl) (Nat.le_of_ble_eq_true rfl) (recvV A8 (a := 2) (Abs_ks A8 (i := 7) rfl).1) (t65 (by omega) A8 r9 e10) (fun w10 A10 => ?_)
      refine hg_run 2 (pc' := 87) (ls' := [some (vr 15), some (vi l1), some (vi v1), none]) (st' := [vR 15, vR 15]) rfl ?_
      refine gs_15_3 rfl A10 ?_
      refine hg_run 2 (pc' := 92) (ls' := [some (vr 15), some (vi l1), some (vi v1), none]) (st' := [vI (wadd (hI h10 15 3) 1), vR 15]) rfl ?_
      obtain ⟨h11, e11, e⟩ := ob e
      refine ps_15_3 rfl A10 (rg_add _ _) e11 (fun w11 A11 => ?_)
      refine hg_run 1 (pc' := 96) (ls' := [some (vr 15), some (vi l1), some (vi v1), none]) (st' := [vI 1]) rfl ?_
      cases e
      exact hg_retI rfl (by decide) (fit_B (.inr rfl)) (kr _ _ rfl _ (rgn 1 rfl) A11)
    · rcases oi e with ⟨q12, e⟩ | ⟨q12, e⟩
      · refine hg_lsw (off := 134) (tgt := 140) rfl rfl r1 (show (if (1 : Int) = v1 then (91 : Int) else if (2 : Int) = v1 then (58 : Int) else if (40 : Int) = v1 then (134 : Int) else if (45 : Int) = v1 then (134 : Int) else if (214 : Int) = v1 then (117 : Int) else if (215 : Int) = v1 then (117 : Int) else (141 : Int)) = 134 by rw [if_neg q2, if_neg q7, if_pos q12]) (by decide) ?_
        exact t68_j140 hcall hd rl1 r1 A e kr
      · rcases oi e with ⟨q15, e⟩ | ⟨q15, e⟩
        · refine hg_lsw (off := 134) (tgt := 140) rfl rfl r1 (show (if (1 : Int) = v1 then (91 : Int) else if (2 : Int) = v1 then (58 : Int) else if (40 : Int) = v1 then (134 : Int) else if (45 : Int) = v1 then (134 : Int) else if (214 : Int) = v1 then (117 : Int) else if (215 : Int) = v1 then (117 : Int) else (141 : Int)) = 134 by rw [if_neg q2, if_neg q7, if_neg q12, if_pos q15]) (by decide) ?_
          exact t68_j140 hcall hd rl1 r1 A e kr
        · rcases oi e with ⟨q16, e⟩ | ⟨q16, e⟩
          · refine hg_lsw (off := 117) (tgt := 123) rfl rfl r1 (show (if (1 : Int) = v1 then (91 : Int) else if (2 : Int) = v1 then (58 : Int) else if (40 : Int) = v1 then (134 : Int) else if (45 : Int) = v1 then (134 : Int) else if (214 : Int) = v1 then (117 : Int) else if (215 : Int) = v1 then (117 : Int) else (141 : Int)) = 117 by rw [if_neg q2, if_neg q7, if_neg q12, if_neg q15, if_pos q16]) (by decide) ?_
            exact t68_j123 hcall hd r1 A e kr
          · rcases oi e with ⟨q19, e⟩ | ⟨q19, e⟩
            · refine hg_lsw (off := 117) (tgt := 123) rfl rfl r1 (show (if (1 : Int) = v1 then (91 : Int) else if (2 : Int) = v1 then (58 : Int) else if (40 : Int) = v1 then (134 : Int) else if (45 : Int) = v1 then (134 : Int) else if (214 : Int) = v1 then (117 : Int) else if (215 : Int) = v1 then (117 : Int) else (141 : Int)) = 117 by rw [if_neg q2, if_neg q7, if_neg q12, if_neg q15, if_neg q16, if_pos q19]) (by decide) ?_
              exact t68_j123 hcall hd r1 A e kr
            · refine hg_lsw (off := 141) (tgt := 147) rfl rfl r1 (show (if (1 : Int) = v1 then (91 : Int) else if (2 : Int) = v1 then (58 : Int) else if (40 : Int) = v1 then (134 : Int) else if (45 : Int) = v1 then (134 : Int) else if (214 : Int) = v1 then (117 : Int) else if (215 : Int) = v1 then (117 : Int) else (141 : Int)) = 141 by rw [if_neg q2, if_neg q7, if_neg q12, if_neg q15, if_neg q16, if_neg q19]) (by decide) ?_
              refine hg_run 3 (pc' := 150) (ls' := [some (vr 15), some (vi l1), some (vi v1), none]) (st' := [vR 15, vI 1, vR 15]) rfl ?_
              refine gs_15_3 rfl A ?_
              obtain ⟨v20, e20, e⟩ := ob e
              refine hg_cI (as := [vR 15, vI 1, vI (hI h 15 3)]) (st' := []) rfl (fun _ _ _ _ => rfl) rfl rfl (Nat.le_of_ble_eq_true rfl) (Nat.le_of_ble_eq_true rfl) (recvV A (a := 2) (Abs_ks A (i := 7) rfl).1) (t46 (by omega) A (rgn 1 rfl) (Abs_rg A 15 3) e20) (fun w20 r20 A20 => ?_)
              obtain ⟨u21, e21, e⟩ := ob e
              cases e
              exact hg_retI rfl (by decide) (fit_B (kB_e e21)) (kr _ _ rfl _ r20 A20)
def c69 (call : Nat → List Int → hS → Option (Int × hS)) (l1 : Int) (l2 : Int) (h : hS) : Option (Int × hS) :=
  if l2 < 12 then
  (some (sI h 15 3 (wadd (hI h 15 3) 1))).bind (fun h2 =>
  if l1 = 40 then
  (call 67 [0, (wadd l2 1)] h2).bind (fun v7 =>
  if v7.1 = 0 then
  some (0, v7.2)
  else
  (c58 41 v7.2).bind (fun v9 =>
  if v9.1 = 0 then
  some (0, v9.2)
  else
  some (1, v9.2)))
  else
  (call 67 [3, (wadd l2 1)] h2).bind (fun v4 =>
  if v4.1 = 0 then
  some (0, v4.2)
  else
  (c65 252 v4.2).bind (fun h6 =>
  some (1, h6))))
  else
  (c46 3 (hI h 15 3) h).bind (fun v11 =>
  (kB v11.1).bind (fun u12 =>
  some (v11.1, v11.2)))
theorem t69 {d : Nat} {call : Nat → List Int → hS → Option (Int × hS)} (hcall : ∀ (k : Nat) (as : List Int) (h : hS) (w : mmW) (o : Int × hS), Abs h w → (∀ a ∈ as, rg a) → call k as h = some o → hEv d k (vR 15 :: as.map vI) w (qI o)) (hd : 2 ≤ d) {l1 : Int} {l2 : Int} {h : hS} {w : mmW} {o : Int × hS} (A : Abs h w) (rl1 : rg l1) (rl2 : rg l2) (e : c69 call l1 l2 h = some o) : hEv (d + 1) 69 [vR 15, vI l1, vI l2] w (qI o) := by
  refine hEv_start (args := [vr 15, vi l1, vi l2]) (nl := 3) rfl (Nat.le_of_ble_eq_true rfl) ?_
  show hG d 69 0 [some (vr 15), some (vi l1), some (vi l2)] [] w _
  have kr : ∀ (v1 : Int) (h1 : hS), o = (v1, h1) → ∀ w', rg v1 → Abs h1 w' → qI o (some (.int (Int32.ofInt v1)), w') := fun v1 h1 q w' r A' => by cases q; exact ⟨rfl, r, A'⟩
  unfold c69 at e
  refine hg_run 2 (pc' := 3) (ls' := [some (vr 15), some (vi l1), some (vi l2)]) (st' := [vI 12, vI l2]) rfl ?_
  rcases oi e with ⟨q1, e⟩ | ⟨q1, e⟩
  · refine hg_icT (tgt := 16) rfl (by decide) rl2 (rgn 12 rfl) q1 ?_
    refine hg_run 2 (pc' := 18) (ls' := [some (vr 15), some (vi l1), some (vi l2)]) (st' := [vR 15, vR 15]) rfl ?_
    refine gs_15_3 rfl A ?_
    refine hg_run 2 (pc' := 23) (ls' := [some (vr 15), some (vi l1), some (vi l2)]) (st' := [vI (wadd (hI h 15 3) 1), vR 15]) rfl ?_
    obtain ⟨h2, e2, e⟩ := ob e
    refine ps_15_3 rfl A (rg_add _ _) e2 (fun w2 A2 => ?_)
    refine hg_run 2 (pc' := 29) (ls' := [some (vr 15), some (vi l1), some (vi l2)]) (st' := [vI 40, vI l1]) rfl ?_
    rcases oi e with ⟨q3, e⟩ | ⟨q3, e⟩
    · refine hg_icF (tgt := 58) rfl (by decide) rl1 (rgn 40 rfl) (show ¬ ¬ (l1 = 40) from fun f => f q3) ?_
      refine hg_run 5 (pc' := 37) (ls' := [some (vr 15), some (vi l1), some (vi l2)]) (st' := [vI (wadd l2 1), vI 0, vR 15]) rfl ?_
      obtain ⟨v7, e7, e⟩ := ob e
      refine hg_cI (as := [vR 15, vI 0, vI (wadd l2 1)]) (st' := []) rfl (fun _ _ _ _ => rfl) rfl rfl (Nat.le_of_ble_eq_true rfl) (Nat.le_of_ble_eq_true rfl) (recvV A2 (a := 2) (Abs_ks A2 (i := 7) rfl).1) (hcall 67 _ _ _ _ A2 (rglc (rgn 0 rfl) (rglc (rg_add _ _) rgl0)) e7) (fun w7 r7 A7 => ?_)
      rcases oi e with ⟨q8, e⟩ | ⟨q8, e⟩
      · refine hg_ifT (tgt := 56) rfl (by decide) r7 q8 ?_
        refine hg_run 1 (pc' := 57) (ls' := [some (vr 15), some (vi l1), some (vi l2)]) (st' := [vI 0]) rfl ?_
        cases e
        exact hg_retI rfl (by decide) (fit_B (.inl rfl)) (kr _ _ rfl _ (rgn 0 rfl) A7)
      · refine hg_ifF (tgt := 56) rfl (by decide) r7 q8 ?_
        refine hg_run 2 (pc' := 46) (ls' := [some (vr 15), some (vi l1), some (vi l2)]) (st' := [vI 41, vR 15]) rfl ?_
        obtain ⟨v9, e9, e⟩ := ob e
        refine hg_cI (as := [vR 15, vI 41]) (st' := []) rfl (fun _ _ _ _ => rfl) rfl rfl (Nat.le_of_ble_eq_true rfl) (Nat.le_of_ble_eq_true rfl) (recvV A7 (a := 2) (Abs_ks A7 (i := 7) rfl).1) (t58 (by omega) A7 (rgn 41 rfl) e9) (fun w9 r9 A9 => ?_)
        rcases oi e with ⟨q10, e⟩ | ⟨q10, e⟩
        · refine hg_ifT (tgt := 56) rfl (by decide) r9 q10 ?_
          refine hg_run 1 (pc' := 57) (ls' := [some (vr 15), some (vi l1), some (vi l2)]) (st' := [vI 0]) rfl ?_
          cases e
          exact hg_retI rfl (by decide) (fit_B (.inl rfl)) (kr _ _ rfl _ (rgn 0 rfl) A9)
        · refine hg_ifF (tgt := 56) rfl (by decide) r9 q10 ?_
          refine hg_run 2 (pc' := 57) (ls' := [some (vr 15), some (vi l1), some (vi l2)]) (st' := [vI 1]) rfl ?_
          cases e
          exact hg_retI rfl (by decide) (fit_B (.inr rfl)) (kr _ _ rfl _ (rgn 1 rfl) A9)
    · refine hg_icT (tgt := 58) rfl (by decide) rl1 (rgn 40 rfl) (show ¬ (l1 = 40) from q3) ?_
      refine hg_run 5 (pc' := 63) (ls' := [some (vr 15), some (vi l1), some (vi l2)]) (st' := [vI (wadd l2 1), vI 3, vR 15]) rfl ?_
      obtain ⟨v4, e4, e⟩ := ob e
      refine hg_cI (as := [vR 15, vI 3, vI (wadd l2 1)]) (st' := []) rfl (fun _ _ _ _ => rfl) rfl rfl (Nat.le_of_ble_eq_true rfl) (Nat.le_of_ble_eq_true rfl) (recvV A2 (a := 2) (Abs_ks A2 (i := 7) rfl).1) (hcall 67 _ _ _ _ A2 (rglc (rgn 3 rfl) (rglc (rg_add _ _) rgl0)) e4) (fun w4 r4 A4 => ?_)
      rcases oi e with ⟨q5, e⟩ | ⟨q5, e⟩
      · refine hg_ifF (tgt := 71) rfl (by decide) r4 (show ¬ ¬ (v4.1 = 0) from fun f => f q5) ?_
        refine hg_run 1 (pc' := 70) (ls' := [some (vr 15), some (vi l1), some (vi l2)]) (st' := [vI 0]) rfl ?_
        cases e
        exact hg_retI rfl (by decide) (fit_B (.inl rfl)) (kr _ _ rfl _ (rgn 0 rfl) A4)
      · refine hg_ifT (tgt := 71) rfl (by decide) r4 (show ¬ (v4.1 = 0) from q5) ?_
        refine hg_run 2 (pc' := 75) (ls' := [some (vr 15), some (vi l1), some (vi l2)]) (st' := [vI 252, vR 15]) rfl ?_
        obtain ⟨h6, e6, e⟩ := ob e
        refine hg_cV (as := [vR 15, vI 252]) (st' := []) rfl (fun _ _ _ _ => rfl) rfl rfl (Nat.le_of_ble_eq_true rfl) (Nat.le_of_ble_eq_true rfl) (recvV A4 (a := 2) (Abs_ks A4 (i := 7) rfl).1) (t65 (by omega) A4 (rgn 252 rfl) e6) (fun w6 A6 => ?_)
        refine hg_run 1 (pc' := 79) (ls' := [some (vr 15), some (vi l1), some (vi l2)]) (st' := [vI 1]) rfl ?_
        cases e
        exact hg_retI rfl (by decide) (fit_B (.inr rfl)) (kr _ _ rfl _ (rgn 1 rfl) A6)
  · refine hg_icF (tgt := 16) rfl (by decide) rl2 (rgn 12 rfl) q1 ?_
    refine hg_run 3 (pc' := 9) (ls' := [some (vr 15), some (vi l1), some (vi l2)]) (st' := [vR 15, vI 3, vR 15]) rfl ?_
    refine gs_15_3 rfl A ?_
    obtain ⟨v11, e11, e⟩ := ob e
    refine hg_cI (as := [vR 15, vI 3, vI (hI h 15 3)]) (st' := []) rfl (fun _ _ _ _ => rfl) rfl rfl (Nat.le_of_ble_eq_true rfl) (Nat.le_of_ble_eq_true rfl) (recvV A (a := 2) (Abs_ks A (i := 7) rfl).1) (t46 (by omega) A (rgn 3 rfl) (Abs_rg A 15 3) e11) (fun w11 r11 A11 => ?_)
    obtain ⟨u12, e12, e⟩ := ob e
    cases e
    exact hg_retI rfl (by decide) (fit_B (kB_e e12)) (kr _ _ rfl _ r11 A11)
def g67 : Nat → Nat → List Int → hS → Option (Int × hS)
  | 0, _, _, _ => none
  | f + 1, 67, [a0, a1], h => c67 (g67 f) a0 a1 h
  | f + 1, 68, [a0], h => c68 (g67 f) a0 h
  | f + 1, 69, [a0, a1], h => c69 (g67 f) a0 a1 h
  | _ + 1, _, _, _ => none
theorem u67 : ∀ (f : Nat) {d : Nat} (hd : 3 + f ≤ d) (k : Nat) (as : List Int) (h : hS) (w : mmW) (o : Int × hS), Abs h w → (∀ a ∈ as, rg a) → g67 f k as h = some o → hEv d k (vR 15 :: as.map vI) w (qI o)
  | 0, d, hd, k, as, h, w, o, A, hr, e => by unfold g67 at e; cases e
  | f + 1, d, hd, k, as, h, w, o, A, hr, e => by
    obtain ⟨d, rfl⟩ : ∃ d1, d = d1 + 1 := ⟨d - 1, by omega⟩
    unfold g67 at e
    split at e
    · rename_i q; cases q
    · rename_i q; cases q; exact t67 (u67 f (by omega)) (by omega) A (hr _ List.mem_cons_self) (hr _ (List.mem_cons_of_mem _ List.mem_cons_self)) e
    · rename_i q; cases q; exact t68 (u67 f (by omega)) (by omega) A (hr _ List.mem_cons_self) e
    · rename_i q; cases q; exact t69 (u67 f (by omega)) (by omega) A (hr _ List.mem_cons_self) (hr _ (List.mem_cons_of_mem _ List.mem_cons_self)) e
    · cases e
def c71 (l1 : Int) (l2 : Int) (h : hS) : Option (hS) :=
  if l1 < 0 then
  some h
  else
  if (hI h 15 7) ≤ l1 then
  some h
  else
  (wIs h 17 4000 l1 l2).bind (fun h3 =>
  some h3)
theorem t71 {d : Nat} (hd : 1 ≤ d) {l1 : Int} {l2 : Int} {h : hS} {w : mmW} {o : hS} (A : Abs h w) (rl1 : rg l1) (rl2 : rg l2) (e : c71 l1 l2 h = some o) : hEv d 71 [vR 15, vI l1, vI l2] w (qV o) := by
  obtain ⟨d, rfl⟩ : ∃ d1, d = d1 + 1 := ⟨d - 1, by omega⟩
  have hd : 0 ≤ d := by omega
  refine hEv_start (args := [vr 15, vi l1, vi l2]) (nl := 3) rfl (Nat.le_of_ble_eq_true rfl) ?_
  show hG d 71 0 [some (vr 15), some (vi l1), some (vi l2)] [] w _
  have kr : ∀ h1 : hS, o = h1 → ∀ w', Abs h1 w' → qV o (none, w') := fun h1 q w' A' => by cases q; exact ⟨rfl, A'⟩
  unfold c71 at e
  refine hg_run 1 (pc' := 1) (ls' := [some (vr 15), some (vi l1), some (vi l2)]) (st' := [vI l1]) rfl ?_
  rcases oi e with ⟨q1, e⟩ | ⟨q1, e⟩
  · refine hg_ifT (tgt := 19) rfl (by decide) rl1 q1 ?_
    cases e
    exact hg_retV rfl (kr _ rfl _ A)
  · refine hg_ifF (tgt := 19) rfl (by decide) rl1 q1 ?_
    refine hg_run 2 (pc' := 6) (ls' := [some (vr 15), some (vi l1), some (vi l2)]) (st' := [vR 15, vI l1]) rfl ?_
    refine gs_15_7 rfl A ?_
    rcases oi e with ⟨q2, e⟩ | ⟨q2, e⟩
    · refine hg_icT (tgt := 19) rfl (by decide) rl1 (Abs_rg A 15 7) q2 ?_
      cases e
      exact hg_retV rfl (kr _ rfl _ A)
    · refine hg_icF (tgt := 19) rfl (by decide) rl1 (Abs_rg A 15 7) q2 ?_
      refine hg_run 1 (pc' := 13) (ls' := [some (vr 15), some (vi l1), some (vi l2)]) (st' := [vR 15]) rfl ?_
      refine gs_15_6 rfl A ?_
      refine hg_run 2 (pc' := 18) (ls' := [some (vr 15), some (vi l1), some (vi l2)]) (st' := [vI l2, vI l1, vR 17]) rfl ?_
      obtain ⟨h3, e3, e⟩ := ob e
      refine hg_wIs rfl A (Abs_ks A (i := 9) rfl) (by decide) rl2 e3 (fun w3 A3 => ?_)
      cases e
      exact hg_retV rfl (kr _ rfl _ A3)
def c73_j58 (h : hS) : Option (Int × hS) :=
  (c45  h).bind (fun v5 =>
  (c65 v5.1 v5.2).bind (fun h6 =>
  if v5.1 = (-1) then
  some (0, h6)
  else
  some (1, h6)))
theorem t73_j58 {d : Nat} (hd : 2 ≤ d)  {z1 : Option hO} {z2 : Option hO} {h : hS} {w : mmW} {o : Int × hS} {Q : mmO → Prop}  (A : Abs h w) (e : c73_j58 h = some o) (kr : ∀ (v1 : Int) (h1 : hS), o = (v1, h1) → ∀ w', rg v1 → Abs h1 w' → Q (some (.int (Int32.ofInt v1)), w')) : hG d 73 58 [some (vr 15), z1, z2] [] w Q := by
  unfold c73_j58 at e
  refine hg_run 1 (pc' := 59) (ls' := [some (vr 15), z1, z2]) (st' := [vR 15]) rfl ?_
  obtain ⟨v5, e5, e⟩ := ob e
  refine hg_cI (as := [vR 15]) (st' := []) rfl (fun _ _ _ _ => rfl) rfl rfl (Nat.le_of_ble_eq_true rfl) (Nat.le_of_ble_eq_true rfl) (recvV A (a := 2) (Abs_ks A (i := 7) rfl).1) (t45 (by omega) A  e5) (fun w5 r5 A5 => ?_)
  refine hg_run 3 (pc' := 65) (ls' := [some (vr 15), z1, some (vi v5.1)]) (st' := [vI v5.1, vR 15]) rfl ?_
  obtain ⟨h6, e6, e⟩ := ob e
  refine hg_cV (as := [vR 15, vI v5.1]) (st' := []) rfl (fun _ _ _ _ => rfl) rfl rfl (Nat.le_of_ble_eq_true rfl) (Nat.le_of_ble_eq_true rfl) (recvV A5 (a := 2) (Abs_ks A5 (i := 7) rfl).1) (t65 (by omega) A5 r5 e6) (fun w6 A6 => ?_)
  refine hg_run 2 (pc' := 70) (ls' := [some (vr 15), z1, some (vi v5.1)]) (st' := [vI (-1), vI v5.1]) rfl ?_
  rcases oi e with ⟨q7, e⟩ | ⟨q7, e⟩
  · refine hg_icT (tgt := 77) rfl (by decide) r5 (rgn (-1) rfl) q7 ?_
    refine hg_run 1 (pc' := 78) (ls' := [some (vr 15), z1, some (vi v5.1)]) (st' := [vI 0]) rfl ?_
    cases e
    exact hg_retI rfl (by decide) (fit_B (.inl rfl)) (kr _ _ rfl _ (rgn 0 rfl) A6)
  · refine hg_icF (tgt := 77) rfl (by decide) r5 (rgn (-1) rfl) q7 ?_
    refine hg_run 2 (pc' := 78) (ls' := [some (vr 15), z1, some (vi v5.1)]) (st' := [vI 1]) rfl ?_
    cases e
    exact hg_retI rfl (by decide) (fit_B (.inr rfl)) (kr _ _ rfl _ (rgn 1 rfl) A6)
def c73_j39 (l1 : Int) (h : hS) : Option (Int × hS) :=
  (c65 l1 h).bind (fun h3 =>
  if l1 = 209 then
  c73_j58 h3
  else
  if l1 = 210 then
  c73_j58 h3
  else
  some (1, h3))
theorem t73_j39 {d : Nat} (hd : 2 ≤ d) {l1 : Int} {z2 : Option hO} {h : hS} {w : mmW} {o : Int × hS} {Q : mmO → Prop} (rl1 : rg l1) (A : Abs h w) (e : c73_j39 l1 h = some o) (kr : ∀ (v1 : Int) (h1 : hS), o = (v1, h1) → ∀ w', rg v1 → Abs h1 w' → Q (some (.int (Int32.ofInt v1)), w')) : hG d 73 39 [some (vr 15), some (vi l1), z2] [] w Q := by
  unfold c73_j39 at e
  refine hg_run 2 (pc' := 41) (ls' := [some (vr 15), some (vi l1), z2]) (st' := [vI l1, vR 15]) rfl ?_
  obtain ⟨h3, e3, e⟩ := ob e
  refine hg_cV (as := [vR 15, vI l1]) (st' := []) rfl (fun _ _ _ _ => rfl) rfl rfl (Nat.le_of_ble_eq_true rfl) (Nat.le_of_ble_eq_true rfl) (recvV A (a := 2) (Abs_ks A (i := 7) rfl).1) (t65 (by omega) A rl1 e3) (fun w3 A3 => ?_)
  refine hg_run 2 (pc' := 48) (ls' := [some (vr 15), some (vi l1), z2]) (st' := [vI 209, vI l1]) rfl ?_
  rcases oi e with ⟨q4, e⟩ | ⟨q4, e⟩
  · refine hg_icT (tgt := 58) rfl (by decide) rl1 (rgn 209 rfl) q4 ?_
    exact t73_j58 hd  A3 e kr
  · refine hg_icF (tgt := 58) rfl (by decide) rl1 (rgn 209 rfl) q4 ?_
    refine hg_run 2 (pc' := 55) (ls' := [some (vr 15), some (vi l1), z2]) (st' := [vI 210, vI l1]) rfl ?_
    rcases oi e with ⟨q8, e⟩ | ⟨q8, e⟩
    · refine hg_icF (tgt := 79) rfl (by decide) rl1 (rgn 210 rfl) (show ¬ ¬ (l1 = 210) from fun f => f q8) ?_
      exact t73_j58 hd  A3 e kr
    · refine hg_icT (tgt := 79) rfl (by decide) rl1 (rgn 210 rfl) (show ¬ (l1 = 210) from q8) ?_
      refine hg_run 1 (pc' := 80) (ls' := [some (vr 15), some (vi l1), z2]) (st' := [vI 1]) rfl ?_
      cases e
      exact hg_retI rfl (by decide) (fit_B (.inr rfl)) (kr _ _ rfl _ (rgn 1 rfl) A3)
def c73 (l1 : Int) (h : hS) : Option (Int × hS) :=
  (some (sI h 15 3 (wadd (hI h 15 3) 1))).bind (fun h1 =>
  if l1 = 210 then
  (c45  h1).bind (fun v9 =>
  if v9.1 = (-1) then
  some (0, v9.2)
  else
  (c65 1 v9.2).bind (fun h11 =>
  (c65 v9.1 h11).bind (fun h12 =>
  c73_j39 l1 h12)))
  else
  c73_j39 l1 h1)
theorem t73 {d : Nat} (hd : 3 ≤ d) {l1 : Int} {h : hS} {w : mmW} {o : Int × hS} (A : Abs h w) (rl1 : rg l1) (e : c73 l1 h = some o) : hEv d 73 [vR 15, vI l1] w (qI o) := by
  obtain ⟨d, rfl⟩ : ∃ d1, d = d1 + 1 := ⟨d - 1, by omega⟩
  have hd : 2 ≤ d := by omega
  refine hEv_start (args := [vr 15, vi l1]) (nl := 3) rfl (Nat.le_of_ble_eq_true rfl) ?_
  show hG d 73 0 [some (vr 15), some (vi l1), none] [] w _
  have kr : ∀ (v1 : Int) (h1 : hS), o = (v1, h1) → ∀ w', rg v1 → Abs h1 w' → qI o (some (.int (Int32.ofInt v1)), w') := fun v1 h1 q w' r A' => by cases q; exact ⟨rfl, r, A'⟩
  unfold c73 at e
  refine hg_run 2 (pc' := 2) (ls' := [some (vr 15), some (vi l1), none]) (st' := [vR 15, vR 15]) rfl ?_
  refine gs_15_3 rfl A ?_
  refine hg_run 2 (pc' := 7) (ls' := [some (vr 15), some (vi l1), none]) (st' := [vI (wadd (hI h 15 3) 1), vR 15]) rfl ?_
  obtain ⟨h1, e1, e⟩ := ob e
  refine ps_15_3 rfl A (rg_add _ _) e1 (fun w1 A1 => ?_)
  refine hg_run 2 (pc' := 14) (ls' := [some (vr 15), some (vi l1), none]) (st' := [vI 210, vI l1]) rfl ?_
  rcases oi e with ⟨q2, e⟩ | ⟨q2, e⟩
  · refine hg_icF (tgt := 39) rfl (by decide) rl1 (rgn 210 rfl) (show ¬ ¬ (l1 = 210) from fun f => f q2) ?_
    refine hg_run 1 (pc' := 18) (ls' := [some (vr 15), some (vi l1), none]) (st' := [vR 15]) rfl ?_
    obtain ⟨v9, e9, e⟩ := ob e
    refine hg_cI (as := [vR 15]) (st' := []) rfl (fun _ _ _ _ => rfl) rfl rfl (Nat.le_of_ble_eq_true rfl) (Nat.le_of_ble_eq_true rfl) (recvV A1 (a := 2) (Abs_ks A1 (i := 7) rfl).1) (t45 (by omega) A1  e9) (fun w9 r9 A9 => ?_)
    refine hg_run 3 (pc' := 24) (ls' := [some (vr 15), some (vi l1), some (vi v9.1)]) (st' := [vI (-1), vI v9.1]) rfl ?_
    rcases oi e with ⟨q10, e⟩ | ⟨q10, e⟩
    · refine hg_icF (tgt := 29) rfl (by decide) r9 (rgn (-1) rfl) (show ¬ ¬ (v9.1 = (-1)) from fun f => f q10) ?_
      refine hg_run 1 (pc' := 28) (ls' := [some (vr 15), some (vi l1), some (vi v9.1)]) (st' := [vI 0]) rfl ?_
      cases e
      exact hg_retI rfl (by decide) (fit_B (.inl rfl)) (kr _ _ rfl _ (rgn 0 rfl) A9)
    · refine hg_icT (tgt := 29) rfl (by decide) r9 (rgn (-1) rfl) (show ¬ (v9.1 = (-1)) from q10) ?_
      refine hg_run 2 (pc' := 31) (ls' := [some (vr 15), some (vi l1), some (vi v9.1)]) (st' := [vI 1, vR 15]) rfl ?_
      obtain ⟨h11, e11, e⟩ := ob e
      refine hg_cV (as := [vR 15, vI 1]) (st' := []) rfl (fun _ _ _ _ => rfl) rfl rfl (Nat.le_of_ble_eq_true rfl) (Nat.le_of_ble_eq_true rfl) (recvV A9 (a := 2) (Abs_ks A9 (i := 7) rfl).1) (t65 (by omega) A9 (rgn 1 rfl) e11) (fun w11 A11 => ?_)
      refine hg_run 2 (pc' := 36) (ls' := [some (vr 15), some (vi l1), some (vi v9.1)]) (st' := [vI v9.1, vR 15]) rfl ?_
      obtain ⟨h12, e12, e⟩ := ob e
      refine hg_cV (as := [vR 15, vI v9.1]) (st' := []) rfl (fun _ _ _ _ => rfl) rfl rfl (Nat.le_of_ble_eq_true rfl) (Nat.le_of_ble_eq_true rfl) (recvV A11 (a := 2) (Abs_ks A11 (i := 7) rfl).1) (t65 (by omega) A11 r9 e12) (fun w12 A12 => ?_)
      exact t73_j39 hd rl1 A12 e kr
  · refine hg_icT (tgt := 39) rfl (by decide) rl1 (rgn 210 rfl) (show ¬ (l1 = 210) from q2) ?_
    exact t73_j39 hd rl1 A1 e kr
def c63_b13 (call : Nat → List Int → hS → Option (Int × hS)) (l1 : Int) (l2 : Int) (h : hS) : Option ((Int × hS) ⊕ ((hS) ⊕ (Int × hS))) :=
  if 60 < l2 then
  some (.inr (.inl (h)))
  else
  (c39  h).bind (fun v4 =>
  if v4 = 125 then
  some (.inr (.inl (h)))
  else
  (call 64 [l1] h).bind (fun v6 =>
  if v6.1 = 0 then
  some (.inr (.inr (0, v6.2)))
  else
  some (.inl ((wadd l2 1), v6.2))))
theorem t63_b13 {d : Nat} {call : Nat → List Int → hS → Option (Int × hS)} (hcall : ∀ (k : Nat) (as : List Int) (h : hS) (w : mmW) (o : Int × hS), Abs h w → (∀ a ∈ as, rg a) → call k as h = some o → hEv d k (vR 15 :: as.map vI) w (qI o)) (hd : 123 ≤ d) {l1 : Int} {l2 : Int}  {h : hS} {w : mmW} {o : (Int × hS) ⊕ ((hS) ⊕ (Int × hS))} {Q : mmO → Prop} (rl1 : rg l1) (rl2 : rg l2) (A : Abs h w) (e : c63_b13 call l1 l2 h = some o) (kb : ∀ (s_0 : Int) (s_1 : hS), o = .inl (s_0, s_1) → ∀ w', rg s_0 → Abs s_1 w' → hG d 63 13 [some (vr 15), some (vi l1), some (vi s_0)] [] w' Q) (ke : ∀ (x_0 : hS), o = .inr (.inl (x_0)) → ∀ w', ∀ (y2 : Option hO), Abs x_0 w' → hG d 63 44 [some (vr 15), some (vi l1), y2] [] w' Q) (kr : ∀ (v1 : Int) (h1 : hS), o = .inr (.inr (v1, h1)) → ∀ w', rg v1 → Abs h1 w' → Q (some (.int (Int32.ofInt v1)), w')) : hG d 63 13 [some (vr 15), some (vi l1), some (vi l2)] [] w Q := by
  unfold c63_b13 at e
  refine hg_run 2 (pc' := 16) (ls' := [some (vr 15), some (vi l1), some (vi l2)]) (st' := [vI 60, vI l2]) rfl ?_
  rcases oi e with ⟨q3, e⟩ | ⟨q3, e⟩
  · refine hg_icT (tgt := 44) rfl (by decide) rl2 (rgn 60 rfl) q3 ?_
    cases e
    exact ke h rfl _ _  A
  · refine hg_icF (tgt := 44) rfl (by decide) rl2 (rgn 60 rfl) q3 ?_
    refine hg_run 1 (pc' := 20) (ls' := [some (vr 15), some (vi l1), some (vi l2)]) (st' := [vR 15]) rfl ?_
    obtain ⟨v4, e4, e⟩ := ob e
    refine hg_cIp (as := [vR 15]) (st' := []) rfl (fun _ _ _ _ => rfl) rfl rfl (Nat.le_of_ble_eq_true rfl) (Nat.le_of_ble_eq_true rfl) (recvV A (a := 2) (Abs_ks A (i := 7) rfl).1) (t39 (by omega) A  e4) (fun r4 => ?_)
    refine hg_run 1 (pc' := 25) (ls' := [some (vr 15), some (vi l1), some (vi l2)]) (st' := [vI 125, vI v4]) rfl ?_
    rcases oi e with ⟨q5, e⟩ | ⟨q5, e⟩
    · refine hg_icT (tgt := 44) rfl (by decide) r4 (rgn 125 rfl) q5 ?_
      cases e
      exact ke h rfl _ _  A
    · refine hg_icF (tgt := 44) rfl (by decide) r4 (rgn 125 rfl) q5 ?_
      refine hg_run 2 (pc' := 30) (ls' := [some (vr 15), some (vi l1), some (vi l2)]) (st' := [vI l1, vR 15]) rfl ?_
      obtain ⟨v6, e6, e⟩ := ob e
      refine hg_cI (as := [vR 15, vI l1]) (st' := []) rfl (fun _ _ _ _ => rfl) rfl rfl (Nat.le_of_ble_eq_true rfl) (Nat.le_of_ble_eq_true rfl) (recvV A (a := 2) (Abs_ks A (i := 7) rfl).1) (hcall 64 _ _ _ _ A (rglc rl1 rgl0) e6) (fun w6 r6 A6 => ?_)
      rcases oi e with ⟨q7, e⟩ | ⟨q7, e⟩
      · refine hg_ifF (tgt := 38) rfl (by decide) r6 (show ¬ ¬ (v6.1 = 0) from fun f => f q7) ?_
        refine hg_run 1 (pc' := 37) (ls' := [some (vr 15), some (vi l1), some (vi l2)]) (st' := [vI 0]) rfl ?_
        cases e
        exact hg_retI rfl (by decide) (fit_B (.inl rfl)) (kr _ _ rfl _ (rgn 0 rfl) A6)
      · refine hg_ifT (tgt := 38) rfl (by decide) r6 (show ¬ (v6.1 = 0) from q7) ?_
        refine hg_run 2 (pc' := 13) (ls' := [some (vr 15), some (vi l1), some (vi (wadd l2 1))]) (st' := []) rfl ?_
        cases e
        exact kb (wadd l2 1) v6.2 rfl _ (rg_add _ _) A6
theorem t63_l13 {d : Nat} {call : Nat → List Int → hS → Option (Int × hS)} (hcall : ∀ (k : Nat) (as : List Int) (h : hS) (w : mmW) (o : Int × hS), Abs h w → (∀ a ∈ as, rg a) → call k as h = some o → hEv d k (vR 15 :: as.map vI) w (qI o)) (hd : 123 ≤ d) {l1 : Int}  {Q : mmO → Prop} (rl1 : rg l1) (n : Nat) {l2 : Int}  {h : hS} {w : mmW} {r : (hS) ⊕ (Int × hS)} (rl2 : rg l2) (A : Abs h w) (e : lp (fun s => c63_b13 call l1 s.1 s.2) n (l2, h) = some r) (ke : ∀ (x_0 : hS), r = .inl (x_0) → ∀ w', ∀ (y2 : Option hO), Abs x_0 w' → hG d 63 44 [some (vr 15), some (vi l1), y2] [] w' Q) (kr : ∀ (v1 : Int) (h1 : hS), r = .inr (v1, h1) → ∀ w', rg v1 → Abs h1 w' → Q (some (.int (Int32.ofInt v1)), w')) : hG d 63 13 [some (vr 15), some (vi l1), some (vi l2)] [] w Q := by
  induction n generalizing l2 h w with
  | zero => cases e
  | succ n ih =>
    rcases lp_succ e with ⟨s1, e1, e2⟩ | e1
    · exact t63_b13 hcall hd rl1 rl2 A e1 (fun s_0 s_1 q w1 rl2 A1 => by cases q; exact ih rl2 A1 e2) (fun x_0 q => by cases q) (fun v0 h0 q => by cases q)
    · exact t63_b13 hcall hd rl1 rl2 A e1 (fun s_0 s_1 q => by cases q) (fun x_0 q => by cases q; exact ke _ rfl) (fun v0 h0 q => by cases q; exact kr _ _ rfl)
def c63 (call : Nat → List Int → hS → Option (Int × hS)) (l1 : Int) (h : hS) : Option (Int × hS) :=
  (c58 123 h).bind (fun v1 =>
  if v1.1 = 0 then
  some (0, v1.2)
  else
  (lp (fun s => c63_b13 call l1 s.1 s.2) hF0 (0, v1.2)).bind (fun r8 => xs r8 (fun x8 =>
  (c58 125 x8).bind (fun v9 =>
  (kB v9.1).bind (fun u10 =>
  some (v9.1, v9.2)))) (fun o8 => some o8)))
theorem t63 {d : Nat} {call : Nat → List Int → hS → Option (Int × hS)} (hcall : ∀ (k : Nat) (as : List Int) (h : hS) (w : mmW) (o : Int × hS), Abs h w → (∀ a ∈ as, rg a) → call k as h = some o → hEv d k (vR 15 :: as.map vI) w (qI o)) (hd : 123 ≤ d) {l1 : Int} {h : hS} {w : mmW} {o : Int × hS} (A : Abs h w) (rl1 : rg l1) (e : c63 call l1 h = some o) : hEv (d + 1) 63 [vR 15, vI l1] w (qI o) := by
  refine hEv_start (args := [vr 15, vi l1]) (nl := 3) rfl (Nat.le_of_ble_eq_true rfl) ?_
  show hG d 63 0 [some (vr 15), some (vi l1), none] [] w _
  have kr : ∀ (v1 : Int) (h1 : hS), o = (v1, h1) → ∀ w', rg v1 → Abs h1 w' → qI o (some (.int (Int32.ofInt v1)), w') := fun v1 h1 q w' r A' => by cases q; exact ⟨rfl, r, A'⟩
  unfold c63 at e
  refine hg_run 2 (pc' := 3) (ls' := [some (vr 15), some (vi l1), none]) (st' := [vI 123, vR 15]) rfl ?_
  obtain ⟨v1, e1, e⟩ := ob e
  refine hg_cI (as := [vR 15, vI 123]) (st' := []) rfl (fun _ _ _ _ => rfl) rfl rfl (Nat.le_of_ble_eq_true rfl) (Nat.le_of_ble_eq_true rfl) (recvV A (a := 2) (Abs_ks A (i := 7) rfl).1) (t58 (by omega) A (rgn 123 rfl) e1) (fun w1 r1 A1 => ?_)
  rcases oi e with ⟨q2, e⟩ | ⟨q2, e⟩
  · refine hg_ifF (tgt := 11) rfl (by decide) r1 (show ¬ ¬ (v1.1 = 0) from fun f => f q2) ?_
    refine hg_run 1 (pc' := 10) (ls' := [some (vr 15), some (vi l1), none]) (st' := [vI 0]) rfl ?_
    cases e
    exact hg_retI rfl (by decide) (fit_B (.inl rfl)) (kr _ _ rfl _ (rgn 0 rfl) A1)
  · refine hg_ifT (tgt := 11) rfl (by decide) r1 (show ¬ (v1.1 = 0) from q2) ?_
    refine hg_run 2 (pc' := 13) (ls' := [some (vr 15), some (vi l1), some (vi 0)]) (st' := []) rfl ?_
    obtain ⟨r8, e8, e⟩ := ob e
    refine t63_l13 hcall hd rl1 _ (rgn 0 rfl) A1 e8 ?_ ?_
    · intro x8_0 qq8 w8 z8_2 A8
      subst qq8
      have e := xs_l e
      refine hg_run 2 (pc' := 47) (ls' := [some (vr 15), some (vi l1), z8_2]) (st' := [vI 125, vR 15]) rfl ?_
      obtain ⟨v9, e9, e⟩ := ob e
      refine hg_cI (as := [vR 15, vI 125]) (st' := []) rfl (fun _ _ _ _ => rfl) rfl rfl (Nat.le_of_ble_eq_true rfl) (Nat.le_of_ble_eq_true rfl) (recvV A8 (a := 2) (Abs_ks A8 (i := 7) rfl).1) (t58 (by omega) A8 (rgn 125 rfl) e9) (fun w9 r9 A9 => ?_)
      obtain ⟨u10, e10, e⟩ := ob e
      cases e
      exact hg_retI rfl (by decide) (fit_B (kB_e e10)) (kr _ _ rfl _ r9 A9)
    · intro v8 h8 qq8 w8 r8 A8
      subst qq8
      have e := xs_r e
      cases e
      exact kr _ _ rfl w8 r8 A8
def c64_j190 (l1 : Int) (l2 : Int) (h : hS) : Option (Int × hS) :=
  (some (sI h 15 3 (wadd (hI h 15 3) 1))).bind (fun h19 =>
  (g67 120 67 [0, l1] h19).bind (fun v20 =>
  if v20.1 = 0 then
  some (0, v20.2)
  else
  (c65 l2 v20.2).bind (fun h22 =>
  (c58 59 h22).bind (fun v23 =>
  (kB v23.1).bind (fun u24 =>
  some (v23.1, v23.2))))))
set_option maxRecDepth 100000 in
theorem t64_j190 {d : Nat} {call : Nat → List Int → hS → Option (Int × hS)} (hcall : ∀ (k : Nat) (as : List Int) (h : hS) (w : mmW) (o : Int × hS), Abs h w → (∀ a ∈ as, rg a) → call k as h = some o → hEv d k (vR 15 :: as.map vI) w (qI o)) (hd : 123 ≤ d) {l1 : Int} {l2 : Int} {z3 : Option hO} {h : hS} {w : mmW} {o : Int × hS} {Q : mmO → Prop} (rl1 : rg l1) (rl2 : rg l2) (A : Abs h w) (e : c64_j190 l1 l2 h = some o) (kr : ∀ (v1 : Int) (h1 : hS), o = (v1, h1) → ∀ w', rg v1 → Abs h1 w' → Q (some (.int (Int32.ofInt v1)), w')) : hG d 64 190 [some (vr 15), some (vi l1), some (vi l2), z3] [] w Q := by
  unfold c64_j190 at e
  refine hg_run 2 (pc' := 192) (ls' := [some (vr 15), some (vi l1), some (vi l2), z3]) (st' := [vR 15, vR 15]) rfl ?_
  refine gs_15_3 rfl A ?_
  refine hg_run 2 (pc' := 197) (ls' := [some (vr 15), some (vi l1), some (vi l2), z3]) (st' := [vI (wadd (hI h 15 3) 1), vR 15]) rfl ?_
  obtain ⟨h19, e19, e⟩ := ob e
  refine ps_15_3 rfl A (rg_add _ _) e19 (fun w19 A19 => ?_)
  refine hg_run 3 (pc' := 203) (ls' := [some (vr 15), some (vi l1), some (vi l2), z3]) (st' := [vI l1, vI 0, vR 15]) rfl ?_
  obtain ⟨v20, e20, e⟩ := ob e
  refine hg_cI (as := [vR 15, vI 0, vI l1]) (st' := []) rfl (fun _ _ _ _ => rfl) rfl rfl (Nat.le_of_ble_eq_true rfl) (Nat.le_of_ble_eq_true rfl) (recvV A19 (a := 2) (Abs_ks A19 (i := 7) rfl).1) (u67 120 (by omega) 67 _ _ _ _ A19 (rglc (rgn 0 rfl) (rglc rl1 rgl0)) e20) (fun w20 r20 A20 => ?_)
  rcases oi e with ⟨q21, e⟩ | ⟨q21, e⟩
  · refine hg_ifF (tgt := 211) rfl (by decide) r20 (show ¬ ¬ (v20.1 = 0) from fun f => f q21) ?_
    refine hg_run 1 (pc' := 210) (ls' := [some (vr 15), some (vi l1), some (vi l2), z3]) (st' := [vI 0]) rfl ?_
    cases e
    exact hg_retI rfl (by decide) (fit_B (.inl rfl)) (kr _ _ rfl _ (rgn 0 rfl) A20)
  · refine hg_ifT (tgt := 211) rfl (by decide) r20 (show ¬ (v20.1 = 0) from q21) ?_
    refine hg_run 2 (pc' := 213) (ls' := [some (vr 15), some (vi l1), some (vi l2), z3]) (st' := [vI l2, vR 15]) rfl ?_
    obtain ⟨h22, e22, e⟩ := ob e
    refine hg_cV (as := [vR 15, vI l2]) (st' := []) rfl (fun _ _ _ _ => rfl) rfl rfl (Nat.le_of_ble_eq_true rfl) (Nat.le_of_ble_eq_true rfl) (recvV A20 (a := 2) (Abs_ks A20 (i := 7) rfl).1) (t65 (by omega) A20 rl2 e22) (fun w22 A22 => ?_)
    refine hg_run 2 (pc' := 219) (ls' := [some (vr 15), some (vi l1), some (vi l2), z3]) (st' := [vI 59, vR 15]) rfl ?_
    obtain ⟨v23, e23, e⟩ := ob e
    refine hg_cI (as := [vR 15, vI 59]) (st' := []) rfl (fun _ _ _ _ => rfl) rfl rfl (Nat.le_of_ble_eq_true rfl) (Nat.le_of_ble_eq_true rfl) (recvV A22 (a := 2) (Abs_ks A22 (i := 7) rfl).1) (t58 (by omega) A22 (rgn 59 rfl) e23) (fun w23 r23 A23 => ?_)
    obtain ⟨u24, e24, e⟩ := ob e
    cases e
    exact hg_retI rfl (by decide) (fit_B (kB_e e24)) (kr _ _ rfl _ r23 A23)
def c64_j55 (call : Nat → List Int → hS → Option (Int × hS)) (l1 : Int) (l2 : Int) (h : hS) : Option (Int × hS) :=
  if (hI h 15 8) < 60 then
  (some (sI h 15 8 (wadd (hI h 15 8) 1))).bind (fun h5 =>
  (c65 253 h5).bind (fun h6 =>
  if (1 : Int) = l2 then
  (c45  h6).bind (fun v8 =>
  if v8.1 = (-1) then
  some (0, v8.2)
  else
  (c58 61 v8.2).bind (fun v10 =>
  if v10.1 = 0 then
  some (0, v10.2)
  else
  (g67 120 67 [0, l1] v10.2).bind (fun v12 =>
  if v12.1 = 0 then
  some (0, v12.2)
  else
  (c65 61 v12.2).bind (fun h14 =>
  (c65 v8.1 h14).bind (fun h15 =>
  (c58 59 h15).bind (fun v16 =>
  (kB v16.1).bind (fun u17 =>
  some (v16.1, v16.2))))))))
  else
  if (206 : Int) = l2 then
  c64_j190 l1 l2 h6
  else
  if (207 : Int) = l2 then
  c64_j190 l1 l2 h6
  else
  if (212 : Int) = l2 then
  (call 66 [l1] h6).bind (fun v27 =>
  (kB v27.1).bind (fun u28 =>
  some (v27.1, v27.2)))
  else
  (c73 l2 h6).bind (fun v29 =>
  if v29.1 = 0 then
  some (0, v29.2)
  else
  (c58 59 v29.2).bind (fun v31 =>
  if v31.1 = 0 then
  some (0, v31.2)
  else
  some (1, v31.2)))))
  else
  (c46 3 (hI h 15 3) h).bind (fun v33 =>
  (kB v33.1).bind (fun u34 =>
  some (v33.1, v33.2)))
set_option maxRecDepth 100000 in
theorem t64_j55 {d : Nat} {call : Nat → List Int → hS → Option (Int × hS)} (hcall : ∀ (k : Nat) (as : List Int) (h : hS) (w : mmW) (o : Int × hS), Abs h w → (∀ a ∈ as, rg a) → call k as h = some o → hEv d k (vR 15 :: as.map vI) w (qI o)) (hd : 123 ≤ d) {l1 : Int} {l2 : Int} {z3 : Option hO} {h : hS} {w : mmW} {o : Int × hS} {Q : mmO → Prop} (rl1 : rg l1) (rl2 : rg l2) (A : Abs h w) (e : c64_j55 call l1 l2 h = some o) (kr : ∀ (v1 : Int) (h1 : hS), o = (v1, h1) → ∀ w', rg v1 → Abs h1 w' → Q (some (.int (Int32.ofInt v1)), w')) : hG d 64 55 [some (vr 15), some (vi l1), some (vi l2), z3] [] w Q := by
  unfold c64_j55 at e
  refine hg_run 1 (pc' := 56) (ls' := [some (vr 15), some (vi l1), some (vi l2), z3]) (st' := [vR 15]) rfl ?_
  refine gs_15_8 rfl A ?_
  refine hg_run 1 (pc' := 61) (ls' := [some (vr 15), some (vi l1), some (vi l2), z3]) (st' := [vI 60, vI (hI h 15 8)]) rfl ?_
  rcases oi e with ⟨q4, e⟩ | ⟨q4, e⟩
  · refine hg_icT (tgt := 74) rfl (by decide) (Abs_rg A 15 8) (rgn 60 rfl) q4 ?_
    refine hg_run 2 (pc' := 76) (ls' := [some (vr 15), some (vi l1), some (vi l2), z3]) (st' := [vR 15, vR 15]) rfl ?_
    refine gs_15_8 rfl A ?_
    refine hg_run 2 (pc' := 81) (ls' := [some (vr 15), some (vi l1), some (vi l2), z3]) (st' := [vI (wadd (hI h 15 8) 1), vR 15]) rfl ?_
    obtain ⟨h5, e5, e⟩ := ob e
    refine ps_15_8 rfl A (rg_add _ _) e5 (fun w5 A5 => ?_)
    refine hg_run 2 (pc' := 88) (ls' := [some (vr 15), some (vi l1), some (vi l2), z3]) (st' := [vI 253, vR 15]) rfl ?_
    obtain ⟨h6, e6, e⟩ := ob e
    refine hg_cV (as := [vR 15, vI 253]) (st' := []) rfl (fun _ _ _ _ => rfl) rfl rfl (Nat.le_of_ble_eq_true rfl) (Nat.le_of_ble_eq_true rfl) (recvV A5 (a := 2) (Abs_ks A5 (i := 7) rfl).1) (t65 (by omega) A5 (rgn 253 rfl) e6) (fun w6 A6 => ?_)
    refine hg_run 1 (pc' := 92) (ls' := [some (vr 15), some (vi l1), some (vi l2), z3]) (st' := [vI l2]) rfl ?_
    rcases oi e with ⟨q7, e⟩ | ⟨q7, e⟩
    · refine hg_lsw (off := 50) (tgt := 142) rfl rfl rl2 (show (if (1 : Int) = l2 then (50 : Int) else if (206 : Int) = l2 then (98 : Int) else if (207 : Int) = l2 then (98 : Int) else if (212 : Int) = l2 then (44 : Int) else (131 : Int)) = 50 by rw [if_pos q7]) (by decide) ?_
      refine hg_run 1 (pc' := 143) (ls' := [some (vr 15), some (vi l1), some (vi l2), z3]) (st' := [vR 15]) rfl ?_
      obtain ⟨v8, e8, e⟩ := ob e
      refine hg_cI (as := [vR 15]) (st' := []) rfl (fun _ _ _ _ => rfl) rfl rfl (Nat.le_of_ble_eq_true rfl) (Nat.le_of_ble_eq_true rfl) (recvV A6 (a := 2) (Abs_ks A6 (i := 7) rfl).1) (t45 (by omega) A6  e8) (fun w8 r8 A8 => ?_)
      refine hg_run 3 (pc' := 149) (ls' := [some (vr 15), some (vi l1), some (vi l2), some (vi v8.1)]) (st' := [vI (-1), vI v8.1]) rfl ?_
      rcases oi e with ⟨q9, e⟩ | ⟨q9, e⟩
      · refine hg_icT (tgt := 170) rfl (by decide) r8 (rgn (-1) rfl) q9 ?_
        refine hg_run 1 (pc' := 171) (ls' := [some (vr 15), some (vi l1), some (vi l2), some (vi v8.1)]) (st' := [vI 0]) rfl ?_
        cases e
        exact hg_retI rfl (by decide) (fit_B (.inl rfl)) (kr _ _ rfl _ (rgn 0 rfl) A8)
      · refine hg_icF (tgt := 170) rfl (by decide) r8 (rgn (-1) rfl) q9 ?_
        refine hg_run 2 (pc' := 155) (ls' := [some (vr 15), some (vi l1), some (vi l2), some (vi v8.1)]) (st' := [vI 61, vR 15]) rfl ?_
        obtain ⟨v10, e10, e⟩ := ob e
        refine hg_cI (as := [vR 15, vI 61]) (st' := []) rfl (fun _ _ _ _ => rfl) rfl rfl (Nat.le_of_ble_eq_true rfl) (Nat.le_of_ble_eq_true rfl) (recvV A8 (a := 2) (Abs_ks A8 (i := 7) rfl).1) (t58 (by omega) A8 (rgn 61 rfl) e10) (fun w10 r10 A10 => ?_)
        rcases oi e with ⟨q11, e⟩ | ⟨q11, e⟩
        · refine hg_ifT (tgt := 170) rfl (by decide) r10 q11 ?_
          refine hg_run 1 (pc' := 171) (ls' := [some (vr 15), some (vi l1), some (vi l2), some (vi v8.1)]) (st' := [vI 0]) rfl ?_
          cases e
          exact hg_retI rfl (by decide) (fit_B (.inl rfl)) (kr _ _ rfl _ (rgn 0 rfl) A10)
        · refine hg_ifF (tgt := 170) rfl (by decide) r10 q11 ?_
          refine hg_run 3 (pc' := 164) (ls' := [some (vr 15), some (vi l1), some (vi l2), some (vi v8.1)]) (st' := [vI l1, vI 0, vR 15]) rfl ?_
          obtain ⟨v12, e12, e⟩ := ob e
          refine hg_cI (as := [vR 15, vI 0, vI l1]) (st' := []) rfl (fun _ _ _ _ => rfl) rfl rfl (Nat.le_of_ble_eq_true rfl) (Nat.le_of_ble_eq_true rfl) (recvV A10 (a := 2) (Abs_ks A10 (i := 7) rfl).1) (u67 120 (by omega) 67 _ _ _ _ A10 (rglc (rgn 0 rfl) (rglc rl1 rgl0)) e12) (fun w12 r12 A12 => ?_)
          rcases oi e with ⟨q13, e⟩ | ⟨q13, e⟩
          · refine hg_ifF (tgt := 172) rfl (by decide) r12 (show ¬ ¬ (v12.1 = 0) from fun f => f q13) ?_
            refine hg_run 1 (pc' := 171) (ls' := [some (vr 15), some (vi l1), some (vi l2), some (vi v8.1)]) (st' := [vI 0]) rfl ?_
            cases e
            exact hg_retI rfl (by decide) (fit_B (.inl rfl)) (kr _ _ rfl _ (rgn 0 rfl) A12)
          · refine hg_ifT (tgt := 172) rfl (by decide) r12 (show ¬ (v12.1 = 0) from q13) ?_
            refine hg_run 2 (pc' := 175) (ls' := [some (vr 15), some (vi l1), some (vi l2), some (vi v8.1)]) (st' := [vI 61, vR 15]) rfl ?_
            obtain ⟨h14, e14, e⟩ := ob e
            refine hg_cV (as := [vR 15, vI 61]) (st' := []) rfl (fun _ _ _ _ => rfl) rfl rfl (Nat.le_of_ble_eq_true rfl) (Nat.le_of_ble_eq_true rfl) (recvV A12 (a := 2) (Abs_ks A12 (i := 7) rfl).1) (t65 (by omega) A12 (rgn 61 rfl) e14) (fun w14 A14 => ?_)
            refine hg_run 2 (pc' := 180) (ls' := [some (vr 15), some (vi l1), some (vi l2), some (vi v8.1)]) (st' := [vI v8.1, vR 15]) rfl ?_
            obtain ⟨h15, e15, e⟩ := ob e
            refine hg_cV (as := [vR 15, vI v8.1]) (st' := []) rfl (fun _ _ _ _ => rfl) rfl rfl (Nat.le_of_ble_eq_true rfl) (Nat.le_of_ble_eq_true rfl) (recvV A14 (a := 2) (Abs_ks A14 (i := 7) rfl).1) (t65 (by omega) A14 r8 e15) (fun w15 A15 => ?_)
            refine hg_run 2 (pc' := 186) (ls' := [some (vr 15), some (vi l1), some (vi l2), some (vi v8.1)]) (st' := [vI 59, vR 15]) rfl ?_
            obtain ⟨v16, e16, e⟩ := ob e
            refine hg_cI (as := [vR 15, vI 59]) (st' := []) rfl (fun _ _ _ _ => rfl) rfl rfl (Nat.le_of_ble_eq_true rfl) (Nat.le_of_ble_eq_true rfl) (recvV A15 (a := 2) (Abs_ks A15 (i := 7) rfl).1) (t58 (by omega) A15 (rgn 59 rfl) e16) (fun w16 r16 A16 => ?_)
            obtain ⟨u17, e17, e⟩ := ob e
            cases e
            exact hg_retI rfl (by decide) (fit_B (kB_e e17)) (kr _ _ rfl _ r16 A16)
    · rcases oi e with ⟨q18, e⟩ | ⟨q18, e⟩
      · refine hg_lsw (off := 98) (tgt := 190) rfl rfl rl2 (show (if (1 : Int) = l2 then (50 : Int) else if (206 : Int) = l2 then (98 : Int) else if (207 : Int) = l2 then (98 : Int) else if (212 : Int) = l2 then (44 : Int) else (131 : Int)) = 98 by rw [if_neg q7, if_pos q18]) (by decide) ?_
        exact t64_j190 hcall hd rl1 rl2 A6 e kr
      · rcases oi e with ⟨q25, e⟩ | ⟨q25, e⟩
        · refine hg_lsw (off := 98) (tgt := 190) rfl rfl rl2 (show (if (1 : Int) = l2 then (50 : Int) else if (206 : Int) = l2 then (98 : Int) else if (207 : Int) = l2 then (98 : Int) else if (212 : Int) = l2 then (44 : Int) else (131 : Int)) = 98 by rw [if_neg q7, if_neg q18, if_pos q25]) (by decide) ?_
          exact t64_j190 hcall hd rl1 rl2 A6 e kr
        · rcases oi e with ⟨q26, e⟩ | ⟨q26, e⟩
          · refine hg_lsw (off := 44) (tgt := 136) rfl rfl rl2 (show (if (1 : Int) = l2 then (50 : Int) else if (206 : Int) = l2 then (98 : Int) else if (207 : Int) = l2 then (98 : Int) else if (212 : Int) = l2 then (44 : Int) else (131 : Int)) = 44 by rw [if_neg q7, if_neg q18, if_neg q25, if_pos q26]) (by decide) ?_
            refine hg_run 2 (pc' := 138) (ls' := [some (vr 15), some (vi l1), some (vi l2), z3]) (st' := [vI l1, vR 15]) rfl ?_
            obtain ⟨v27, e27, e⟩ := ob e
            refine hg_cI (as := [vR 15, vI l1]) (st' := []) rfl (fun _ _ _ _ => rfl) rfl rfl (Nat.le_of_ble_eq_true rfl) (Nat.le_of_ble_eq_true rfl) (recvV A6 (a := 2) (Abs_ks A6 (i := 7) rfl).1) (hcall 66 _ _ _ _ A6 (rglc rl1 rgl0) e27) (fun w27 r27 A27 => ?_)
            obtain ⟨u28, e28, e⟩ := ob e
            cases e
            exact hg_retI rfl (by decide) (fit_B (kB_e e28)) (kr _ _ rfl _ r27 A27)
          · refine hg_lsw (off := 131) (tgt := 223) rfl rfl rl2 (show (if (1 : Int) = l2 then (50 : Int) else if (206 : Int) = l2 then (98 : Int) else if (207 : Int) = l2 then (98 : Int) else if (212 : Int) = l2 then (44 : Int) else (131 : Int)) = 131 by rw [if_neg q7, if_neg q18, if_neg q25, if_neg q26]) (by decide) ?_
            refine hg_run 2 (pc' := 225) (ls' := [some (vr 15), some (vi l1), some (vi l2), z3]) (st' := [vI l2, vR 15]) rfl ?_
            obtain ⟨v29, e29, e⟩ := ob e
            refine hg_cI (as := [vR 15, vI l2]) (st' := []) rfl (fun _ _ _ _ => rfl) rfl rfl (Nat.le_of_ble_eq_true rfl) (Nat.le_of_ble_eq_true rfl) (recvV A6 (a := 2) (Abs_ks A6 (i := 7) rfl).1) (t73 (by omega) A6 rl2 e29) (fun w29 r29 A29 => ?_)
            rcases oi e with ⟨q30, e⟩ | ⟨q30, e⟩
            · refine hg_ifT (tgt := 244) rfl (by decide) r29 q30 ?_
              refine hg_run 1 (pc' := 245) (ls' := [some (vr 15), some (vi l1), some (vi l2), z3]) (st' := [vI 0]) rfl ?_
              cases e
              exact hg_retI rfl (by decide) (fit_B (.inl rfl)) (kr _ _ rfl _ (rgn 0 rfl) A29)
            · refine hg_ifF (tgt := 244) rfl (by decide) r29 q30 ?_
              refine hg_run 2 (pc' := 234) (ls' := [some (vr 15), some (vi l1), some (vi l2), z3]) (st' := [vI 59, vR 15]) rfl ?_
              obtain ⟨v31, e31, e⟩ := ob e
              refine hg_cI (as := [vR 15, vI 59]) (st' := []) rfl (fun _ _ _ _ => rfl) rfl rfl (Nat.le_of_ble_eq_true rfl) (Nat.le_of_ble_eq_true rfl) (recvV A29 (a := 2) (Abs_ks A29 (i := 7) rfl).1) (t58 (by omega) A29 (rgn 59 rfl) e31) (fun w31 r31 A31 => ?_)
              rcases oi e with ⟨q32, e⟩ | ⟨q32, e⟩
              · refine hg_ifT (tgt := 244) rfl (by decide) r31 q32 ?_
                refine hg_run 1 (pc' := 245) (ls' := [some (vr 15), some (vi l1), some (vi l2), z3]) (st' := [vI 0]) rfl ?_
                cases e
                exact hg_retI rfl (by decide) (fit_B (.inl rfl)) (kr _ _ rfl _ (rgn 0 rfl) A31)
              · refine hg_ifF (tgt := 244) rfl (by decide) r31 q32 ?_
                refine hg_run 2 (pc' := 245) (ls' := [some (vr 15), some (vi l1), some (vi l2), z3]) (st' := [vI 1]) rfl ?_
                cases e
                exact hg_retI rfl (by decide) (fit_B (.inr rfl)) (kr _ _ rfl _ (rgn 1 rfl) A31)
  · refine hg_icF (tgt := 74) rfl (by decide) (Abs_rg A 15 8) (rgn 60 rfl) q4 ?_
    refine hg_run 3 (pc' := 67) (ls' := [some (vr 15), some (vi l1), some (vi l2), z3]) (st' := [vR 15, vI 3, vR 15]) rfl ?_
    refine gs_15_3 rfl A ?_
    obtain ⟨v33, e33, e⟩ := ob e
    refine hg_cI (as := [vR 15, vI 3, vI (hI h 15 3)]) (st' := []) rfl (fun _ _ _ _ => rfl) rfl rfl (Nat.le_of_ble_eq_true rfl) (Nat.le_of_ble_eq_true rfl) (recvV A (a := 2) (Abs_ks A (i := 7) rfl).1) (t46 (by omega) A (rgn 3 rfl) (Abs_rg A 15 3) e33) (fun w33 r33 A33 => ?_)
    obtain ⟨u34, e34, e⟩ := ob e
    cases e
    exact hg_retI rfl (by decide) (fit_B (kB_e e34)) (kr _ _ rfl _ r33 A33)
def c64_j34 (call : Nat → List Int → hS → Option (Int × hS)) (l1 : Int) (l2 : Int) (h : hS) : Option (Int × hS) :=
  if l2 = 211 then
  if l1 ≤ 0 then
  c64_j55 call l1 l2 h
  else
  (c46 2 (hI h 15 3) h).bind (fun v36 =>
  (kB v36.1).bind (fun u37 =>
  some (v36.1, v36.2)))
  else
  c64_j55 call l1 l2 h
set_option maxRecDepth 100000 in
theorem t64_j34 {d : Nat} {call : Nat → List Int → hS → Option (Int × hS)} (hcall : ∀ (k : Nat) (as : List Int) (h : hS) (w : mmW) (o : Int × hS), Abs h w → (∀ a ∈ as, rg a) → call k as h = some o → hEv d k (vR 15 :: as.map vI) w (qI o)) (hd : 123 ≤ d) {l1 : Int} {l2 : Int} {z3 : Option hO} {h : hS} {w : mmW} {o : Int × hS} {Q : mmO → Prop} (rl1 : rg l1) (rl2 : rg l2) (A : Abs h w) (e : c64_j34 call l1 l2 h = some o) (kr : ∀ (v1 : Int) (h1 : hS), o = (v1, h1) → ∀ w', rg v1 → Abs h1 w' → Q (some (.int (Int32.ofInt v1)), w')) : hG d 64 34 [some (vr 15), some (vi l1), some (vi l2), z3] [] w Q := by
  unfold c64_j34 at e
  refine hg_run 2 (pc' := 38) (ls' := [some (vr 15), some (vi l1), some (vi l2), z3]) (st' := [vI 211, vI l2]) rfl ?_
  rcases oi e with ⟨q3, e⟩ | ⟨q3, e⟩
  · refine hg_icF (tgt := 55) rfl (by decide) rl2 (rgn 211 rfl) (show ¬ ¬ (l2 = 211) from fun f => f q3) ?_
    refine hg_run 1 (pc' := 42) (ls' := [some (vr 15), some (vi l1), some (vi l2), z3]) (st' := [vI l1]) rfl ?_
    rcases oi e with ⟨q35, e⟩ | ⟨q35, e⟩
    · refine hg_ifT (tgt := 55) rfl (by decide) rl1 q35 ?_
      exact t64_j55 hcall hd rl1 rl2 A e kr
    · refine hg_ifF (tgt := 55) rfl (by decide) rl1 q35 ?_
      refine hg_run 3 (pc' := 48) (ls' := [some (vr 15), some (vi l1), some (vi l2), z3]) (st' := [vR 15, vI 2, vR 15]) rfl ?_
      refine gs_15_3 rfl A ?_
      obtain ⟨v36, e36, e⟩ := ob e
      refine hg_cI (as := [vR 15, vI 2, vI (hI h 15 3)]) (st' := []) rfl (fun _ _ _ _ => rfl) rfl rfl (Nat.le_of_ble_eq_true rfl) (Nat.le_of_ble_eq_true rfl) (recvV A (a := 2) (Abs_ks A (i := 7) rfl).1) (t46 (by omega) A (rgn 2 rfl) (Abs_rg A 15 3) e36) (fun w36 r36 A36 => ?_)
      obtain ⟨u37, e37, e⟩ := ob e
      cases e
      exact hg_retI rfl (by decide) (fit_B (kB_e e37)) (kr _ _ rfl _ r36 A36)
  · refine hg_icT (tgt := 55) rfl (by decide) rl2 (rgn 211 rfl) (show ¬ (l2 = 211) from q3) ?_
    exact t64_j55 hcall hd rl1 rl2 A e kr
def c64_j24 (h : hS) : Option (Int × hS) :=
  (c46 1 (hI h 15 3) h).bind (fun v39 =>
  (kB v39.1).bind (fun u40 =>
  some (v39.1, v39.2)))
set_option maxRecDepth 100000 in
theorem t64_j24 {d : Nat} {call : Nat → List Int → hS → Option (Int × hS)} (hcall : ∀ (k : Nat) (as : List Int) (h : hS) (w : mmW) (o : Int × hS), Abs h w → (∀ a ∈ as, rg a) → call k as h = some o → hEv d k (vR 15 :: as.map vI) w (qI o)) (hd : 123 ≤ d)  {z1 : Option hO} {z2 : Option hO} {z3 : Option hO} {h : hS} {w : mmW} {o : Int × hS} {Q : mmO → Prop}  (A : Abs h w) (e : c64_j24 h = some o) (kr : ∀ (v1 : Int) (h1 : hS), o = (v1, h1) → ∀ w', rg v1 → Abs h1 w' → Q (some (.int (Int32.ofInt v1)), w')) : hG d 64 24 [some (vr 15), z1, z2, z3] [] w Q := by
  unfold c64_j24 at e
  refine hg_run 3 (pc' := 27) (ls' := [some (vr 15), z1, z2, z3]) (st' := [vR 15, vI 1, vR 15]) rfl ?_
  refine gs_15_3 rfl A ?_
  obtain ⟨v39, e39, e⟩ := ob e
  refine hg_cI (as := [vR 15, vI 1, vI (hI h 15 3)]) (st' := []) rfl (fun _ _ _ _ => rfl) rfl rfl (Nat.le_of_ble_eq_true rfl) (Nat.le_of_ble_eq_true rfl) (recvV A (a := 2) (Abs_ks A (i := 7) rfl).1) (t46 (by omega) A (rgn 1 rfl) (Abs_rg A 15 3) e39) (fun w39 r39 A39 => ?_)
  obtain ⟨u40, e40, e⟩ := ob e
  cases e
  exact hg_retI rfl (by decide) (fit_B (kB_e e40)) (kr _ _ rfl _ r39 A39)
def c64 (call : Nat → List Int → hS → Option (Int × hS)) (l1 : Int) (h : hS) : Option (Int × hS) :=
  (c39  h).bind (fun v1 =>
  if v1 = 1 then
  c64_j34 call l1 v1 h
  else
  if v1 < 206 then
  c64_j24 h
  else
  if v1 ≤ 212 then
  c64_j34 call l1 v1 h
  else
  c64_j24 h)
set_option maxRecDepth 100000 in
theorem t64 {d : Nat} {call : Nat → List Int → hS → Option (Int × hS)} (hcall : ∀ (k : Nat) (as : List Int) (h : hS) (w : mmW) (o : Int × hS), Abs h w → (∀ a ∈ as, rg a) → call k as h = some o → hEv d k (vR 15 :: as.map vI) w (qI o)) (hd : 123 ≤ d) {l1 : Int} {h : hS} {w : mmW} {o : Int × hS} (A : Abs h w) (rl1 : rg l1) (e : c64 call l1 h = some o) : hEv (d + 1) 64 [vR 15, vI l1] w (qI o) := by
  refine hEv_start (args := [vr 15, vi l1]) (nl := 4) rfl (Nat.le_of_ble_eq_true rfl) ?_
  show hG d 64 0 [some (vr 15), some (vi l1), none, none] [] w _
  have kr : ∀ (v1 : Int) (h1 : hS), o = (v1, h1) → ∀ w', rg v1 → Abs h1 w' → qI o (some (.int (Int32.ofInt v1)), w') := fun v1 h1 q w' r A' => by cases q; exact ⟨rfl, r, A'⟩
  unfold c64 at e
  refine hg_run 1 (pc' := 1) (ls' := [some (vr 15), some (vi l1), none, none]) (st' := [vR 15]) rfl ?_
  obtain ⟨v1, e1, e⟩ := ob e
  refine hg_cIp (as := [vR 15]) (st' := []) rfl (fun _ _ _ _ => rfl) rfl rfl (Nat.le_of_ble_eq_true rfl) (Nat.le_of_ble_eq_true rfl) (recvV A (a := 2) (Abs_ks A (i := 7) rfl).1) (t39 (by omega) A  e1) (fun r1 => ?_)
  refine hg_run 3 (pc' := 7) (ls' := [some (vr 15), some (vi l1), some (vi v1), none]) (st' := [vI 1, vI v1]) rfl ?_
  rcases oi e with ⟨q2, e⟩ | ⟨q2, e⟩
  · refine hg_icT (tgt := 34) rfl (by decide) r1 (rgn 1 rfl) q2 ?_
    exact t64_j34 hcall hd rl1 r1 A e kr
  · refine hg_icF (tgt := 34) rfl (by decide) r1 (rgn 1 rfl) q2 ?_
    refine hg_run 2 (pc' := 14) (ls' := [some (vr 15), some (vi l1), some (vi v1), none]) (st' := [vI 206, vI v1]) rfl ?_
    rcases oi e with ⟨q38, e⟩ | ⟨q38, e⟩
    · refine hg_icT (tgt := 24) rfl (by decide) r1 (rgn 206 rfl) q38 ?_
      exact t64_j24 hcall hd  A e kr
    · refine hg_icF (tgt := 24) rfl (by decide) r1 (rgn 206 rfl) q38 ?_
      refine hg_run 2 (pc' := 21) (ls' := [some (vr 15), some (vi l1), some (vi v1), none]) (st' := [vI 212, vI v1]) rfl ?_
      rcases oi e with ⟨q41, e⟩ | ⟨q41, e⟩
      · refine hg_icT (tgt := 34) rfl (by decide) r1 (rgn 212 rfl) q41 ?_
        exact t64_j34 hcall hd rl1 r1 A e kr
      · refine hg_icF (tgt := 34) rfl (by decide) r1 (rgn 212 rfl) q41 ?_
        exact t64_j24 hcall hd  A e kr
def c66 (call : Nat → List Int → hS → Option (Int × hS)) (l1 : Int) (h : hS) : Option (Int × hS) :=
  if l1 < 12 then
  (some (sI h 15 3 (wadd (hI h 15 3) 1))).bind (fun h2 =>
  (g67 120 67 [0, (wadd l1 1)] h2).bind (fun v3 =>
  if v3.1 = 0 then
  some (0, v3.2)
  else
  (c65 212 v3.2).bind (fun h5 =>
  (c65 0 h5).bind (fun h6 =>
  (call 63 [(wadd l1 1)] h6).bind (fun v7 =>
  if v7.1 = 0 then
  some (0, v7.2)
  else
  (c39  v7.2).bind (fun v9 =>
  if v9 = 213 then
  (some (sI v7.2 15 3 (wadd (hI v7.2 15 3) 1))).bind (fun h11 =>
  (c65 213 h11).bind (fun h12 =>
  (c65 0 h12).bind (fun h13 =>
  (c71 (hI h5 15 7) (hI h13 15 7) h13).bind (fun h14 =>
  (call 63 [(wadd l1 1)] h14).bind (fun v15 =>
  if v15.1 = 0 then
  some (0, v15.2)
  else
  (c71 (hI h12 15 7) (hI v15.2 15 7) v15.2).bind (fun h17 =>
  some (1, h17)))))))
  else
  (c71 (hI h5 15 7) (hI v7.2 15 7) v7.2).bind (fun h18 =>
  some (1, h18))))))))
  else
  (c46 3 (hI h 15 3) h).bind (fun v19 =>
  (kB v19.1).bind (fun u20 =>
  some (v19.1, v19.2)))
set_option maxRecDepth 100000 in
theorem t66 {d : Nat} {call : Nat → List Int → hS → Option (Int × hS)} (hcall : ∀ (k : Nat) (as : List Int) (h : hS) (w : mmW) (o : Int × hS), Abs h w → (∀ a ∈ as, rg a) → call k as h = some o → hEv d k (vR 15 :: as.map vI) w (qI o)) (hd : 123 ≤ d) {l1 : Int} {h : hS} {w : mmW} {o : Int × hS} (A : Abs h w) (rl1 : rg l1) (e : c66 call l1 h = some o) : hEv (d + 1) 66 [vR 15, vI l1] w (qI o) := by
  refine hEv_start (args := [vr 15, vi l1]) (nl := 4) rfl (Nat.le_of_ble_eq_true rfl) ?_
  show hG d 66 0 [some (vr 15), some (vi l1), none, none] [] w _
  have kr : ∀ (v1 : Int) (h1 : hS), o = (v1, h1) → ∀ w', rg v1 → Abs h1 w' → qI o (some (.int (Int32.ofInt v1)), w') := fun v1 h1 q w' r A' => by cases q; exact ⟨rfl, r, A'⟩
  unfold c66 at e
  refine hg_run 2 (pc' := 3) (ls' := [some (vr 15), some (vi l1), none, none]) (st' := [vI 12, vI l1]) rfl ?_
  rcases oi e with ⟨q1, e⟩ | ⟨q1, e⟩
  · refine hg_icT (tgt := 16) rfl (by decide) rl1 (rgn 12 rfl) q1 ?_
    refine hg_run 2 (pc' := 18) (ls' := [some (vr 15), some (vi l1), none, none]) (st' := [vR 15, vR 15]) rfl ?_
    refine gs_15_3 rfl A ?_
    refine hg_run 2 (pc' := 23) (ls' := [some (vr 15), some (vi l1), none, none]) (st' := [vI (wadd (hI h 15 3) 1), vR 15]) rfl ?_
    obtain ⟨h2, e2, e⟩ := ob e
    refine ps_15_3 rfl A (rg_add _ _) e2 (fun w2 A2 => ?_)
    refine hg_run 5 (pc' := 31) (ls' := [some (vr 15), some (vi l1), none, none]) (st' := [vI (wadd l1 1), vI 0, vR 15]) rfl ?_
    obtain ⟨v3, e3, e⟩ := ob e
    refine hg_cI (as := [vR 15, vI 0, vI (wadd l1 1)]) (st' := []) rfl (fun _ _ _ _ => rfl) rfl rfl (Nat.le_of_ble_eq_true rfl) (Nat.le_of_ble_eq_true rfl) (recvV A2 (a := 2) (Abs_ks A2 (i := 7) rfl).1) (u67 120 (by omega) 67 _ _ _ _ A2 (rglc (rgn 0 rfl) (rglc (rg_add _ _) rgl0)) e3) (fun w3 r3 A3 => ?_)
    rcases oi e with ⟨q4, e⟩ | ⟨q4, e⟩
    · refine hg_ifF (tgt := 39) rfl (by decide) r3 (show ¬ ¬ (v3.1 = 0) from fun f => f q4) ?_
      refine hg_run 1 (pc' := 38) (ls' := [some (vr 15), some (vi l1), none, none]) (st' := [vI 0]) rfl ?_
      cases e
      exact hg_retI rfl (by decide) (fit_B (.inl rfl)) (kr _ _ rfl _ (rgn 0 rfl) A3)
    · refine hg_ifT (tgt := 39) rfl (by decide) r3 (show ¬ (v3.1 = 0) from q4) ?_
      refine hg_run 2 (pc' := 43) (ls' := [some (vr 15), some (vi l1), none, none]) (st' := [vI 212, vR 15]) rfl ?_
      obtain ⟨h5, e5, e⟩ := ob e
      refine hg_cV (as := [vR 15, vI 212]) (st' := []) rfl (fun _ _ _ _ => rfl) rfl rfl (Nat.le_of_ble_eq_true rfl) (Nat.le_of_ble_eq_true rfl) (recvV A3 (a := 2) (Abs_ks A3 (i := 7) rfl).1) (t65 (by omega) A3 (rgn 212 rfl) e5) (fun w5 A5 => ?_)
      refine hg_run 1 (pc' := 47) (ls' := [some (vr 15), some (vi l1), none, none]) (st' := [vR 15]) rfl ?_
      refine gs_15_7 rfl A5 ?_
      refine hg_run 3 (pc' := 53) (ls' := [some (vr 15), some (vi l1), some (vi (hI h5 15 7)), none]) (st' := [vI 0, vR 15]) rfl ?_
      obtain ⟨h6, e6, e⟩ := ob e
      refine hg_cV (as := [vR 15, vI 0]) (st' := []) rfl (fun _ _ _ _ => rfl) rfl rfl (Nat.le_of_ble_eq_true rfl) (Nat.le_of_ble_eq_true rfl) (recvV A5 (a := 2) (Abs_ks A5 (i := 7) rfl).1) (t65 (by omega) A5 (rgn 0 rfl) e6) (fun w6 A6 => ?_)
      refine hg_run 4 (pc' := 60) (ls' := [some (vr 15), some (vi l1), some (vi (hI h5 15 7)), none]) (st' := [vI (wadd l1 1), vR 15]) rfl ?_
      obtain ⟨v7, e7, e⟩ := ob e
      refine hg_cI (as := [vR 15, vI (wadd l1 1)]) (st' := []) rfl (fun _ _ _ _ => rfl) rfl rfl (Nat.le_of_ble_eq_true rfl) (Nat.le_of_ble_eq_true rfl) (recvV A6 (a := 2) (Abs_ks A6 (i := 7) rfl).1) (hcall 63 _ _ _ _ A6 (rglc (rg_add _ _) rgl0) e7) (fun w7 r7 A7 => ?_)
      rcases oi e with ⟨q8, e⟩ | ⟨q8, e⟩
      · refine hg_ifF (tgt := 68) rfl (by decide) r7 (show ¬ ¬ (v7.1 = 0) from fun f => f q8) ?_
        refine hg_run 1 (pc' := 67) (ls' := [some (vr 15), some (vi l1), some (vi (hI h5 15 7)), none]) (st' := [vI 0]) rfl ?_
        cases e
        exact hg_retI rfl (by decide) (fit_B (.inl rfl)) (kr _ _ rfl _ (rgn 0 rfl) A7)
      · refine hg_ifT (tgt := 68) rfl (by decide) r7 (show ¬ (v7.1 = 0) from q8) ?_
        refine hg_run 1 (pc' := 69) (ls' := [some (vr 15), some (vi l1), some (vi (hI h5 15 7)), none]) (st' := [vR 15]) rfl ?_
        obtain ⟨v9, e9, e⟩ := ob e
        refine hg_cIp (as := [vR 15]) (st' := []) rfl (fun _ _ _ _ => rfl) rfl rfl (Nat.le_of_ble_eq_true rfl) (Nat.le_of_ble_eq_true rfl) (recvV A7 (a := 2) (Abs_ks A7 (i := 7) rfl).1) (t39 (by omega) A7  e9) (fun r9 => ?_)
        refine hg_run 1 (pc' := 75) (ls' := [some (vr 15), some (vi l1), some (vi (hI h5 15 7)), none]) (st' := [vI 213, vI v9]) rfl ?_
        rcases oi e with ⟨q10, e⟩ | ⟨q10, e⟩
        · refine hg_icT (tgt := 89) rfl (by decide) r9 (rgn 213 rfl) q10 ?_
          refine hg_run 2 (pc' := 91) (ls' := [some (vr 15), some (vi l1), some (vi (hI h5 15 7)), none]) (st' := [vR 15, vR 15]) rfl ?_
          refine gs_15_3 rfl A7 ?_
          refine hg_run 2 (pc' := 96) (ls' := [some (vr 15), some (vi l1), some (vi (hI h5 15 7)), none]) (st' := [vI (wadd (hI v7.2 15 3) 1), vR 15]) rfl ?_
          obtain ⟨h11, e11, e⟩ := ob e
          refine ps_15_3 rfl A7 (rg_add _ _) e11 (fun w11 A11 => ?_)
          refine hg_run 2 (pc' := 103) (ls' := [some (vr 15), some (vi l1), some (vi (hI h5 15 7)), none]) (st' := [vI 213, vR 15]) rfl ?_
          obtain ⟨h12, e12, e⟩ := ob e
          refine hg_cV (as := [vR 15, vI 213]) (st' := []) rfl (fun _ _ _ _ => rfl) rfl rfl (Nat.le_of_ble_eq_true rfl) (Nat.le_of_ble_eq_true rfl) (recvV A11 (a := 2) (Abs_ks A11 (i := 7) rfl).1) (t65 (by omega) A11 (rgn 213 rfl) e12) (fun w12 A12 => ?_)
          refine hg_run 1 (pc' := 107) (ls' := [some (vr 15), some (vi l1), some (vi (hI h5 15 7)), none]) (st' := [vR 15]) rfl ?_
          refine gs_15_7 rfl A12 ?_
          refine hg_run 3 (pc' := 113) (ls' := [some (vr 15), some (vi l1), some (vi (hI h5 15 7)), some (vi (hI h12 15 7))]) (st' := [vI 0, vR 15]) rfl ?_
          obtain ⟨h13, e13, e⟩ := ob e
          refine hg_cV (as := [vR 15, vI 0]) (st' := []) rfl (fun _ _ _ _ => rfl) rfl rfl (Nat.le_of_ble_eq_true rfl) (Nat.le_of_ble_eq_true rfl) (recvV A12 (a := 2) (Abs_ks A12 (i := 7) rfl).1) (t65 (by omega) A12 (rgn 0 rfl) e13) (fun w13 A13 => ?_)
          refine hg_run 3 (pc' := 119) (ls' := [some (vr 15), some (vi l1), some (vi (hI h5 15 7)), some (vi (hI h12 15 7))]) (st' := [vR 15, vI (hI h5 15 7), vR 15]) rfl ?_
          refine gs_15_7 rfl A13 ?_
          obtain ⟨h14, e14, e⟩ := ob e
          refine hg_cV (as := [vR 15, vI (hI h5 15 7), vI (hI h13 15 7)]) (st' := []) rfl (fun _ _ _ _ => rfl) rfl rfl (Nat.le_of_ble_eq_true rfl) (Nat.le_of_ble_eq_true rfl) (recvV A13 (a := 2) (Abs_ks A13 (i := 7) rfl).1) (t71 (by omega) A13 (Abs_rg A5 15 7) (Abs_rg A13 15 7) e14) (fun w14 A14 => ?_)
          refine hg_run 4 (pc' := 129) (ls' := [some (vr 15), some (vi l1), some (vi (hI h5 15 7)), some (vi (hI h12 15 7))]) (st' := [vI (wadd l1 1), vR 15]) rfl ?_
          obtain ⟨v15, e15, e⟩ := ob e
          refine hg_cI (as := [vR 15, vI (wadd l1 1)]) (st' := []) rfl (fun _ _ _ _ => rfl) rfl rfl (Nat.le_of_ble_eq_true rfl) (Nat.le_of_ble_eq_true rfl) (recvV A14 (a := 2) (Abs_ks A14 (i := 7) rfl).1) (hcall 63 _ _ _ _ A14 (rglc (rg_add _ _) rgl0) e15) (fun w15 r15 A15 => ?_)
          rcases oi e with ⟨q16, e⟩ | ⟨q16, e⟩
          · refine hg_ifF (tgt := 137) rfl (by decide) r15 (show ¬ ¬ (v15.1 = 0) from fun f => f q16) ?_
            refine hg_run 1 (pc' := 136) (ls' := [some (vr 15), some (vi l1), some (vi (hI h5 15 7)), some (vi (hI h12 15 7))]) (st' := [vI 0]) rfl ?_
            cases e
            exact hg_retI rfl (by decide) (fit_B (.inl rfl)) (kr _ _ rfl _ (rgn 0 rfl) A15)
          · refine hg_ifT (tgt := 137) rfl (by decide) r15 (show ¬ (v15.1 = 0) from q16) ?_
            refine hg_run 3 (pc' := 140) (ls' := [some (vr 15), some (vi l1), some (vi (hI h5 15 7)), some (vi (hI h12 15 7))]) (st' := [vR 15, vI (hI h12 15 7), vR 15]) rfl ?_
            refine gs_15_7 rfl A15 ?_
            obtain ⟨h17, e17, e⟩ := ob e
            refine hg_cV (as := [vR 15, vI (hI h12 15 7), vI (hI v15.2 15 7)]) (st' := []) rfl (fun _ _ _ _ => rfl) rfl rfl (Nat.le_of_ble_eq_true rfl) (Nat.le_of_ble_eq_true rfl) (recvV A15 (a := 2) (Abs_ks A15 (i := 7) rfl).1) (t71 (by omega) A15 (Abs_rg A12 15 7) (Abs_rg A15 15 7) e17) (fun w17 A17 => ?_)
            refine hg_run 1 (pc' := 147) (ls' := [some (vr 15), some (vi l1), some (vi (hI h5 15 7)), some (vi (hI h12 15 7))]) (st' := [vI 1]) rfl ?_
            cases e
            exact hg_retI rfl (by decide) (fit_B (.inr rfl)) (kr _ _ rfl _ (rgn 1 rfl) A17)
        · refine hg_icF (tgt := 89) rfl (by decide) r9 (rgn 213 rfl) q10 ?_
          refine hg_run 3 (pc' := 81) (ls' := [some (vr 15), some (vi l1), some (vi (hI h5 15 7)), none]) (st' := [vR 15, vI (hI h5 15 7), vR 15]) rfl ?_
          refine gs_15_7 rfl A7 ?_
          obtain ⟨h18, e18, e⟩ := ob e
          refine hg_cV (as := [vR 15, vI (hI h5 15 7), vI (hI v7.2 15 7)]) (st' := []) rfl (fun _ _ _ _ => rfl) rfl rfl (Nat.le_of_ble_eq_true rfl) (Nat.le_of_ble_eq_true rfl) (recvV A7 (a := 2) (Abs_ks A7 (i := 7) rfl).1) (t71 (by omega) A7 (Abs_rg A5 15 7) (Abs_rg A7 15 7) e18) (fun w18 A18 => ?_)
          refine hg_run 1 (pc' := 88) (ls' := [some (vr 15), some (vi l1), some (vi (hI h5 15 7)), none]) (st' := [vI 1]) rfl ?_
          cases e
          exact hg_retI rfl (by decide) (fit_B (.inr rfl)) (kr _ _ rfl _ (rgn 1 rfl) A18)
  · refine hg_icF (tgt := 16) rfl (by decide) rl1 (rgn 12 rfl) q1 ?_
    refine hg_run 3 (pc' := 9) (ls' := [some (vr 15), some (vi l1), none, none]) (st' := [vR 15, vI 3, vR 15]) rfl ?_
    refine gs_15_3 rfl A ?_
    obtain ⟨v19, e19, e⟩ := ob e
    refine hg_cI (as := [vR 15, vI 3, vI (hI h 15 3)]) (st' := []) rfl (fun _ _ _ _ => rfl) rfl rfl (Nat.le_of_ble_eq_true rfl) (Nat.le_of_ble_eq_true rfl) (recvV A (a := 2) (Abs_ks A (i := 7) rfl).1) (t46 (by omega) A (rgn 3 rfl) (Abs_rg A 15 3) e19) (fun w19 r19 A19 => ?_)
    obtain ⟨u20, e20, e⟩ := ob e
    cases e
    exact hg_retI rfl (by decide) (fit_B (kB_e e20)) (kr _ _ rfl _ r19 A19)
def g63 : Nat → Nat → List Int → hS → Option (Int × hS)
  | 0, _, _, _ => none
  | f + 1, 63, [a0], h => c63 (g63 f) a0 h
  | f + 1, 64, [a0], h => c64 (g63 f) a0 h
  | f + 1, 66, [a0], h => c66 (g63 f) a0 h
  | _ + 1, _, _, _ => none
theorem u63 : ∀ (f : Nat) {d : Nat} (hd : 124 + f ≤ d) (k : Nat) (as : List Int) (h : hS) (w : mmW) (o : Int × hS), Abs h w → (∀ a ∈ as, rg a) → g63 f k as h = some o → hEv d k (vR 15 :: as.map vI) w (qI o)
  | 0, d, hd, k, as, h, w, o, A, hr, e => by unfold g63 at e; cases e
  | f + 1, d, hd, k, as, h, w, o, A, hr, e => by
    obtain ⟨d, rfl⟩ : ∃ d1, d = d1 + 1 := ⟨d - 1, by omega⟩
    unfold g63 at e
    split at e
    · rename_i q; cases q
    · rename_i q; cases q; exact t63 (u63 f (by omega)) (by omega) A (hr _ List.mem_cons_self) e
    · rename_i q; cases q; exact t64 (u63 f (by omega)) (by omega) A (hr _ List.mem_cons_self) e
    · rename_i q; cases q; exact t66 (u63 f (by omega)) (by omega) A (hr _ List.mem_cons_self) e
    · cases e
def c74 (l0 : Nat) (l1 : Int) (h : hS) : Option (Nat × hS) :=
  (lA h l0 1).bind (fun v1 =>
  if l1 = v1 then
  none
  else
  (nA h 1 l1).bind (fun h3 =>
  (lA h3 l0 1).bind (fun v4 =>
  (cpI h3 l0 (hN h) 1 0 0 (wmin v4 l1)).bind (fun h5 =>
  some ((hN h), h5)))))
theorem t74 {d : Nat} (hd : 1 ≤ d) {l0 : Nat} {l1 : Int} {h : hS} {w : mmW} {o : Nat × hS} (A : Abs h w) (rl1 : rg l1) (e : c74 l0 l1 h = some o) : hEv d 74 [vR l0, vI l1] w (qR o) := by
  obtain ⟨d, rfl⟩ : ∃ d1, d = d1 + 1 := ⟨d - 1, by omega⟩
  have hd : 0 ≤ d := by omega
  refine hEv_start (args := [vr l0, vi l1]) (nl := 3) rfl (Nat.le_of_ble_eq_true rfl) ?_
  show hG d 74 0 [some (vr l0), some (vi l1), none] [] w _
  have kr : ∀ (v1 : Nat) (h1 : hS), o = (v1, h1) → ∀ w', Abs h1 w' → qR o (some (rv v1), w') := fun v1 h1 q w' A' => by cases q; exact ⟨rfl, A'⟩
  unfold c74 at e
  refine hg_run 2 (pc' := 2) (ls' := [some (vr l0), some (vi l1), none]) (st' := [vR l0, vI l1]) rfl ?_
  obtain ⟨v1, e1, e⟩ := ob e
  refine hg_len (t := 0) rfl A (lA_e e1).1 (lA_e e1).2 (fun r1 => ?_)
  rcases oi e with ⟨q2, e⟩ | ⟨q2, e⟩
  · refine hg_icF (tgt := 14) rfl (by decide) rl1 r1 (show ¬ ¬ (l1 = v1) from fun f => f q2) ?_
    refine hg_run 1 (pc' := 7) (ls' := [some (vr l0), some (vi l1), none]) (st' := [vR l0]) rfl ?_
    cases e
  · refine hg_icT (tgt := 14) rfl (by decide) rl1 r1 (show ¬ (l1 = v1) from q2) ?_
    refine hg_run 1 (pc' := 15) (ls' := [some (vr l0), some (vi l1), none]) (st' := [vI l1]) rfl ?_
    obtain ⟨h3, e3, e⟩ := ob e
    refine hg_nA (t := 0) rfl (fun _ _ _ _ => rfl) A (nA_e e3).1 (nA_e e3).2 (fun w3 A3 => ?_)
    refine hg_run 6 (pc' := 23) (ls' := [some (vr l0), some (vi l1), some (vr (hN h))]) (st' := [vR l0, vI 0, vR (hN h), vI 0, vR l0]) rfl ?_
    obtain ⟨v4, e4, e⟩ := ob e
    refine hg_len (t := 0) rfl A3 (lA_e e4).1 (lA_e e4).2 (fun r4 => ?_)
    refine hg_run 2 (pc' := 28) (ls' := [some (vr l0), some (vi l1), some (vr (hN h))]) (st' := [vI (wmin v4 l1), vI 0, vR (hN h), vI 0, vR l0]) rfl ?_
    obtain ⟨h5, e5, e⟩ := ob e
    refine hg_cpI (t := 0) rfl A3 (by decide) (Nat.le_of_ble_eq_true rfl) e5 (fun w5 A5 => ?_)
    refine hg_run 1 (pc' := 32) (ls' := [some (vr l0), some (vi l1), some (vr (hN h))]) (st' := [vR (hN h)]) rfl ?_
    cases e
    exact hg_retR rfl (kr _ _ rfl _ A5)
def c76 (l0 : Nat) (l1 : Nat) (h : hS) : Option (Int × hS) :=
  (gI h l1 22 3).bind (fun v1 =>
  (kT h l0 24).bind (fun u3 =>
  (c61 l0 v1 h).bind (fun v2 =>
  if v2 = 0 then
  (gI h l0 24 4).bind (fun v5 =>
  if v5 < 8 then
  (gR h l0 24 5).bind (fun v7 =>
  (gI h l0 24 4).bind (fun v8 =>
  (gI h l1 22 3).bind (fun v9 =>
  (wI h v7 1 v8 v9).bind (fun h10 =>
  (gR h10 l0 24 6).bind (fun v11 =>
  (gI h10 l0 24 4).bind (fun v12 =>
  (gI h10 l1 22 4).bind (fun v13 =>
  (wI h10 v11 1 v12 v13).bind (fun h14 =>
  (gR h14 l0 24 7).bind (fun v15 =>
  (gI h14 l0 24 4).bind (fun v16 =>
  (wI h14 v15 1 v16 (-1)).bind (fun h17 =>
  (gI h17 l0 24 4).bind (fun v18 =>
  (pI h17 l0 24 4 (wadd v18 1)).bind (fun h19 =>
  some (0, h19))))))))))))))
  else
  some (7, h))
  else
  some (3, h))))
theorem t76 {d : Nat} (hd : 3 ≤ d) {l0 : Nat} {l1 : Nat} {h : hS} {w : mmW} {o : Int × hS} (A : Abs h w)  (e : c76 l0 l1 h = some o) : hEv d 76 [vR l0, vR l1] w (qI o) := by
  obtain ⟨d, rfl⟩ : ∃ d1, d = d1 + 1 := ⟨d - 1, by omega⟩
  have hd : 2 ≤ d := by omega
  refine hEv_start (args := [vr l0, vr l1]) (nl := 2) rfl (Nat.le_of_ble_eq_true rfl) ?_
  show hG d 76 0 [some (vr l0), some (vr l1)] [] w _
  have kr : ∀ (v1 : Int) (h1 : hS), o = (v1, h1) → ∀ w', rg v1 → Abs h1 w' → qI o (some (.int (Int32.ofInt v1)), w') := fun v1 h1 q w' r A' => by cases q; exact ⟨rfl, r, A'⟩
  unfold c76 at e
  refine hg_run 2 (pc' := 2) (ls' := [some (vr l0), some (vr l1)]) (st' := [vR l1, vR l0]) rfl ?_
  obtain ⟨v1, e1, e⟩ := ob e
  refine gd_10_3 rfl A e1 (fun r1 => ?_)
  obtain ⟨u3, e3, e⟩ := ob e
  obtain ⟨v2, e2, e⟩ := ob e
  refine hg_cIp (as := [vR l0, vI v1]) (st' := []) rfl (fun _ _ _ _ => rfl) rfl rfl (Nat.le_of_ble_eq_true rfl) (Nat.le_of_ble_eq_true rfl) (recvV A (a := 11) (kT_e e3)) (t61 (by omega) A r1 e2) (fun r2 => ?_)
  rcases oi e with ⟨q4, e⟩ | ⟨q4, e⟩
  · refine hg_ifT (tgt := 13) rfl (by decide) r2 q4 ?_
    refine hg_run 1 (pc' := 14) (ls' := [some (vr l0), some (vr l1)]) (st' := [vR l0]) rfl ?_
    obtain ⟨v5, e5, e⟩ := ob e
    refine gd_11_4 rfl A e5 (fun r5 => ?_)
    refine hg_run 1 (pc' := 19) (ls' := [some (vr l0), some (vr l1)]) (st' := [vI 8, vI v5]) rfl ?_
    rcases oi e with ⟨q6, e⟩ | ⟨q6, e⟩
    · refine hg_icT (tgt := 25) rfl (by decide) r5 (rgn 8 rfl) q6 ?_
      refine hg_run 1 (pc' := 26) (ls' := [some (vr l0), some (vr l1)]) (st' := [vR l0]) rfl ?_
      obtain ⟨v7, e7, e⟩ := ob e
      refine gd_11_5 rfl A e7 ?_
      refine hg_run 1 (pc' := 30) (ls' := [some (vr l0), some (vr l1)]) (st' := [vR l0, vR v7]) rfl ?_
      obtain ⟨v8, e8, e⟩ := ob e
      refine gd_11_4 rfl A e8 (fun r8 => ?_)
      refine hg_run 1 (pc' := 34) (ls' := [some (vr l0), some (vr l1)]) (st' := [vR l1, vI v8, vR v7]) rfl ?_
      obtain ⟨v9, e9, e⟩ := ob e
      refine gd_10_3 rfl A e9 (fun r9 => ?_)
      obtain ⟨h10, e10, e⟩ := ob e
      refine hg_wId rfl A r9 e10 (fun w10 A10 => ?_)
      refine hg_run 1 (pc' := 39) (ls' := [some (vr l0), some (vr l1)]) (st' := [vR l0]) rfl ?_
      obtain ⟨v11, e11, e⟩ := ob e
      refine gd_11_6 rfl A10 e11 ?_
      refine hg_run 1 (pc' := 43) (ls' := [some (vr l0), some (vr l1)]) (st' := [vR l0, vR v11]) rfl ?_
      obtain ⟨v12, e12, e⟩ := ob e
      refine gd_11_4 rfl A10 e12 (fun r12 => ?_)
      refine hg_run 1 (pc' := 47) (ls' := [some (vr l0), some (vr l1)]) (st' := [vR l1, vI v12, vR v11]) rfl ?_
      obtain ⟨v13, e13, e⟩ := ob e
      refine gd_10_4 rfl A10 e13 (fun r13 => ?_)
      obtain ⟨h14, e14, e⟩ := ob e
      refine hg_wId rfl A10 r13 e14 (fun w14 A14 => ?_)
      refine hg_run 1 (pc' := 52) (ls' := [some (vr l0), some (vr l1)]) (st' := [vR l0]) rfl ?_
      obtain ⟨v15, e15, e⟩ := ob e
      refine gd_11_7 rfl A14 e15 ?_
      refine hg_run 1 (pc' := 56) (ls' := [some (vr l0), some (vr l1)]) (st' := [vR l0, vR v15]) rfl ?_
      obtain ⟨v16, e16, e⟩ := ob e
      refine gd_11_4 rfl A14 e16 (fun r16 => ?_)
      refine hg_run 1 (pc' := 60) (ls' := [some (vr l0), some (vr l1)]) (st' := [vI (-1), vI v16, vR v15]) rfl ?_
      obtain ⟨h17, e17, e⟩ := ob e
      refine hg_wId rfl A14 (rgn (-1) rfl) e17 (fun w17 A17 => ?_)
      refine hg_run 2 (pc' := 63) (ls' := [some (vr l0), some (vr l1)]) (st' := [vR l0, vR l0]) rfl ?_
      obtain ⟨v18, e18, e⟩ := ob e
      refine gd_11_4 rfl A17 e18 (fun r18 => ?_)
      refine hg_run 2 (pc' := 68) (ls' := [some (vr l0), some (vr l1)]) (st' := [vI (wadd v18 1), vR l0]) rfl ?_
      obtain ⟨h19, e19, e⟩ := ob e
      refine pd_11_4 rfl A17 (rg_add _ _) e19 (fun w19 A19 => ?_)
      refine hg_run 1 (pc' := 72) (ls' := [some (vr l0), some (vr l1)]) (st' := [vI 0]) rfl ?_
      cases e
      exact hg_retI rfl (by decide) (fit_I _) (kr _ _ rfl _ (rgn 0 rfl) A19)
    · refine hg_icF (tgt := 25) rfl (by decide) r5 (rgn 8 rfl) q6 ?_
      refine hg_run 1 (pc' := 24) (ls' := [some (vr l0), some (vr l1)]) (st' := [vI 7]) rfl ?_
      cases e
      exact hg_retI rfl (by decide) (fit_I _) (kr _ _ rfl _ (rgn 7 rfl) A)
  · refine hg_ifF (tgt := 13) rfl (by decide) r2 q4 ?_
    refine hg_run 1 (pc' := 12) (ls' := [some (vr l0), some (vr l1)]) (st' := [vI 3]) rfl ?_
    cases e
    exact hg_retI rfl (by decide) (fit_I _) (kr _ _ rfl _ (rgn 3 rfl) A)
def c77 (l0 : Nat) (l1 : Nat) (h : hS) : Option (Int × hS) :=
  (gI h l1 22 3).bind (fun v1 =>
  (kT h l0 24).bind (fun u3 =>
  (c61 l0 v1 h).bind (fun v2 =>
  if v2 = 0 then
  (gI h l0 24 8).bind (fun v5 =>
  if v5 < 4 then
  (gR h l0 24 9).bind (fun v7 =>
  (gI h l0 24 8).bind (fun v8 =>
  (gI h l1 22 3).bind (fun v9 =>
  (wI h v7 1 v8 v9).bind (fun h10 =>
  (gR h10 l0 24 10).bind (fun v11 =>
  (gI h10 l0 24 8).bind (fun v12 =>
  (gI h10 l1 22 4).bind (fun v13 =>
  (wI h10 v11 1 v12 v13).bind (fun h14 =>
  (gI h14 l0 24 8).bind (fun v15 =>
  (pI h14 l0 24 8 (wadd v15 1)).bind (fun h16 =>
  some (0, h16)))))))))))
  else
  some (7, h))
  else
  some (3, h))))
theorem t77 {d : Nat} (hd : 3 ≤ d) {l0 : Nat} {l1 : Nat} {h : hS} {w : mmW} {o : Int × hS} (A : Abs h w)  (e : c77 l0 l1 h = some o) : hEv d 77 [vR l0, vR l1] w (qI o) := by
  obtain ⟨d, rfl⟩ : ∃ d1, d = d1 + 1 := ⟨d - 1, by omega⟩
  have hd : 2 ≤ d := by omega
  refine hEv_start (args := [vr l0, vr l1]) (nl := 2) rfl (Nat.le_of_ble_eq_true rfl) ?_
  show hG d 77 0 [some (vr l0), some (vr l1)] [] w _
  have kr : ∀ (v1 : Int) (h1 : hS), o = (v1, h1) → ∀ w', rg v1 → Abs h1 w' → qI o (some (.int (Int32.ofInt v1)), w') := fun v1 h1 q w' r A' => by cases q; exact ⟨rfl, r, A'⟩
  unfold c77 at e
  refine hg_run 2 (pc' := 2) (ls' := [some (vr l0), some (vr l1)]) (st' := [vR l1, vR l0]) rfl ?_
  obtain ⟨v1, e1, e⟩ := ob e
  refine gd_10_3 rfl A e1 (fun r1 => ?_)
  obtain ⟨u3, e3, e⟩ := ob e
  obtain ⟨v2, e2, e⟩ := ob e
  refine hg_cIp (as := [vR l0, vI v1]) (st' := []) rfl (fun _ _ _ _ => rfl) rfl rfl (Nat.le_of_ble_eq_true rfl) (Nat.le_of_ble_eq_true rfl) (recvV A (a := 11) (kT_e e3)) (t61 (by omega) A r1 e2) (fun r2 => ?_)
  rcases oi e with ⟨q4, e⟩ | ⟨q4, e⟩
  · refine hg_ifT (tgt := 13) rfl (by decide) r2 q4 ?_
    refine hg_run 1 (pc' := 14) (ls' := [some (vr l0), some (vr l1)]) (st' := [vR l0]) rfl ?_
    obtain ⟨v5, e5, e⟩ := ob e
    refine gd_11_8 rfl A e5 (fun r5 => ?_)
    refine hg_run 1 (pc' := 18) (ls' := [some (vr l0), some (vr l1)]) (st' := [vI 4, vI v5]) rfl ?_
    rcases oi e with ⟨q6, e⟩ | ⟨q6, e⟩
    · refine hg_icT (tgt := 24) rfl (by decide) r5 (rgn 4 rfl) q6 ?_
      refine hg_run 1 (pc' := 25) (ls' := [some (vr l0), some (vr l1)]) (st' := [vR l0]) rfl ?_
      obtain ⟨v7, e7, e⟩ := ob e
      refine gd_11_9 rfl A e7 ?_
      refine hg_run 1 (pc' := 29) (ls' := [some (vr l0), some (vr l1)]) (st' := [vR l0, vR v7]) rfl ?_
      obtain ⟨v8, e8, e⟩ := ob e
      refine gd_11_8 rfl A e8 (fun r8 => ?_)
      refine hg_run 1 (pc' := 33) (ls' := [some (vr l0), some (vr l1)]) (st' := [vR l1, vI v8, vR v7]) rfl ?_
      obtain ⟨v9, e9, e⟩ := ob e
      refine gd_10_3 rfl A e9 (fun r9 => ?_)
      obtain ⟨h10, e10, e⟩ := ob e
      refine hg_wId rfl A r9 e10 (fun w10 A10 => ?_)
      refine hg_run 1 (pc' := 38) (ls' := [some (vr l0), some (vr l1)]) (st' := [vR l0]) rfl ?_
      obtain ⟨v11, e11, e⟩ := ob e
      refine gd_11_10 rfl A10 e11 ?_
      refine hg_run 1 (pc' := 42) (ls' := [some (vr l0), some (vr l1)]) (st' := [vR l0, vR v11]) rfl ?_
      obtain ⟨v12, e12, e⟩ := ob e
      refine gd_11_8 rfl A10 e12 (fun r12 => ?_)
      refine hg_run 1 (pc' := 46) (ls' := [some (vr l0), some (vr l1)]) (st' := [vR l1, vI v12, vR v11]) rfl ?_
      obtain ⟨v13, e13, e⟩ := ob e
      refine gd_10_4 rfl A10 e13 (fun r13 => ?_)
      obtain ⟨h14, e14, e⟩ := ob e
      refine hg_wId rfl A10 r13 e14 (fun w14 A14 => ?_)
      refine hg_run 2 (pc' := 52) (ls' := [some (vr l0), some (vr l1)]) (st' := [vR l0, vR l0]) rfl ?_
      obtain ⟨v15, e15, e⟩ := ob e
      refine gd_11_8 rfl A14 e15 (fun r15 => ?_)
      refine hg_run 2 (pc' := 57) (ls' := [some (vr l0), some (vr l1)]) (st' := [vI (wadd v15 1), vR l0]) rfl ?_
      obtain ⟨h16, e16, e⟩ := ob e
      refine pd_11_8 rfl A14 (rg_add _ _) e16 (fun w16 A16 => ?_)
      refine hg_run 1 (pc' := 61) (ls' := [some (vr l0), some (vr l1)]) (st' := [vI 0]) rfl ?_
      cases e
      exact hg_retI rfl (by decide) (fit_I _) (kr _ _ rfl _ (rgn 0 rfl) A16)
    · refine hg_icF (tgt := 24) rfl (by decide) r5 (rgn 4 rfl) q6 ?_
      refine hg_run 1 (pc' := 23) (ls' := [some (vr l0), some (vr l1)]) (st' := [vI 7]) rfl ?_
      cases e
      exact hg_retI rfl (by decide) (fit_I _) (kr _ _ rfl _ (rgn 7 rfl) A)
  · refine hg_ifF (tgt := 13) rfl (by decide) r2 q4 ?_
    refine hg_run 1 (pc' := 12) (ls' := [some (vr l0), some (vr l1)]) (st' := [vI 3]) rfl ?_
    cases e
    exact hg_retI rfl (by decide) (fit_I _) (kr _ _ rfl _ (rgn 3 rfl) A)
def c78_j48 (l0 : Nat) (l1 : Nat) (l2 : Int) (h : hS) : Option (Int × hS) :=
  (gR h l0 24 12).bind (fun v6 =>
  (gI h l1 22 3).bind (fun v7 =>
  (wI h v6 1 l2 v7).bind (fun h8 =>
  (gR h8 l0 24 13).bind (fun v9 =>
  (gR h8 l1 22 5).bind (fun v10 =>
  (wR h8 v9 21 1 l2 v10).bind (fun h11 =>
  some (0, h11)))))))
theorem t78_j48 {d : Nat} (hd : 1 ≤ d) {l0 : Nat} {l1 : Nat} {l2 : Int}  {h : hS} {w : mmW} {o : Int × hS} {Q : mmO → Prop} (rl2 : rg l2) (A : Abs h w) (e : c78_j48 l0 l1 l2 h = some o) (kr : ∀ (v1 : Int) (h1 : hS), o = (v1, h1) → ∀ w', rg v1 → Abs h1 w' → Q (some (.int (Int32.ofInt v1)), w')) : hG d 78 48 [some (vr l0), some (vr l1), some (vi l2)] [] w Q := by
  unfold c78_j48 at e
  refine hg_run 1 (pc' := 49) (ls' := [some (vr l0), some (vr l1), some (vi l2)]) (st' := [vR l0]) rfl ?_
  obtain ⟨v6, e6, e⟩ := ob e
  refine gd_11_12 rfl A e6 ?_
  refine hg_run 2 (pc' := 54) (ls' := [some (vr l0), some (vr l1), some (vi l2)]) (st' := [vR l1, vI l2, vR v6]) rfl ?_
  obtain ⟨v7, e7, e⟩ := ob e
  refine gd_10_3 rfl A e7 (fun r7 => ?_)
  obtain ⟨h8, e8, e⟩ := ob e
  refine hg_wId rfl A r7 e8 (fun w8 A8 => ?_)
  refine hg_run 1 (pc' := 59) (ls' := [some (vr l0), some (vr l1), some (vi l2)]) (st' := [vR l0]) rfl ?_
  obtain ⟨v9, e9, e⟩ := ob e
  refine gd_11_13 rfl A8 e9 ?_
  refine hg_run 2 (pc' := 64) (ls' := [some (vr l0), some (vr l1), some (vi l2)]) (st' := [vR l1, vI l2, vR v9]) rfl ?_
  obtain ⟨v10, e10, e⟩ := ob e
  refine gd_10_5 rfl A8 e10 ?_
  obtain ⟨h11, e11, e⟩ := ob e
  refine hg_wRd 10 rfl A8 (by decide) (by decide) e11 (fun w11 A11 => ?_)
  refine hg_run 1 (pc' := 69) (ls' := [some (vr l0), some (vr l1), some (vi l2)]) (st' := [vI 0]) rfl ?_
  cases e
  exact hg_retI rfl (by decide) (fit_I _) (kr _ _ rfl _ (rgn 0 rfl) A11)
def c78 (l0 : Nat) (l1 : Nat) (h : hS) : Option (Int × hS) :=
  (gR h l0 24 12).bind (fun v1 =>
  (gI h l0 24 11).bind (fun v2 =>
  (gI h l1 22 3).bind (fun v3 =>
  (c29 v1 v2 v3 h).bind (fun v4 =>
  if v4 = (-1) then
  (gI h l0 24 11).bind (fun v12 =>
  if v12 < 8 then
  (gI h l0 24 11).bind (fun v14 =>
  (gI h l0 24 11).bind (fun v15 =>
  (pI h l0 24 11 (wadd v15 1)).bind (fun h16 =>
  c78_j48 l0 l1 v14 h16)))
  else
  some (7, h))
  else
  c78_j48 l0 l1 v4 h))))
theorem t78 {d : Nat} (hd : 2 ≤ d) {l0 : Nat} {l1 : Nat} {h : hS} {w : mmW} {o : Int × hS} (A : Abs h w)  (e : c78 l0 l1 h = some o) : hEv d 78 [vR l0, vR l1] w (qI o) := by
  obtain ⟨d, rfl⟩ : ∃ d1, d = d1 + 1 := ⟨d - 1, by omega⟩
  have hd : 1 ≤ d := by omega
  refine hEv_start (args := [vr l0, vr l1]) (nl := 3) rfl (Nat.le_of_ble_eq_true rfl) ?_
  show hG d 78 0 [some (vr l0), some (vr l1), none] [] w _
  have kr : ∀ (v1 : Int) (h1 : hS), o = (v1, h1) → ∀ w', rg v1 → Abs h1 w' → qI o (some (.int (Int32.ofInt v1)), w') := fun v1 h1 q w' r A' => by cases q; exact ⟨rfl, r, A'⟩
  unfold c78 at e
  refine hg_run 1 (pc' := 1) (ls' := [some (vr l0), some (vr l1), none]) (st' := [vR l0]) rfl ?_
  obtain ⟨v1, e1, e⟩ := ob e
  refine gd_11_12 rfl A e1 ?_
  refine hg_run 1 (pc' := 5) (ls' := [some (vr l0), some (vr l1), none]) (st' := [vR l0, vR v1]) rfl ?_
  obtain ⟨v2, e2, e⟩ := ob e
  refine gd_11_11 rfl A e2 (fun r2 => ?_)
  refine hg_run 1 (pc' := 9) (ls' := [some (vr l0), some (vr l1), none]) (st' := [vR l1, vI v2, vR v1]) rfl ?_
  obtain ⟨v3, e3, e⟩ := ob e
  refine gd_10_3 rfl A e3 (fun r3 => ?_)
  obtain ⟨v4, e4, e⟩ := ob e
  refine hg_cIp (as := [vR v1, vI v2, vI v3]) (st' := []) rfl (fun _ _ _ _ => rfl) rfl rfl (Nat.le_of_ble_eq_true rfl) (Nat.le_of_ble_eq_true rfl) recv0 (t29 (by omega) A r2 r3 e4) (fun r4 => ?_)
  refine hg_run 3 (pc' := 18) (ls' := [some (vr l0), some (vr l1), some (vi v4)]) (st' := [vI (-1), vI v4]) rfl ?_
  rcases oi e with ⟨q5, e⟩ | ⟨q5, e⟩
  · refine hg_icF (tgt := 48) rfl (by decide) r4 (rgn (-1) rfl) (show ¬ ¬ (v4 = (-1)) from fun f => f q5) ?_
    refine hg_run 1 (pc' := 22) (ls' := [some (vr l0), some (vr l1), some (vi v4)]) (st' := [vR l0]) rfl ?_
    obtain ⟨v12, e12, e⟩ := ob e
    refine gd_11_11 rfl A e12 (fun r12 => ?_)
    refine hg_run 1 (pc' := 27) (ls' := [some (vr l0), some (vr l1), some (vi v4)]) (st' := [vI 8, vI v12]) rfl ?_
    rcases oi e with ⟨q13, e⟩ | ⟨q13, e⟩
    · refine hg_icT (tgt := 33) rfl (by decide) r12 (rgn 8 rfl) q13 ?_
      refine hg_run 1 (pc' := 34) (ls' := [some (vr l0), some (vr l1), some (vi v4)]) (st' := [vR l0]) rfl ?_
      obtain ⟨v14, e14, e⟩ := ob e
      refine gd_11_11 rfl A e14 (fun r14 => ?_)
      refine hg_run 3 (pc' := 40) (ls' := [some (vr l0), some (vr l1), some (vi v14)]) (st' := [vR l0, vR l0]) rfl ?_
      obtain ⟨v15, e15, e⟩ := ob e
      refine gd_11_11 rfl A e15 (fun r15 => ?_)
      refine hg_run 2 (pc' := 45) (ls' := [some (vr l0), some (vr l1), some (vi v14)]) (st' := [vI (wadd v15 1), vR l0]) rfl ?_
      obtain ⟨h16, e16, e⟩ := ob e
      refine pd_11_11 rfl A (rg_add _ _) e16 (fun w16 A16 => ?_)
      exact t78_j48 hd r14 A16 e kr
    · refine hg_icF (tgt := 33) rfl (by decide) r12 (rgn 8 rfl) q13 ?_
      refine hg_run 1 (pc' := 32) (ls' := [some (vr l0), some (vr l1), some (vi v4)]) (st' := [vI 7]) rfl ?_
      cases e
      exact hg_retI rfl (by decide) (fit_I _) (kr _ _ rfl _ (rgn 7 rfl) A)
  · refine hg_icT (tgt := 48) rfl (by decide) r4 (rgn (-1) rfl) (show ¬ (v4 = (-1)) from q5) ?_
    exact t78_j48 hd r4 A e kr
def c80 (l0 : Nat) (l1 : Int) (h : hS) : Option (Int) :=
  (gR h l0 24 5).bind (fun v1 =>
  (gI h l0 24 4).bind (fun v2 =>
  (c29 v1 v2 l1 h).bind (fun v3 =>
  some v3)))
theorem t80 {d : Nat} (hd : 2 ≤ d) {l0 : Nat} {l1 : Int} {h : hS} {w : mmW} {o : Int} (A : Abs h w) (rl1 : rg l1) (e : c80 l0 l1 h = some o) : hEv d 80 [vR l0, vI l1] w (qIp o w) := by
  obtain ⟨d, rfl⟩ : ∃ d1, d = d1 + 1 := ⟨d - 1, by omega⟩
  have hd : 1 ≤ d := by omega
  refine hEv_start (args := [vr l0, vi l1]) (nl := 2) rfl (Nat.le_of_ble_eq_true rfl) ?_
  show hG d 80 0 [some (vr l0), some (vi l1)] [] w _
  have kr : ∀ v1 : Int, o = v1 → rg v1 → qIp o w (some (.int (Int32.ofInt v1)), w) := fun v1 q r => by cases q; exact ⟨rfl, r⟩
  unfold c80 at e
  refine hg_run 1 (pc' := 1) (ls' := [some (vr l0), some (vi l1)]) (st' := [vR l0]) rfl ?_
  obtain ⟨v1, e1, e⟩ := ob e
  refine gd_11_5 rfl A e1 ?_
  refine hg_run 1 (pc' := 5) (ls' := [some (vr l0), some (vi l1)]) (st' := [vR l0, vR v1]) rfl ?_
  obtain ⟨v2, e2, e⟩ := ob e
  refine gd_11_4 rfl A e2 (fun r2 => ?_)
  refine hg_run 1 (pc' := 9) (ls' := [some (vr l0), some (vi l1)]) (st' := [vI l1, vI v2, vR v1]) rfl ?_
  obtain ⟨v3, e3, e⟩ := ob e
  refine hg_cIp (as := [vR v1, vI v2, vI l1]) (st' := []) rfl (fun _ _ _ _ => rfl) rfl rfl (Nat.le_of_ble_eq_true rfl) (Nat.le_of_ble_eq_true rfl) recv0 (t29 (by omega) A r2 rl1 e3) (fun r3 => ?_)
  cases e
  exact hg_retI rfl (by decide) (fit_I _) (kr _ rfl r3)
def c81 (l0 : Nat) (l1 : Int) (h : hS) : Option (Int) :=
  (gR h l0 24 9).bind (fun v1 =>
  (gI h l0 24 8).bind (fun v2 =>
  (c29 v1 v2 l1 h).bind (fun v3 =>
  some v3)))
theorem t81 {d : Nat} (hd : 2 ≤ d) {l0 : Nat} {l1 : Int} {h : hS} {w : mmW} {o : Int} (A : Abs h w) (rl1 : rg l1) (e : c81 l0 l1 h = some o) : hEv d 81 [vR l0, vI l1] w (qIp o w) := by
  obtain ⟨d, rfl⟩ : ∃ d1, d = d1 + 1 := ⟨d - 1, by omega⟩
  have hd : 1 ≤ d := by omega
  refine hEv_start (args := [vr l0, vi l1]) (nl := 2) rfl (Nat.le_of_ble_eq_true rfl) ?_
  show hG d 81 0 [some (vr l0), some (vi l1)] [] w _
  have kr : ∀ v1 : Int, o = v1 → rg v1 → qIp o w (some (.int (Int32.ofInt v1)), w) := fun v1 q r => by cases q; exact ⟨rfl, r⟩
  unfold c81 at e
  refine hg_run 1 (pc' := 1) (ls' := [some (vr l0), some (vi l1)]) (st' := [vR l0]) rfl ?_
  obtain ⟨v1, e1, e⟩ := ob e
  refine gd_11_9 rfl A e1 ?_
  refine hg_run 1 (pc' := 5) (ls' := [some (vr l0), some (vi l1)]) (st' := [vR l0, vR v1]) rfl ?_
  obtain ⟨v2, e2, e⟩ := ob e
  refine gd_11_8 rfl A e2 (fun r2 => ?_)
  refine hg_run 1 (pc' := 9) (ls' := [some (vr l0), some (vi l1)]) (st' := [vI l1, vI v2, vR v1]) rfl ?_
  obtain ⟨v3, e3, e⟩ := ob e
  refine hg_cIp (as := [vR v1, vI v2, vI l1]) (st' := []) rfl (fun _ _ _ _ => rfl) rfl rfl (Nat.le_of_ble_eq_true rfl) (Nat.le_of_ble_eq_true rfl) recv0 (t29 (by omega) A r2 rl1 e3) (fun r3 => ?_)
  cases e
  exact hg_retI rfl (by decide) (fit_I _) (kr _ rfl r3)
def c82 (l0 : Nat) (l1 : Int) (l2 : Int) (h : hS) : Option (hS) :=
  (cpI h l0 l0 1 (wadd l2 1) l2 (wsub (wsub l1 1) l2)).bind (fun h1 =>
  some h1)
theorem t82 {d : Nat} (hd : 1 ≤ d) {l0 : Nat} {l1 : Int} {l2 : Int} {h : hS} {w : mmW} {o : hS} (A : Abs h w) (rl1 : rg l1) (rl2 : rg l2) (e : c82 l0 l1 l2 h = some o) : hEv d 82 [vR l0, vI l1, vI l2] w (qV o) := by
  obtain ⟨d, rfl⟩ : ∃ d1, d = d1 + 1 := ⟨d - 1, by omega⟩
  have hd : 0 ≤ d := by omega
  refine hEv_start (args := [vr l0, vi l1, vi l2]) (nl := 3) rfl (Nat.le_of_ble_eq_true rfl) ?_
  show hG d 82 0 [some (vr l0), some (vi l1), some (vi l2)] [] w _
  have kr : ∀ h1 : hS, o = h1 → ∀ w', Abs h1 w' → qV o (none, w') := fun h1 q w' A' => by cases q; exact ⟨rfl, A'⟩
  unfold c82 at e
  refine hg_run 11 (pc' := 11) (ls' := [some (vr l0), some (vi l1), some (vi l2)]) (st' := [vI (wsub (wsub l1 1) l2), vI l2, vR l0, vI (wadd l2 1), vR l0]) rfl ?_
  obtain ⟨h1, e1, e⟩ := ob e
  refine hg_cpI (t := 0) rfl A (by decide) (Nat.le_of_ble_eq_true rfl) e1 (fun w1 A1 => ?_)
  cases e
  exact hg_retV rfl (kr _ rfl _ A1)
def c79 (l0 : Nat) (l1 : Int) (h : hS) : Option (Int × hS) :=
  (kT h l0 24).bind (fun u2 =>
  (c80 l0 l1 h).bind (fun v1 =>
  (kT h l0 24).bind (fun u4 =>
  (c81 l0 l1 h).bind (fun v3 =>
  (gR h l0 24 12).bind (fun v5 =>
  (gI h l0 24 11).bind (fun v6 =>
  (c29 v5 v6 l1 h).bind (fun v7 =>
  if v1 = (-1) then
  if v3 = (-1) then
  if v7 = (-1) then
  some (4, h)
  else
  (gR h l0 24 12).bind (fun v11 =>
  (gI h l0 24 11).bind (fun v12 =>
  (c82 v11 v12 v7 h).bind (fun h13 =>
  (gR h13 l0 24 13).bind (fun v14 =>
  (gR h13 l0 24 13).bind (fun v15 =>
  (gI h13 l0 24 11).bind (fun v16 =>
  (cpR h13 v14 v15 21 1 (wadd v7 1) v7 (wsub (wsub v16 1) v7)).bind (fun h17 =>
  (gI h17 l0 24 11).bind (fun v18 =>
  (pI h17 l0 24 11 (wsub v18 1)).bind (fun h19 =>
  some (0, h19))))))))))
  else
  (gR h l0 24 9).bind (fun v20 =>
  (gI h l0 24 8).bind (fun v21 =>
  (c82 v20 v21 v3 h).bind (fun h22 =>
  (gR h22 l0 24 10).bind (fun v23 =>
  (gI h22 l0 24 8).bind (fun v24 =>
  (c82 v23 v24 v3 h22).bind (fun h25 =>
  (gI h25 l0 24 8).bind (fun v26 =>
  (pI h25 l0 24 8 (wsub v26 1)).bind (fun h27 =>
  some (0, h27)))))))))
  else
  (gR h l0 24 5).bind (fun v28 =>
  (gI h l0 24 4).bind (fun v29 =>
  (c82 v28 v29 v1 h).bind (fun h30 =>
  (gR h30 l0 24 6).bind (fun v31 =>
  (gI h30 l0 24 4).bind (fun v32 =>
  (c82 v31 v32 v1 h30).bind (fun h33 =>
  (gR h33 l0 24 7).bind (fun v34 =>
  (gI h33 l0 24 4).bind (fun v35 =>
  (c82 v34 v35 v1 h33).bind (fun h36 =>
  (gI h36 l0 24 4).bind (fun v37 =>
  (pI h36 l0 24 4 (wsub v37 1)).bind (fun h38 =>
  some (0, h38)))))))))))))))))))
set_option maxRecDepth 100000 in
theorem t79 {d : Nat} (hd : 3 ≤ d) {l0 : Nat} {l1 : Int} {h : hS} {w : mmW} {o : Int × hS} (A : Abs h w) (rl1 : rg l1) (e : c79 l0 l1 h = some o) : hEv d 79 [vR l0, vI l1] w (qI o) := by
  obtain ⟨d, rfl⟩ : ∃ d1, d = d1 + 1 := ⟨d - 1, by omega⟩
  have hd : 2 ≤ d := by omega
  refine hEv_start (args := [vr l0, vi l1]) (nl := 5) rfl (Nat.le_of_ble_eq_true rfl) ?_
  show hG d 79 0 [some (vr l0), some (vi l1), none, none, none] [] w _
  have kr : ∀ (v1 : Int) (h1 : hS), o = (v1, h1) → ∀ w', rg v1 → Abs h1 w' → qI o (some (.int (Int32.ofInt v1)), w') := fun v1 h1 q w' r A' => by cases q; exact ⟨rfl, r, A'⟩
  unfold c79 at e
  refine hg_run 2 (pc' := 2) (ls' := [some (vr l0), some (vi l1), none, none, none]) (st' := [vI l1, vR l0]) rfl ?_
  obtain ⟨u2, e2, e⟩ := ob e
  obtain ⟨v1, e1, e⟩ := ob e
  refine hg_cIp (as := [vR l0, vI l1]) (st' := []) rfl (fun _ _ _ _ => rfl) rfl rfl (Nat.le_of_ble_eq_true rfl) (Nat.le_of_ble_eq_true rfl) (recvV A (a := 11) (kT_e e2)) (t80 (by omega) A rl1 e1) (fun r1 => ?_)
  refine hg_run 3 (pc' := 8) (ls' := [some (vr l0), some (vi l1), some (vi v1), none, none]) (st' := [vI l1, vR l0]) rfl ?_
  obtain ⟨u4, e4, e⟩ := ob e
  obtain ⟨v3, e3, e⟩ := ob e
  refine hg_cIp (as := [vR l0, vI l1]) (st' := []) rfl (fun _ _ _ _ => rfl) rfl rfl (Nat.le_of_ble_eq_true rfl) (Nat.le_of_ble_eq_true rfl) (recvV A (a := 11) (kT_e e4)) (t81 (by omega) A rl1 e3) (fun r3 => ?_)
  refine hg_run 2 (pc' := 13) (ls' := [some (vr l0), some (vi l1), some (vi v1), some (vi v3), none]) (st' := [vR l0]) rfl ?_
  obtain ⟨v5, e5, e⟩ := ob e
  refine gd_11_12 rfl A e5 ?_
  refine hg_run 1 (pc' := 17) (ls' := [some (vr l0), some (vi l1), some (vi v1), some (vi v3), none]) (st' := [vR l0, vR v5]) rfl ?_
  obtain ⟨v6, e6, e⟩ := ob e
  refine gd_11_11 rfl A e6 (fun r6 => ?_)
  refine hg_run 1 (pc' := 21) (ls' := [some (vr l0), some (vi l1), some (vi v1), some (vi v3), none]) (st' := [vI l1, vI v6, vR v5]) rfl ?_
  obtain ⟨v7, e7, e⟩ := ob e
  refine hg_cIp (as := [vR v5, vI v6, vI l1]) (st' := []) rfl (fun _ _ _ _ => rfl) rfl rfl (Nat.le_of_ble_eq_true rfl) (Nat.le_of_ble_eq_true rfl) recv0 (t29 (by omega) A r6 rl1 e7) (fun r7 => ?_)
  refine hg_run 3 (pc' := 28) (ls' := [some (vr l0), some (vi l1), some (vi v1), some (vi v3), some (vi v7)]) (st' := [vI (-1), vI v1]) rfl ?_
  rcases oi e with ⟨q8, e⟩ | ⟨q8, e⟩
  · refine hg_icT (tgt := 80) rfl (by decide) r1 (rgn (-1) rfl) q8 ?_
    refine hg_run 2 (pc' := 82) (ls' := [some (vr l0), some (vi l1), some (vi v1), some (vi v3), some (vi v7)]) (st' := [vI (-1), vI v3]) rfl ?_
    rcases oi e with ⟨q9, e⟩ | ⟨q9, e⟩
    · refine hg_icT (tgt := 122) rfl (by decide) r3 (rgn (-1) rfl) q9 ?_
      refine hg_run 2 (pc' := 125) (ls' := [some (vr l0), some (vi l1), some (vi v1), some (vi v3), some (vi v7)]) (st' := [vI (-1), vI v7]) rfl ?_
      rcases oi e with ⟨q10, e⟩ | ⟨q10, e⟩
      · refine hg_icT (tgt := 180) rfl (by decide) r7 (rgn (-1) rfl) q10 ?_
        refine hg_run 1 (pc' := 181) (ls' := [some (vr l0), some (vi l1), some (vi v1), some (vi v3), some (vi v7)]) (st' := [vI 4]) rfl ?_
        cases e
        exact hg_retI rfl (by decide) (fit_I _) (kr _ _ rfl _ (rgn 4 rfl) A)
      · refine hg_icF (tgt := 180) rfl (by decide) r7 (rgn (-1) rfl) q10 ?_
        refine hg_run 1 (pc' := 129) (ls' := [some (vr l0), some (vi l1), some (vi v1), some (vi v3), some (vi v7)]) (st' := [vR l0]) rfl ?_
        obtain ⟨v11, e11, e⟩ := ob e
        refine gd_11_12 rfl A e11 ?_
        refine hg_run 1 (pc' := 133) (ls' := [some (vr l0), some (vi l1), some (vi v1), some (vi v3), some (vi v7)]) (st' := [vR l0, vR v11]) rfl ?_
        obtain ⟨v12, e12, e⟩ := ob e
        refine gd_11_11 rfl A e12 (fun r12 => ?_)
        refine hg_run 1 (pc' := 138) (ls' := [some (vr l0), some (vi l1), some (vi v1), some (vi v3), some (vi v7)]) (st' := [vI v7, vI v12, vR v11]) rfl ?_
        obtain ⟨h13, e13, e⟩ := ob e
        refine hg_cV (as := [vR v11, vI v12, vI v7]) (st' := []) rfl (fun _ _ _ _ => rfl) rfl rfl (Nat.le_of_ble_eq_true rfl) (Nat.le_of_ble_eq_true rfl) recv0 (t82 (by omega) A r12 r7 e13) (fun w13 A13 => ?_)
        refine hg_run 1 (pc' := 142) (ls' := [some (vr l0), some (vi l1), some (vi v1), some (vi v3), some (vi v7)]) (st' := [vR l0]) rfl ?_
        obtain ⟨v14, e14, e⟩ := ob e
        refine gd_11_13 rfl A13 e14 ?_
        refine hg_run 4 (pc' := 150) (ls' := [some (vr l0), some (vi l1), some (vi v1), some (vi v3), some (vi v7)]) (st' := [vR l0, vI (wadd v7 1), vR v14]) rfl ?_
        obtain ⟨v15, e15, e⟩ := ob e
        refine gd_11_13 rfl A13 e15 ?_
        refine hg_run 2 (pc' := 156) (ls' := [some (vr l0), some (vi l1), some (vi v1), some (vi v3), some (vi v7)]) (st' := [vR l0, vI v7, vR v15, vI (wadd v7 1), vR v14]) rfl ?_
        obtain ⟨v16, e16, e⟩ := ob e
        refine gd_11_11 rfl A13 e16 (fun r16 => ?_)
        refine hg_run 4 (pc' := 164) (ls' := [some (vr l0), some (vi l1), some (vi v1), some (vi v3), some (vi v7)]) (st' := [vI (wsub (wsub v16 1) v7), vI v7, vR v15, vI (wadd v7 1), vR v14]) rfl ?_
        obtain ⟨h17, e17, e⟩ := ob e
        refine hg_cpR (t := 10) rfl A13 (by decide) (by decide) (Nat.le_of_ble_eq_true rfl) e17 (fun w17 A17 => ?_)
        refine hg_run 2 (pc' := 169) (ls' := [some (vr l0), some (vi l1), some (vi v1), some (vi v3), some (vi v7)]) (st' := [vR l0, vR l0]) rfl ?_
        obtain ⟨v18, e18, e⟩ := ob e
        refine gd_11_11 rfl A17 e18 (fun r18 => ?_)
        refine hg_run 2 (pc' := 174) (ls' := [some (vr l0), some (vi l1), some (vi v1), some (vi v3), some (vi v7)]) (st' := [vI (wsub v18 1), vR l0]) rfl ?_
        obtain ⟨h19, e19, e⟩ := ob e
        refine pd_11_11 rfl A17 (rg_sub _ _) e19 (fun w19 A19 => ?_)
        refine hg_run 2 (pc' := 183) (ls' := [some (vr l0), some (vi l1), some (vi v1), some (vi v3), some (vi v7)]) (st' := [vI 0]) rfl ?_
        cases e
        exact hg_retI rfl (by decide) (fit_I _) (kr _ _ rfl _ (rgn 0 rfl) A19)
    · refine hg_icF (tgt := 122) rfl (by decide) r3 (rgn (-1) rfl) q9 ?_
      refine hg_run 1 (pc' := 86) (ls' := [some (vr l0), some (vi l1), some (vi v1), some (vi v3), some (vi v7)]) (st' := [vR l0]) rfl ?_
      obtain ⟨v20, e20, e⟩ := ob e
      refine gd_11_9 rfl A e20 ?_
      refine hg_run 1 (pc' := 90) (ls' := [some (vr l0), some (vi l1), some (vi v1), some (vi v3), some (vi v7)]) (st' := [vR l0, vR v20]) rfl ?_
      obtain ⟨v21, e21, e⟩ := ob e
      refine gd_11_8 rfl A e21 (fun r21 => ?_)
      refine hg_run 1 (pc' := 94) (ls' := [some (vr l0), some (vi l1), some (vi v1), some (vi v3), some (vi v7)]) (st' := [vI v3, vI v21, vR v20]) rfl ?_
      obtain ⟨h22, e22, e⟩ := ob e
      refine hg_cV (as := [vR v20, vI v21, vI v3]) (st' := []) rfl (fun _ _ _ _ => rfl) rfl rfl (Nat.le_of_ble_eq_true rfl) (Nat.le_of_ble_eq_true rfl) recv0 (t82 (by omega) A r21 r3 e22) (fun w22 A22 => ?_)
      refine hg_run 1 (pc' := 98) (ls' := [some (vr l0), some (vi l1), some (vi v1), some (vi v3), some (vi v7)]) (st' := [vR l0]) rfl ?_
      obtain ⟨v23, e23, e⟩ := ob e
      refine gd_11_10 rfl A22 e23 ?_
      refine hg_run 1 (pc' := 102) (ls' := [some (vr l0), some (vi l1), some (vi v1), some (vi v3), some (vi v7)]) (st' := [vR l0, vR v23]) rfl ?_
      obtain ⟨v24, e24, e⟩ := ob e
      refine gd_11_8 rfl A22 e24 (fun r24 => ?_)
      refine hg_run 1 (pc' := 106) (ls' := [some (vr l0), some (vi l1), some (vi v1), some (vi v3), some (vi v7)]) (st' := [vI v3, vI v24, vR v23]) rfl ?_
      obtain ⟨h25, e25, e⟩ := ob e
      refine hg_cV (as := [vR v23, vI v24, vI v3]) (st' := []) rfl (fun _ _ _ _ => rfl) rfl rfl (Nat.le_of_ble_eq_true rfl) (Nat.le_of_ble_eq_true rfl) recv0 (t82 (by omega) A22 r24 r3 e25) (fun w25 A25 => ?_)
      refine hg_run 2 (pc' := 111) (ls' := [some (vr l0), some (vi l1), some (vi v1), some (vi v3), some (vi v7)]) (st' := [vR l0, vR l0]) rfl ?_
      obtain ⟨v26, e26, e⟩ := ob e
      refine gd_11_8 rfl A25 e26 (fun r26 => ?_)
      refine hg_run 2 (pc' := 116) (ls' := [some (vr l0), some (vi l1), some (vi v1), some (vi v3), some (vi v7)]) (st' := [vI (wsub v26 1), vR l0]) rfl ?_
      obtain ⟨h27, e27, e⟩ := ob e
      refine pd_11_8 rfl A25 (rg_sub _ _) e27 (fun w27 A27 => ?_)
      refine hg_run 2 (pc' := 183) (ls' := [some (vr l0), some (vi l1), some (vi v1), some (vi v3), some (vi v7)]) (st' := [vI 0]) rfl ?_
      cases e
      exact hg_retI rfl (by decide) (fit_I _) (kr _ _ rfl _ (rgn 0 rfl) A27)
  · refine hg_icF (tgt := 80) rfl (by decide) r1 (rgn (-1) rfl) q8 ?_
    refine hg_run 1 (pc' := 32) (ls' := [some (vr l0), some (vi l1), some (vi v1), some (vi v3), some (vi v7)]) (st' := [vR l0]) rfl ?_
    obtain ⟨v28, e28, e⟩ := ob e
    refine gd_11_5 rfl A e28 ?_
    refine hg_run 1 (pc' := 36) (ls' := [some (vr l0), some (vi l1), some (vi v1), some (vi v3), some (vi v7)]) (st' := [vR l0, vR v28]) rfl ?_
    obtain ⟨v29, e29, e⟩ := ob e
    refine gd_11_4 rfl A e29 (fun r29 => ?_)
    refine hg_run 1 (pc' := 40) (ls' := [some (vr l0), some (vi l1), some (vi v1), some (vi v3), some (vi v7)]) (st' := [vI v1, vI v29, vR v28]) rfl ?_
    obtain ⟨h30, e30, e⟩ := ob e
    refine hg_cV (as := [vR v28, vI v29, vI v1]) (st' := []) rfl (fun _ _ _ _ => rfl) rfl rfl (Nat.le_of_ble_eq_true rfl) (Nat.le_of_ble_eq_true rfl) recv0 (t82 (by omega) A r29 r1 e30) (fun w30 A30 => ?_)
    refine hg_run 1 (pc' := 44) (ls' := [some (vr l0), some (vi l1), some (vi v1), some (vi v3), some (vi v7)]) (st' := [vR l0]) rfl ?_
    obtain ⟨v31, e31, e⟩ := ob e
    refine gd_11_6 rfl A30 e31 ?_
    refine hg_run 1 (pc' := 48) (ls' := [some (vr l0), some (vi l1), some (vi v1), some (vi v3), some (vi v7)]) (st' := [vR l0, vR v31]) rfl ?_
    obtain ⟨v32, e32, e⟩ := ob e
    refine gd_11_4 rfl A30 e32 (fun r32 => ?_)
    refine hg_run 1 (pc' := 52) (ls' := [some (vr l0), some (vi l1), some (vi v1), some (vi v3), some (vi v7)]) (st' := [vI v1, vI v32, vR v31]) rfl ?_
    obtain ⟨h33, e33, e⟩ := ob e
    refine hg_cV (as := [vR v31, vI v32, vI v1]) (st' := []) rfl (fun _ _ _ _ => rfl) rfl rfl (Nat.le_of_ble_eq_true rfl) (Nat.le_of_ble_eq_true rfl) recv0 (t82 (by omega) A30 r32 r1 e33) (fun w33 A33 => ?_)
    refine hg_run 1 (pc' := 56) (ls' := [some (vr l0), some (vi l1), some (vi v1), some (vi v3), some (vi v7)]) (st' := [vR l0]) rfl ?_
    obtain ⟨v34, e34, e⟩ := ob e
    refine gd_11_7 rfl A33 e34 ?_
    refine hg_run 1 (pc' := 60) (ls' := [some (vr l0), some (vi l1), some (vi v1), some (vi v3), some (vi v7)]) (st' := [vR l0, vR v34]) rfl ?_
    obtain ⟨v35, e35, e⟩ := ob e
    refine gd_11_4 rfl A33 e35 (fun r35 => ?_)
    refine hg_run 1 (pc' := 64) (ls' := [some (vr l0), some (vi l1), some (vi v1), some (vi v3), some (vi v7)]) (st' := [vI v1, vI v35, vR v34]) rfl ?_
    obtain ⟨h36, e36, e⟩ := ob e
    refine hg_cV (as := [vR v34, vI v35, vI v1]) (st' := []) rfl (fun _ _ _ _ => rfl) rfl rfl (Nat.le_of_ble_eq_true rfl) (Nat.le_of_ble_eq_true rfl) recv0 (t82 (by omega) A33 r35 r1 e36) (fun w36 A36 => ?_)
    refine hg_run 2 (pc' := 69) (ls' := [some (vr l0), some (vi l1), some (vi v1), some (vi v3), some (vi v7)]) (st' := [vR l0, vR l0]) rfl ?_
    obtain ⟨v37, e37, e⟩ := ob e
    refine gd_11_4 rfl A36 e37 (fun r37 => ?_)
    refine hg_run 2 (pc' := 74) (ls' := [some (vr l0), some (vi l1), some (vi v1), some (vi v3), some (vi v7)]) (st' := [vI (wsub v37 1), vR l0]) rfl ?_
    obtain ⟨h38, e38, e⟩ := ob e
    refine pd_11_4 rfl A36 (rg_sub _ _) e38 (fun w38 A38 => ?_)
    refine hg_run 2 (pc' := 183) (ls' := [some (vr l0), some (vi l1), some (vi v1), some (vi v3), some (vi v7)]) (st' := [vI 0]) rfl ?_
    cases e
    exact hg_retI rfl (by decide) (fit_I _) (kr _ _ rfl _ (rgn 0 rfl) A38)
def c83 (l0 : Nat) (l1 : Nat) (h : hS) : Option (Int × hS) :=
  (gI h l1 22 3).bind (fun v1 =>
  (kT h l0 24).bind (fun u3 =>
  (c80 l0 v1 h).bind (fun v2 =>
  if v2 = (-1) then
  some (4, h)
  else
  (gI h l1 22 4).bind (fun v5 =>
  (kT h l0 24).bind (fun u7 =>
  (c61 l0 v5 h).bind (fun v6 =>
  if v6 = 0 then
  (gR h l0 24 5).bind (fun v9 =>
  (gI h l1 22 4).bind (fun v10 =>
  (wI h v9 1 v2 v10).bind (fun h11 =>
  some (0, h11))))
  else
  some (3, h)))))))
theorem t83 {d : Nat} (hd : 3 ≤ d) {l0 : Nat} {l1 : Nat} {h : hS} {w : mmW} {o : Int × hS} (A : Abs h w)  (e : c83 l0 l1 h = some o) : hEv d 83 [vR l0, vR l1] w (qI o) := by
  obtain ⟨d, rfl⟩ : ∃ d1, d = d1 + 1 := ⟨d - 1, by omega⟩
  have hd : 2 ≤ d := by omega
  refine hEv_start (args := [vr l0, vr l1]) (nl := 3) rfl (Nat.le_of_ble_eq_true rfl) ?_
  show hG d 83 0 [some (vr l0), some (vr l1), none] [] w _
  have kr : ∀ (v1 : Int) (h1 : hS), o = (v1, h1) → ∀ w', rg v1 → Abs h1 w' → qI o (some (.int (Int32.ofInt v1)), w') := fun v1 h1 q w' r A' => by cases q; exact ⟨rfl, r, A'⟩
  unfold c83 at e
  refine hg_run 2 (pc' := 2) (ls' := [some (vr l0), some (vr l1), none]) (st' := [vR l1, vR l0]) rfl ?_
  obtain ⟨v1, e1, e⟩ := ob e
  refine gd_10_3 rfl A e1 (fun r1 => ?_)
  obtain ⟨u3, e3, e⟩ := ob e
  obtain ⟨v2, e2, e⟩ := ob e
  refine hg_cIp (as := [vR l0, vI v1]) (st' := []) rfl (fun _ _ _ _ => rfl) rfl rfl (Nat.le_of_ble_eq_true rfl) (Nat.le_of_ble_eq_true rfl) (recvV A (a := 11) (kT_e e3)) (t80 (by omega) A r1 e2) (fun r2 => ?_)
  refine hg_run 3 (pc' := 11) (ls' := [some (vr l0), some (vr l1), some (vi v2)]) (st' := [vI (-1), vI v2]) rfl ?_
  rcases oi e with ⟨q4, e⟩ | ⟨q4, e⟩
  · refine hg_icF (tgt := 16) rfl (by decide) r2 (rgn (-1) rfl) (show ¬ ¬ (v2 = (-1)) from fun f => f q4) ?_
    refine hg_run 1 (pc' := 15) (ls' := [some (vr l0), some (vr l1), some (vi v2)]) (st' := [vI 4]) rfl ?_
    cases e
    exact hg_retI rfl (by decide) (fit_I _) (kr _ _ rfl _ (rgn 4 rfl) A)
  · refine hg_icT (tgt := 16) rfl (by decide) r2 (rgn (-1) rfl) (show ¬ (v2 = (-1)) from q4) ?_
    refine hg_run 2 (pc' := 18) (ls' := [some (vr l0), some (vr l1), some (vi v2)]) (st' := [vR l1, vR l0]) rfl ?_
    obtain ⟨v5, e5, e⟩ := ob e
    refine gd_10_4 rfl A e5 (fun r5 => ?_)
    obtain ⟨u7, e7, e⟩ := ob e
    obtain ⟨v6, e6, e⟩ := ob e
    refine hg_cIp (as := [vR l0, vI v5]) (st' := []) rfl (fun _ _ _ _ => rfl) rfl rfl (Nat.le_of_ble_eq_true rfl) (Nat.le_of_ble_eq_true rfl) (recvV A (a := 11) (kT_e e7)) (t61 (by omega) A r5 e6) (fun r6 => ?_)
    rcases oi e with ⟨q8, e⟩ | ⟨q8, e⟩
    · refine hg_ifT (tgt := 29) rfl (by decide) r6 q8 ?_
      refine hg_run 1 (pc' := 30) (ls' := [some (vr l0), some (vr l1), some (vi v2)]) (st' := [vR l0]) rfl ?_
      obtain ⟨v9, e9, e⟩ := ob e
      refine gd_11_5 rfl A e9 ?_
      refine hg_run 2 (pc' := 35) (ls' := [some (vr l0), some (vr l1), some (vi v2)]) (st' := [vR l1, vI v2, vR v9]) rfl ?_
      obtain ⟨v10, e10, e⟩ := ob e
      refine gd_10_4 rfl A e10 (fun r10 => ?_)
      obtain ⟨h11, e11, e⟩ := ob e
      refine hg_wId rfl A r10 e11 (fun w11 A11 => ?_)
      refine hg_run 1 (pc' := 40) (ls' := [some (vr l0), some (vr l1), some (vi v2)]) (st' := [vI 0]) rfl ?_
      cases e
      exact hg_retI rfl (by decide) (fit_I _) (kr _ _ rfl _ (rgn 0 rfl) A11)
    · refine hg_ifF (tgt := 29) rfl (by decide) r6 q8 ?_
      refine hg_run 1 (pc' := 28) (ls' := [some (vr l0), some (vr l1), some (vi v2)]) (st' := [vI 3]) rfl ?_
      cases e
      exact hg_retI rfl (by decide) (fit_I _) (kr _ _ rfl _ (rgn 3 rfl) A)
def c75_j64 (l0 : Nat) (l1 : Nat) (h : hS) : Option (Int × hS) :=
  (kT h l0 24).bind (fun u4 =>
  (c76 l0 l1 h).bind (fun v3 =>
  some (v3.1, v3.2)))
theorem t75_j64 {d : Nat} (hd : 3 ≤ d) {l0 : Nat} {l1 : Nat}  {h : hS} {w : mmW} {o : Int × hS} {Q : mmO → Prop}  (A : Abs h w) (e : c75_j64 l0 l1 h = some o) (kr : ∀ (v1 : Int) (h1 : hS), o = (v1, h1) → ∀ w', rg v1 → Abs h1 w' → Q (some (.int (Int32.ofInt v1)), w')) : hG d 75 64 [some (vr l0), some (vr l1)] [] w Q := by
  unfold c75_j64 at e
  refine hg_run 2 (pc' := 66) (ls' := [some (vr l0), some (vr l1)]) (st' := [vR l1, vR l0]) rfl ?_
  obtain ⟨u4, e4, e⟩ := ob e
  obtain ⟨v3, e3, e⟩ := ob e
  refine hg_cI (as := [vR l0, vR l1]) (st' := []) rfl (fun _ _ _ _ => rfl) rfl rfl (Nat.le_of_ble_eq_true rfl) (Nat.le_of_ble_eq_true rfl) (recvV A (a := 11) (kT_e e4)) (t76 (by omega) A  e3) (fun w3 r3 A3 => ?_)
  cases e
  exact hg_retI rfl (by decide) (fit_I _) (kr _ _ rfl _ r3 A3)
def c75 (l0 : Nat) (l1 : Nat) (h : hS) : Option (Int × hS) :=
  (gI h l1 22 0).bind (fun v1 =>
  if (202 : Int) = v1 then
  c75_j64 l0 l1 h
  else
  if (203 : Int) = v1 then
  c75_j64 l0 l1 h
  else
  if (204 : Int) = v1 then
  (kT h l0 24).bind (fun u8 =>
  (c77 l0 l1 h).bind (fun v7 =>
  some (v7.1, v7.2)))
  else
  if (205 : Int) = v1 then
  (kT h l0 24).bind (fun u11 =>
  (c78 l0 l1 h).bind (fun v10 =>
  some (v10.1, v10.2)))
  else
  if (219 : Int) = v1 then
  (kT h l0 24).bind (fun u14 =>
  (c83 l0 l1 h).bind (fun v13 =>
  some (v13.1, v13.2)))
  else
  if (251 : Int) = v1 then
  (gI h l1 22 3).bind (fun v16 =>
  (kT h l0 24).bind (fun u18 =>
  (c79 l0 v16 h).bind (fun v17 =>
  some (v17.1, v17.2))))
  else
  some (0, h))
theorem t75 {d : Nat} (hd : 4 ≤ d) {l0 : Nat} {l1 : Nat} {h : hS} {w : mmW} {o : Int × hS} (A : Abs h w)  (e : c75 l0 l1 h = some o) : hEv d 75 [vR l0, vR l1] w (qI o) := by
  obtain ⟨d, rfl⟩ : ∃ d1, d = d1 + 1 := ⟨d - 1, by omega⟩
  have hd : 3 ≤ d := by omega
  refine hEv_start (args := [vr l0, vr l1]) (nl := 2) rfl (Nat.le_of_ble_eq_true rfl) ?_
  show hG d 75 0 [some (vr l0), some (vr l1)] [] w _
  have kr : ∀ (v1 : Int) (h1 : hS), o = (v1, h1) → ∀ w', rg v1 → Abs h1 w' → qI o (some (.int (Int32.ofInt v1)), w') := fun v1 h1 q w' r A' => by cases q; exact ⟨rfl, r, A'⟩
  unfold c75 at e
  refine hg_run 1 (pc' := 1) (ls' := [some (vr l0), some (vr l1)]) (st' := [vR l1]) rfl ?_
  obtain ⟨v1, e1, e⟩ := ob e
  refine gd_10_0 rfl A e1 (fun r1 => ?_)
  rcases oi e with ⟨q2, e⟩ | ⟨q2, e⟩
  · refine hg_lsw (off := 60) (tgt := 64) rfl rfl r1 (show (if (202 : Int) = v1 then (60 : Int) else if (203 : Int) = v1 then (60 : Int) else if (204 : Int) = v1 then (66 : Int) else if (205 : Int) = v1 then (72 : Int) else if (219 : Int) = v1 then (87 : Int) else if (251 : Int) = v1 then (78 : Int) else (93 : Int)) = 60 by rw [if_pos q2]) (by decide) ?_
    exact t75_j64 hd  A e kr
  · rcases oi e with ⟨q5, e⟩ | ⟨q5, e⟩
    · refine hg_lsw (off := 60) (tgt := 64) rfl rfl r1 (show (if (202 : Int) = v1 then (60 : Int) else if (203 : Int) = v1 then (60 : Int) else if (204 : Int) = v1 then (66 : Int) else if (205 : Int) = v1 then (72 : Int) else if (219 : Int) = v1 then (87 : Int) else if (251 : Int) = v1 then (78 : Int) else (93 : Int)) = 60 by rw [if_neg q2, if_pos q5]) (by decide) ?_
      exact t75_j64 hd  A e kr
    · rcases oi e with ⟨q6, e⟩ | ⟨q6, e⟩
      · refine hg_lsw (off := 66) (tgt := 70) rfl rfl r1 (show (if (202 : Int) = v1 then (60 : Int) else if (203 : Int) = v1 then (60 : Int) else if (204 : Int) = v1 then (66 : Int) else if (205 : Int) = v1 then (72 : Int) else if (219 : Int) = v1 then (87 : Int) else if (251 : Int) = v1 then (78 : Int) else (93 : Int)) = 66 by rw [if_neg q2, if_neg q5, if_pos q6]) (by decide) ?_
        refine hg_run 2 (pc' := 72) (ls' := [some (vr l0), some (vr l1)]) (st' := [vR l1, vR l0]) rfl ?_
        obtain ⟨u8, e8, e⟩ := ob e
        obtain ⟨v7, e7, e⟩ := ob e
        refine hg_cI (as := [vR l0, vR l1]) (st' := []) rfl (fun _ _ _ _ => rfl) rfl rfl (Nat.le_of_ble_eq_true rfl) (Nat.le_of_ble_eq_true rfl) (recvV A (a := 11) (kT_e e8)) (t77 (by omega) A  e7) (fun w7 r7 A7 => ?_)
        cases e
        exact hg_retI rfl (by decide) (fit_I _) (kr _ _ rfl _ r7 A7)
      · rcases oi e with ⟨q9, e⟩ | ⟨q9, e⟩
        · refine hg_lsw (off := 72) (tgt := 76) rfl rfl r1 (show (if (202 : Int) = v1 then (60 : Int) else if (203 : Int) = v1 then (60 : Int) else if (204 : Int) = v1 then (66 : Int) else if (205 : Int) = v1 then (72 : Int) else if (219 : Int) = v1 then (87 : Int) else if (251 : Int) = v1 then (78 : Int) else (93 : Int)) = 72 by rw [if_neg q2, if_neg q5, if_neg q6, if_pos q9]) (by decide) ?_
          refine hg_run 2 (pc' := 78) (ls' := [some (vr l0), some (vr l1)]) (st' := [vR l1, vR l0]) rfl ?_
          obtain ⟨u11, e11, e⟩ := ob e
          obtain ⟨v10, e10, e⟩ := ob e
          refine hg_cI (as := [vR l0, vR l1]) (st' := []) rfl (fun _ _ _ _ => rfl) rfl rfl (Nat.le_of_ble_eq_true rfl) (Nat.le_of_ble_eq_true rfl) (recvV A (a := 11) (kT_e e11)) (t78 (by omega) A  e10) (fun w10 r10 A10 => ?_)
          cases e
          exact hg_retI rfl (by decide) (fit_I _) (kr _ _ rfl _ r10 A10)
        · rcases oi e with ⟨q12, e⟩ | ⟨q12, e⟩
          · refine hg_lsw (off := 87) (tgt := 91) rfl rfl r1 (show (if (202 : Int) = v1 then (60 : Int) else if (203 : Int) = v1 then (60 : Int) else if (204 : Int) = v1 then (66 : Int) else if (205 : Int) = v1 then (72 : Int) else if (219 : Int) = v1 then (87 : Int) else if (251 : Int) = v1 then (78 : Int) else (93 : Int)) = 87 by rw [if_neg q2, if_neg q5, if_neg q6, if_neg q9, if_pos q12]) (by decide) ?_
            refine hg_run 2 (pc' := 93) (ls' := [some (vr l0), some (vr l1)]) (st' := [vR l1, vR l0]) rfl ?_
            obtain ⟨u14, e14, e⟩ := ob e
            obtain ⟨v13, e13, e⟩ := ob e
            refine hg_cI (as := [vR l0, vR l1]) (st' := []) rfl (fun _ _ _ _ => rfl) rfl rfl (Nat.le_of_ble_eq_true rfl) (Nat.le_of_ble_eq_true rfl) (recvV A (a := 11) (kT_e e14)) (t83 (by omega) A  e13) (fun w13 r13 A13 => ?_)
            cases e
            exact hg_retI rfl (by decide) (fit_I _) (kr _ _ rfl _ r13 A13)
          · rcases oi e with ⟨q15, e⟩ | ⟨q15, e⟩
            · refine hg_lsw (off := 78) (tgt := 82) rfl rfl r1 (show (if (202 : Int) = v1 then (60 : Int) else if (203 : Int) = v1 then (60 : Int) else if (204 : Int) = v1 then (66 : Int) else if (205 : Int) = v1 then (72 : Int) else if (219 : Int) = v1 then (87 : Int) else if (251 : Int) = v1 then (78 : Int) else (93 : Int)) = 78 by rw [if_neg q2, if_neg q5, if_neg q6, if_neg q9, if_neg q12, if_pos q15]) (by decide) ?_
              refine hg_run 2 (pc' := 84) (ls' := [some (vr l0), some (vr l1)]) (st' := [vR l1, vR l0]) rfl ?_
              obtain ⟨v16, e16, e⟩ := ob e
              refine gd_10_3 rfl A e16 (fun r16 => ?_)
              obtain ⟨u18, e18, e⟩ := ob e
              obtain ⟨v17, e17, e⟩ := ob e
              refine hg_cI (as := [vR l0, vI v16]) (st' := []) rfl (fun _ _ _ _ => rfl) rfl rfl (Nat.le_of_ble_eq_true rfl) (Nat.le_of_ble_eq_true rfl) (recvV A (a := 11) (kT_e e18)) (t79 (by omega) A r16 e17) (fun w17 r17 A17 => ?_)
              cases e
              exact hg_retI rfl (by decide) (fit_I _) (kr _ _ rfl _ r17 A17)
            · refine hg_lsw (off := 93) (tgt := 97) rfl rfl r1 (show (if (202 : Int) = v1 then (60 : Int) else if (203 : Int) = v1 then (60 : Int) else if (204 : Int) = v1 then (66 : Int) else if (205 : Int) = v1 then (72 : Int) else if (219 : Int) = v1 then (87 : Int) else if (251 : Int) = v1 then (78 : Int) else (93 : Int)) = 93 by rw [if_neg q2, if_neg q5, if_neg q6, if_neg q9, if_neg q12, if_neg q15]) (by decide) ?_
              refine hg_run 1 (pc' := 98) (ls' := [some (vr l0), some (vr l1)]) (st' := [vI 0]) rfl ?_
              cases e
              exact hg_retI rfl (by decide) (fit_I _) (kr _ _ rfl _ (rgn 0 rfl) A)
def c59_j174 (l1 : Int) (l2 : Nat) (l3 : Int) (l5 : Int) (l7 : Nat) (h : hS) : Option (Int × hS) :=
  (some (mkH h 22 6)).bind (fun h13 =>
  (k8 (hN h)).bind (fun u15 =>
  (c48 (hN h) l3 (hI h13 15 9) l1 l5 (hI h13 15 10) l7 h13).bind (fun h14 =>
  (hnul l2).bind (fun b16 =>
  if b16 = true then
  (kT h14 (hR h14 15 12) 8).bind (fun u20 =>
  (c49 (hR h14 15 12) (hN h) h14).bind (fun v19 =>
  some (1, v19.2)))
  else
  (kT h14 l2 24).bind (fun u18 =>
  (c75 l2 (hN h) h14).bind (fun v17 =>
  some (1, v17.2)))))))
set_option maxRecDepth 100000 in
theorem t59_j174 {d : Nat} (hd : 244 ≤ d) {l1 : Int} {l2 : Nat} {l3 : Int} {l5 : Int} {l7 : Nat} {z4 : Option hO} {z6 : Option hO} {z8 : Option hO} {h : hS} {w : mmW} {o : Int × hS} {Q : mmO → Prop} (rl1 : rg l1) (rl3 : rg l3) (rl5 : rg l5) (A : Abs h w) (e : c59_j174 l1 l2 l3 l5 l7 h = some o) (kr : ∀ (v1 : Int) (h1 : hS), o = (v1, h1) → ∀ w', rg v1 → Abs h1 w' → Q (some (.int (Int32.ofInt v1)), w')) : hG d 59 174 [some (vr 15), some (vi l1), some (vr l2), some (vi l3), z4, some (vi l5), z6, some (vr l7), z8] [] w Q := by
  unfold c59_j174 at e
  obtain ⟨h13, e13, e⟩ := ob e
  refine hg_new (a := 10) rfl A (by decide +kernel) (by decide) e13 (fun w13 A13 => ?_)
  refine hg_run 3 (pc' := 180) (ls' := [some (vr 15), some (vi l1), some (vr l2), some (vi l3), z4, some (vi l5), z6, some (vr l7), z8]) (st' := [vR 15, vI l3, vR (hN h), vR (hN h)]) rfl ?_
  refine gs_15_9 rfl A13 ?_
  refine hg_run 3 (pc' := 187) (ls' := [some (vr 15), some (vi l1), some (vr l2), some (vi l3), z4, some (vi l5), z6, some (vr l7), z8]) (st' := [vR 15, vI l5, vI l1, vI (hI h13 15 9), vI l3, vR (hN h), vR (hN h)]) rfl ?_
  refine gs_15_10 rfl A13 ?_
  refine hg_run 1 (pc' := 192) (ls' := [some (vr 15), some (vi l1), some (vr l2), some (vi l3), z4, some (vi l5), z6, some (vr l7), z8]) (st' := [vR l7, vI (hI h13 15 10), vI l5, vI l1, vI (hI h13 15 9), vI l3, vR (hN h), vR (hN h)]) rfl ?_
  obtain ⟨u15, e15, e⟩ := ob e
  obtain ⟨h14, e14, e⟩ := ob e
  refine hg_cV (as := [vR (hN h), vI l3, vI (hI h13 15 9), vI l1, vI l5, vI (hI h13 15 10), vR l7]) (st' := [vR (hN h)]) rfl (fun _ _ _ _ => rfl) rfl rfl (Nat.le_of_ble_eq_true rfl) (Nat.le_of_ble_eq_true rfl) (recv1 (k8_e e15)) (t48 (by omega) A13 rl3 (Abs_rg A13 15 9) rl1 rl5 (Abs_rg A13 15 10) e14) (fun w14 A14 => ?_)
  refine hg_run 2 (pc' := 198) (ls' := [some (vr 15), some (vi l1), some (vr l2), some (vi l3), z4, some (vi l5), z6, some (vr l7), some (vr (hN h))]) (st' := [vR l2]) rfl ?_
  obtain ⟨b16, e16, e⟩ := ob e
  rcases oi e with ⟨q16, e⟩ | ⟨q16, e⟩
  · refine hg_nul (yes := false) (tgt := 214) (t2 := 201) rfl (fun _ _ _ _ => rfl) (by decide) (ebT e16 q16) rfl ?_
    refine hg_run 1 (pc' := 202) (ls' := [some (vr 15), some (vi l1), some (vr l2), some (vi l3), z4, some (vi l5), z6, some (vr l7), some (vr (hN h))]) (st' := [vR 15]) rfl ?_
    refine gs_15_12 rfl A14 ?_
    refine hg_run 1 (pc' := 207) (ls' := [some (vr 15), some (vi l1), some (vr l2), some (vi l3), z4, some (vi l5), z6, some (vr l7), some (vr (hN h))]) (st' := [vR (hN h), vR (hR h14 15 12)]) rfl ?_
    obtain ⟨u20, e20, e⟩ := ob e
    obtain ⟨v19, e19, e⟩ := ob e
    refine hg_cI (as := [vR (hR h14 15 12), vR (hN h)]) (st' := []) rfl (fun _ _ _ _ => rfl) rfl rfl (Nat.le_of_ble_eq_true rfl) (Nat.le_of_ble_eq_true rfl) (recvV A14 (a := 3) (kT_e e20)) (t49 (by omega) A14  e19) (fun w19 r19 A19 => ?_)
    refine hg_run 3 (pc' := 222) (ls' := [some (vr 15), some (vi l1), some (vr l2), some (vi l3), z4, some (vi l5), z6, some (vr l7), some (vr (hN h))]) (st' := [vI 1]) rfl ?_
    cases e
    exact hg_retI rfl (by decide) (fit_B (.inr rfl)) (kr _ _ rfl _ (rgn 1 rfl) A19)
  · refine hg_nul (yes := false) (tgt := 214) (t2 := 214) rfl (fun _ _ _ _ => rfl) (by decide) (ebF e16 q16) rfl ?_
    refine hg_run 2 (pc' := 217) (ls' := [some (vr 15), some (vi l1), some (vr l2), some (vi l3), z4, some (vi l5), z6, some (vr l7), some (vr (hN h))]) (st' := [vR (hN h), vR l2]) rfl ?_
    obtain ⟨u18, e18, e⟩ := ob e
    obtain ⟨v17, e17, e⟩ := ob e
    refine hg_cI (as := [vR l2, vR (hN h)]) (st' := []) rfl (fun _ _ _ _ => rfl) rfl rfl (Nat.le_of_ble_eq_true rfl) (Nat.le_of_ble_eq_true rfl) (recvV A14 (a := 11) (kT_e e18)) (t75 (by omega) A14  e17) (fun w17 r17 A17 => ?_)
    refine hg_run 2 (pc' := 222) (ls' := [some (vr 15), some (vi l1), some (vr l2), some (vi l3), z4, some (vi l5), z6, some (vr l7), some (vr (hN h))]) (st' := [vI 1]) rfl ?_
    cases e
    exact hg_retI rfl (by decide) (fit_B (.inr rfl)) (kr _ _ rfl _ (rgn 1 rfl) A17)
def c59_j129 (l1 : Int) (l2 : Nat) (l3 : Int) (l5 : Int) (l7 : Nat) (h : hS) : Option (Int × hS) :=
  if l3 = 205 then
  (some (sI h 15 7 0)).bind (fun h21 =>
  (some (sI h21 15 8 0)).bind (fun h22 =>
  (g63 120 63 [0] h22).bind (fun v23 =>
  if v23.1 = 0 then
  some (0, v23.2)
  else
  (c65 0 v23.2).bind (fun h25 =>
  (c74 17 (hI h25 15 7) h25).bind (fun v26 =>
  c59_j174 l1 l2 l3 l5 v26.1 v26.2)))))
  else
  c59_j174 l1 l2 l3 l5 l7 h
set_option maxRecDepth 100000 in
theorem t59_j129 {d : Nat} (hd : 244 ≤ d) {l1 : Int} {l2 : Nat} {l3 : Int} {l5 : Int} {l7 : Nat} {z4 : Option hO} {z6 : Option hO} {z8 : Option hO} {h : hS} {w : mmW} {o : Int × hS} {Q : mmO → Prop} (rl1 : rg l1) (rl3 : rg l3) (rl5 : rg l5) (A : Abs h w) (e : c59_j129 l1 l2 l3 l5 l7 h = some o) (kr : ∀ (v1 : Int) (h1 : hS), o = (v1, h1) → ∀ w', rg v1 → Abs h1 w' → Q (some (.int (Int32.ofInt v1)), w')) : hG d 59 129 [some (vr 15), some (vi l1), some (vr l2), some (vi l3), z4, some (vi l5), z6, some (vr l7), z8] [] w Q := by
  unfold c59_j129 at e
  refine hg_run 2 (pc' := 133) (ls' := [some (vr 15), some (vi l1), some (vr l2), some (vi l3), z4, some (vi l5), z6, some (vr l7), z8]) (st' := [vI 205, vI l3]) rfl ?_
  rcases oi e with ⟨q12, e⟩ | ⟨q12, e⟩
  · refine hg_icF (tgt := 174) rfl (by decide) rl3 (rgn 205 rfl) (show ¬ ¬ (l3 = 205) from fun f => f q12) ?_
    refine hg_run 2 (pc' := 138) (ls' := [some (vr 15), some (vi l1), some (vr l2), some (vi l3), z4, some (vi l5), z6, some (vr l7), z8]) (st' := [vI 0, vR 15]) rfl ?_
    obtain ⟨h21, e21, e⟩ := ob e
    refine ps_15_7 rfl A (rgn 0 rfl) e21 (fun w21 A21 => ?_)
    refine hg_run 2 (pc' := 143) (ls' := [some (vr 15), some (vi l1), some (vr l2), some (vi l3), z4, some (vi l5), z6, some (vr l7), z8]) (st' := [vI 0, vR 15]) rfl ?_
    obtain ⟨h22, e22, e⟩ := ob e
    refine ps_15_8 rfl A21 (rgn 0 rfl) e22 (fun w22 A22 => ?_)
    refine hg_run 2 (pc' := 148) (ls' := [some (vr 15), some (vi l1), some (vr l2), some (vi l3), z4, some (vi l5), z6, some (vr l7), z8]) (st' := [vI 0, vR 15]) rfl ?_
    obtain ⟨v23, e23, e⟩ := ob e
    refine hg_cI (as := [vR 15, vI 0]) (st' := []) rfl (fun _ _ _ _ => rfl) rfl rfl (Nat.le_of_ble_eq_true rfl) (Nat.le_of_ble_eq_true rfl) (recvV A22 (a := 2) (Abs_ks A22 (i := 7) rfl).1) (u63 120 (by omega) 63 _ _ _ _ A22 (rglc (rgn 0 rfl) rgl0) e23) (fun w23 r23 A23 => ?_)
    rcases oi e with ⟨q24, e⟩ | ⟨q24, e⟩
    · refine hg_ifF (tgt := 156) rfl (by decide) r23 (show ¬ ¬ (v23.1 = 0) from fun f => f q24) ?_
      refine hg_run 1 (pc' := 155) (ls' := [some (vr 15), some (vi l1), some (vr l2), some (vi l3), z4, some (vi l5), z6, some (vr l7), z8]) (st' := [vI 0]) rfl ?_
      cases e
      exact hg_retI rfl (by decide) (fit_B (.inl rfl)) (kr _ _ rfl _ (rgn 0 rfl) A23)
    · refine hg_ifT (tgt := 156) rfl (by decide) r23 (show ¬ (v23.1 = 0) from q24) ?_
      refine hg_run 2 (pc' := 158) (ls' := [some (vr 15), some (vi l1), some (vr l2), some (vi l3), z4, some (vi l5), z6, some (vr l7), z8]) (st' := [vI 0, vR 15]) rfl ?_
      obtain ⟨h25, e25, e⟩ := ob e
      refine hg_cV (as := [vR 15, vI 0]) (st' := []) rfl (fun _ _ _ _ => rfl) rfl rfl (Nat.le_of_ble_eq_true rfl) (Nat.le_of_ble_eq_true rfl) (recvV A23 (a := 2) (Abs_ks A23 (i := 7) rfl).1) (t65 (by omega) A23 (rgn 0 rfl) e25) (fun w25 A25 => ?_)
      refine hg_run 1 (pc' := 162) (ls' := [some (vr 15), some (vi l1), some (vr l2), some (vi l3), z4, some (vi l5), z6, some (vr l7), z8]) (st' := [vR 15]) rfl ?_
      refine gs_15_6 rfl A25 ?_
      refine hg_run 1 (pc' := 166) (ls' := [some (vr 15), some (vi l1), some (vr l2), some (vi l3), z4, some (vi l5), z6, some (vr l7), z8]) (st' := [vR 15, vR 17]) rfl ?_
      refine gs_15_7 rfl A25 ?_
      obtain ⟨v26, e26, e⟩ := ob e
      refine hg_cR (as := [vR 17, vI (hI h25 15 7)]) (st' := []) rfl (fun _ _ _ _ => rfl) rfl rfl (Nat.le_of_ble_eq_true rfl) (Nat.le_of_ble_eq_true rfl) recv0 (t74 (by omega) A25 (Abs_rg A25 15 7) e26) (fun w26 A26 => ?_)
      refine hg_run 1 (pc' := 174) (ls' := [some (vr 15), some (vi l1), some (vr l2), some (vi l3), z4, some (vi l5), z6, some (vr v26.1), z8]) (st' := []) rfl ?_
      exact t59_j174 hd rl1 rl3 rl5 A26 e kr
  · refine hg_icT (tgt := 174) rfl (by decide) rl3 (rgn 205 rfl) (show ¬ (l3 = 205) from q12) ?_
    exact t59_j174 hd rl1 rl3 rl5 A e kr
def c59_j88 (s0 : Int) (l1 : Int) (l2 : Nat) (l3 : Int) (l4 : Int) (l5 : Int) (h : hS) : Option (Int × hS) :=
  if s0 = 0 then
  (some (sI h 15 10 (-1))).bind (fun h10 =>
  if l3 = 205 then
  c59_j129 l1 l2 l3 l5 0 h10
  else
  (c62 l3 h10).bind (fun v27 =>
  if v27.1 = 0 then
  some (0, v27.2)
  else
  c59_j129 l1 l2 l3 l5 0 v27.2))
  else
  (c46 s0 l4 h).bind (fun v29 =>
  (kB v29.1).bind (fun u30 =>
  some (v29.1, v29.2)))
set_option maxRecDepth 100000 in
theorem t59_j88 {d : Nat} (hd : 244 ≤ d) {s0 : Int} {l1 : Int} {l2 : Nat} {l3 : Int} {l4 : Int} {l5 : Int} {z6 : Option hO} {z7 : Option hO} {z8 : Option hO} {h : hS} {w : mmW} {o : Int × hS} {Q : mmO → Prop} (rs0 : rg s0) (rl1 : rg l1) (rl3 : rg l3) (rl4 : rg l4) (rl5 : rg l5) (A : Abs h w) (e : c59_j88 s0 l1 l2 l3 l4 l5 h = some o) (kr : ∀ (v1 : Int) (h1 : hS), o = (v1, h1) → ∀ w', rg v1 → Abs h1 w' → Q (some (.int (Int32.ofInt v1)), w')) : hG d 59 88 [some (vr 15), some (vi l1), some (vr l2), some (vi l3), some (vi l4), some (vi l5), z6, z7, z8] [vI s0] w Q := by
  unfold c59_j88 at e
  refine hg_run 2 (pc' := 92) (ls' := [some (vr 15), some (vi l1), some (vr l2), some (vi l3), some (vi l4), some (vi l5), some (vi s0), z7, z8]) (st' := [vI s0]) rfl ?_
  rcases oi e with ⟨q9, e⟩ | ⟨q9, e⟩
  · refine hg_ifT (tgt := 104) rfl (by decide) rs0 q9 ?_
    refine hg_run 4 (pc' := 109) (ls' := [some (vr 15), some (vi l1), some (vr l2), some (vi l3), some (vi l4), some (vi l5), some (vi s0), some (vr 0), z8]) (st' := [vI (-1), vR 15]) rfl ?_
    obtain ⟨h10, e10, e⟩ := ob e
    refine ps_15_10 rfl A (rgn (-1) rfl) e10 (fun w10 A10 => ?_)
    refine hg_run 2 (pc' := 116) (ls' := [some (vr 15), some (vi l1), some (vr l2), some (vi l3), some (vi l4), some (vi l5), some (vi s0), some (vr 0), z8]) (st' := [vI 205, vI l3]) rfl ?_
    rcases oi e with ⟨q11, e⟩ | ⟨q11, e⟩
    · refine hg_icT (tgt := 129) rfl (by decide) rl3 (rgn 205 rfl) q11 ?_
      exact t59_j129 hd rl1 rl3 rl5 A10 e kr
    · refine hg_icF (tgt := 129) rfl (by decide) rl3 (rgn 205 rfl) q11 ?_
      refine hg_run 2 (pc' := 121) (ls' := [some (vr 15), some (vi l1), some (vr l2), some (vi l3), some (vi l4), some (vi l5), some (vi s0), some (vr 0), z8]) (st' := [vI l3, vR 15]) rfl ?_
      obtain ⟨v27, e27, e⟩ := ob e
      refine hg_cI (as := [vR 15, vI l3]) (st' := []) rfl (fun _ _ _ _ => rfl) rfl rfl (Nat.le_of_ble_eq_true rfl) (Nat.le_of_ble_eq_true rfl) (recvV A10 (a := 2) (Abs_ks A10 (i := 7) rfl).1) (t62 (by omega) A10 rl3 e27) (fun w27 r27 A27 => ?_)
      rcases oi e with ⟨q28, e⟩ | ⟨q28, e⟩
      · refine hg_ifF (tgt := 129) rfl (by decide) r27 (show ¬ ¬ (v27.1 = 0) from fun f => f q28) ?_
        refine hg_run 1 (pc' := 128) (ls' := [some (vr 15), some (vi l1), some (vr l2), some (vi l3), some (vi l4), some (vi l5), some (vi s0), some (vr 0), z8]) (st' := [vI 0]) rfl ?_
        cases e
        exact hg_retI rfl (by decide) (fit_B (.inl rfl)) (kr _ _ rfl _ (rgn 0 rfl) A27)
      · refine hg_ifT (tgt := 129) rfl (by decide) r27 (show ¬ (v27.1 = 0) from q28) ?_
        exact t59_j129 hd rl1 rl3 rl5 A27 e kr
  · refine hg_ifF (tgt := 104) rfl (by decide) rs0 q9 ?_
    refine hg_run 3 (pc' := 100) (ls' := [some (vr 15), some (vi l1), some (vr l2), some (vi l3), some (vi l4), some (vi l5), some (vi s0), z7, z8]) (st' := [vI l4, vI s0, vR 15]) rfl ?_
    obtain ⟨v29, e29, e⟩ := ob e
    refine hg_cI (as := [vR 15, vI s0, vI l4]) (st' := []) rfl (fun _ _ _ _ => rfl) rfl rfl (Nat.le_of_ble_eq_true rfl) (Nat.le_of_ble_eq_true rfl) (recvV A (a := 2) (Abs_ks A (i := 7) rfl).1) (t46 (by omega) A rs0 rl4 e29) (fun w29 r29 A29 => ?_)
    obtain ⟨u30, e30, e⟩ := ob e
    cases e
    exact hg_retI rfl (by decide) (fit_B (kB_e e30)) (kr _ _ rfl _ r29 A29)
def c59_j43 (l1 : Int) (l2 : Nat) (l3 : Int) (h : hS) : Option (Int × hS) :=
  (some (sI h 15 3 (wadd (hI h 15 3) 1))).bind (fun h3 =>
  (c45  h3).bind (fun v4 =>
  if v4.1 = (-1) then
  some (0, v4.2)
  else
  (hnul l2).bind (fun b6 =>
  if b6 = true then
  c59_j88 0 l1 l2 l3 (hI h3 15 3) v4.1 v4.2
  else
  (kT v4.2 l2 24).bind (fun u8 =>
  (c60 l2 l3 v4.1 v4.2).bind (fun v7 =>
  c59_j88 v7 l1 l2 l3 (hI h3 15 3) v4.1 v4.2)))))
set_option maxRecDepth 100000 in
theorem t59_j43 {d : Nat} (hd : 244 ≤ d) {l1 : Int} {l2 : Nat} {l3 : Int} {z4 : Option hO} {z5 : Option hO} {z6 : Option hO} {z7 : Option hO} {z8 : Option hO} {h : hS} {w : mmW} {o : Int × hS} {Q : mmO → Prop} (rl1 : rg l1) (rl3 : rg l3) (A : Abs h w) (e : c59_j43 l1 l2 l3 h = some o) (kr : ∀ (v1 : Int) (h1 : hS), o = (v1, h1) → ∀ w', rg v1 → Abs h1 w' → Q (some (.int (Int32.ofInt v1)), w')) : hG d 59 43 [some (vr 15), some (vi l1), some (vr l2), some (vi l3), z4, z5, z6, z7, z8] [] w Q := by
  unfold c59_j43 at e
  refine hg_run 2 (pc' := 45) (ls' := [some (vr 15), some (vi l1), some (vr l2), some (vi l3), z4, z5, z6, z7, z8]) (st' := [vR 15, vR 15]) rfl ?_
  refine gs_15_3 rfl A ?_
  refine hg_run 2 (pc' := 50) (ls' := [some (vr 15), some (vi l1), some (vr l2), some (vi l3), z4, z5, z6, z7, z8]) (st' := [vI (wadd (hI h 15 3) 1), vR 15]) rfl ?_
  obtain ⟨h3, e3, e⟩ := ob e
  refine ps_15_3 rfl A (rg_add _ _) e3 (fun w3 A3 => ?_)
  refine hg_run 1 (pc' := 54) (ls' := [some (vr 15), some (vi l1), some (vr l2), some (vi l3), z4, z5, z6, z7, z8]) (st' := [vR 15]) rfl ?_
  refine gs_15_3 rfl A3 ?_
  refine hg_run 2 (pc' := 60) (ls' := [some (vr 15), some (vi l1), some (vr l2), some (vi l3), some (vi (hI h3 15 3)), z5, z6, z7, z8]) (st' := [vR 15]) rfl ?_
  obtain ⟨v4, e4, e⟩ := ob e
  refine hg_cI (as := [vR 15]) (st' := []) rfl (fun _ _ _ _ => rfl) rfl rfl (Nat.le_of_ble_eq_true rfl) (Nat.le_of_ble_eq_true rfl) (recvV A3 (a := 2) (Abs_ks A3 (i := 7) rfl).1) (t45 (by omega) A3  e4) (fun w4 r4 A4 => ?_)
  refine hg_run 3 (pc' := 68) (ls' := [some (vr 15), some (vi l1), some (vr l2), some (vi l3), some (vi (hI h3 15 3)), some (vi v4.1), z6, z7, z8]) (st' := [vI (-1), vI v4.1]) rfl ?_
  rcases oi e with ⟨q5, e⟩ | ⟨q5, e⟩
  · refine hg_icF (tgt := 73) rfl (by decide) r4 (rgn (-1) rfl) (show ¬ ¬ (v4.1 = (-1)) from fun f => f q5) ?_
    refine hg_run 1 (pc' := 72) (ls' := [some (vr 15), some (vi l1), some (vr l2), some (vi l3), some (vi (hI h3 15 3)), some (vi v4.1), z6, z7, z8]) (st' := [vI 0]) rfl ?_
    cases e
    exact hg_retI rfl (by decide) (fit_B (.inl rfl)) (kr _ _ rfl _ (rgn 0 rfl) A4)
  · refine hg_icT (tgt := 73) rfl (by decide) r4 (rgn (-1) rfl) (show ¬ (v4.1 = (-1)) from q5) ?_
    refine hg_run 1 (pc' := 74) (ls' := [some (vr 15), some (vi l1), some (vr l2), some (vi l3), some (vi (hI h3 15 3)), some (vi v4.1), z6, z7, z8]) (st' := [vR l2]) rfl ?_
    obtain ⟨b6, e6, e⟩ := ob e
    rcases oi e with ⟨q6, e⟩ | ⟨q6, e⟩
    · refine hg_nul (yes := false) (tgt := 81) (t2 := 77) rfl (fun _ _ _ _ => rfl) (by decide) (ebT e6 q6) rfl ?_
      refine hg_run 2 (pc' := 88) (ls' := [some (vr 15), some (vi l1), some (vr l2), some (vi l3), some (vi (hI h3 15 3)), some (vi v4.1), z6, z7, z8]) (st' := [vI 0]) rfl ?_
      exact t59_j88 hd (rgn 0 rfl) rl1 rl3 (Abs_rg A3 15 3) r4 A4 e kr
    · refine hg_nul (yes := false) (tgt := 81) (t2 := 81) rfl (fun _ _ _ _ => rfl) (by decide) (ebF e6 q6) rfl ?_
      refine hg_run 3 (pc' := 85) (ls' := [some (vr 15), some (vi l1), some (vr l2), some (vi l3), some (vi (hI h3 15 3)), some (vi v4.1), z6, z7, z8]) (st' := [vI v4.1, vI l3, vR l2]) rfl ?_
      obtain ⟨u8, e8, e⟩ := ob e
      obtain ⟨v7, e7, e⟩ := ob e
      refine hg_cIp (as := [vR l2, vI l3, vI v4.1]) (st' := []) rfl (fun _ _ _ _ => rfl) rfl rfl (Nat.le_of_ble_eq_true rfl) (Nat.le_of_ble_eq_true rfl) (recvV A4 (a := 11) (kT_e e8)) (t60 (by omega) A4 rl3 r4 e7) (fun r7 => ?_)
      exact t59_j88 hd r7 rl1 rl3 (Abs_rg A3 15 3) r4 A4 e kr
def c59 (l1 : Int) (l2 : Nat) (h : hS) : Option (Int × hS) :=
  (c39  h).bind (fun v1 =>
  if v1 = 202 then
  c59_j43 l1 l2 v1 h
  else
  if v1 = 203 then
  c59_j43 l1 l2 v1 h
  else
  if v1 = 204 then
  c59_j43 l1 l2 v1 h
  else
  if v1 = 205 then
  c59_j43 l1 l2 v1 h
  else
  (c46 1 (hI h 15 3) h).bind (fun v34 =>
  (kB v34.1).bind (fun u35 =>
  some (v34.1, v34.2))))
set_option maxRecDepth 100000 in
theorem t59 {d : Nat} (hd : 245 ≤ d) {l1 : Int} {l2 : Nat} {h : hS} {w : mmW} {o : Int × hS} (A : Abs h w) (rl1 : rg l1) (e : c59 l1 l2 h = some o) : hEv d 59 [vR 15, vI l1, vR l2] w (qI o) := by
  obtain ⟨d, rfl⟩ : ∃ d1, d = d1 + 1 := ⟨d - 1, by omega⟩
  have hd : 244 ≤ d := by omega
  refine hEv_start (args := [vr 15, vi l1, vr l2]) (nl := 9) rfl (Nat.le_of_ble_eq_true rfl) ?_
  show hG d 59 0 [some (vr 15), some (vi l1), some (vr l2), none, none, none, none, none, none] [] w _
  have kr : ∀ (v1 : Int) (h1 : hS), o = (v1, h1) → ∀ w', rg v1 → Abs h1 w' → qI o (some (.int (Int32.ofInt v1)), w') := fun v1 h1 q w' r A' => by cases q; exact ⟨rfl, r, A'⟩
  unfold c59 at e
  refine hg_run 1 (pc' := 1) (ls' := [some (vr 15), some (vi l1), some (vr l2), none, none, none, none, none, none]) (st' := [vR 15]) rfl ?_
  obtain ⟨v1, e1, e⟩ := ob e
  refine hg_cIp (as := [vR 15]) (st' := []) rfl (fun _ _ _ _ => rfl) rfl rfl (Nat.le_of_ble_eq_true rfl) (Nat.le_of_ble_eq_true rfl) (recvV A (a := 2) (Abs_ks A (i := 7) rfl).1) (t39 (by omega) A  e1) (fun r1 => ?_)
  refine hg_run 3 (pc' := 9) (ls' := [some (vr 15), some (vi l1), some (vr l2), some (vi v1), none, none, none, none, none]) (st' := [vI 202, vI v1]) rfl ?_
  rcases oi e with ⟨q2, e⟩ | ⟨q2, e⟩
  · refine hg_icT (tgt := 43) rfl (by decide) r1 (rgn 202 rfl) q2 ?_
    exact t59_j43 hd rl1 r1 A e kr
  · refine hg_icF (tgt := 43) rfl (by decide) r1 (rgn 202 rfl) q2 ?_
    refine hg_run 2 (pc' := 16) (ls' := [some (vr 15), some (vi l1), some (vr l2), some (vi v1), none, none, none, none, none]) (st' := [vI 203, vI v1]) rfl ?_
    rcases oi e with ⟨q31, e⟩ | ⟨q31, e⟩
    · refine hg_icT (tgt := 43) rfl (by decide) r1 (rgn 203 rfl) q31 ?_
      exact t59_j43 hd rl1 r1 A e kr
    · refine hg_icF (tgt := 43) rfl (by decide) r1 (rgn 203 rfl) q31 ?_
      refine hg_run 2 (pc' := 23) (ls' := [some (vr 15), some (vi l1), some (vr l2), some (vi v1), none, none, none, none, none]) (st' := [vI 204, vI v1]) rfl ?_
      rcases oi e with ⟨q32, e⟩ | ⟨q32, e⟩
      · refine hg_icT (tgt := 43) rfl (by decide) r1 (rgn 204 rfl) q32 ?_
        exact t59_j43 hd rl1 r1 A e kr
      · refine hg_icF (tgt := 43) rfl (by decide) r1 (rgn 204 rfl) q32 ?_
        refine hg_run 2 (pc' := 30) (ls' := [some (vr 15), some (vi l1), some (vr l2), some (vi v1), none, none, none, none, none]) (st' := [vI 205, vI v1]) rfl ?_
        rcases oi e with ⟨q33, e⟩ | ⟨q33, e⟩
        · refine hg_icT (tgt := 43) rfl (by decide) r1 (rgn 205 rfl) q33 ?_
          exact t59_j43 hd rl1 r1 A e kr
        · refine hg_icF (tgt := 43) rfl (by decide) r1 (rgn 205 rfl) q33 ?_
          refine hg_run 3 (pc' := 36) (ls' := [some (vr 15), some (vi l1), some (vr l2), some (vi v1), none, none, none, none, none]) (st' := [vR 15, vI 1, vR 15]) rfl ?_
          refine gs_15_3 rfl A ?_
          obtain ⟨v34, e34, e⟩ := ob e
          refine hg_cI (as := [vR 15, vI 1, vI (hI h 15 3)]) (st' := []) rfl (fun _ _ _ _ => rfl) rfl rfl (Nat.le_of_ble_eq_true rfl) (Nat.le_of_ble_eq_true rfl) (recvV A (a := 2) (Abs_ks A (i := 7) rfl).1) (t46 (by omega) A (rgn 1 rfl) (Abs_rg A 15 3) e34) (fun w34 r34 A34 => ?_)
          obtain ⟨u35, e35, e⟩ := ob e
          cases e
          exact hg_retI rfl (by decide) (fit_B (kB_e e35)) (kr _ _ rfl _ r34 A34)
def c44_b219 (l2 : Int) (l5 : Nat) (l6 : Int) (h : hS) : Option ((Int × hS) ⊕ ((hS) ⊕ (Int × hS))) :=
  if 1000 ≤ l6 then
  some (.inr (.inl (h)))
  else
  (c39  h).bind (fun v19 =>
  if v19 = 125 then
  some (.inr (.inl (h)))
  else
  (c59 l2 l5 h).bind (fun v21 =>
  if v21.1 = 0 then
  some (.inr (.inr (0, v21.2)))
  else
  some (.inl ((wadd l6 1), v21.2))))
set_option maxRecDepth 100000 in
theorem t44_b219 {d : Nat} (hd : 245 ≤ d) {l2 : Int} {l5 : Nat} {l6 : Int} {z1 : Option hO} {z3 : Option hO} {z4 : Option hO} {h : hS} {w : mmW} {o : (Int × hS) ⊕ ((hS) ⊕ (Int × hS))} {Q : mmO → Prop} (rl2 : rg l2) (rl6 : rg l6) (A : Abs h w) (e : c44_b219 l2 l5 l6 h = some o) (kb : ∀ (s_0 : Int) (s_1 : hS), o = .inl (s_0, s_1) → ∀ w', rg s_0 → Abs s_1 w' → hG d 44 219 [some (vr 15), z1, some (vi l2), z3, z4, some (vr l5), some (vi s_0)] [] w' Q) (ke : ∀ (x_0 : hS), o = .inr (.inl (x_0)) → ∀ w', ∀ (y6 : Option hO), Abs x_0 w' → hG d 44 254 [some (vr 15), z1, some (vi l2), z3, z4, some (vr l5), y6] [] w' Q) (kr : ∀ (v1 : Int) (h1 : hS), o = .inr (.inr (v1, h1)) → ∀ w', rg v1 → Abs h1 w' → Q (some (.int (Int32.ofInt v1)), w')) : hG d 44 219 [some (vr 15), z1, some (vi l2), z3, z4, some (vr l5), some (vi l6)] [] w Q := by
  unfold c44_b219 at e
  refine hg_run 2 (pc' := 224) (ls' := [some (vr 15), z1, some (vi l2), z3, z4, some (vr l5), some (vi l6)]) (st' := [vI 1000, vI l6]) rfl ?_
  rcases oi e with ⟨q18, e⟩ | ⟨q18, e⟩
  · refine hg_icT (tgt := 254) rfl (by decide) rl6 (rgn 1000 rfl) q18 ?_
    cases e
    exact ke h rfl _ _  A
  · refine hg_icF (tgt := 254) rfl (by decide) rl6 (rgn 1000 rfl) q18 ?_
    refine hg_run 1 (pc' := 228) (ls' := [some (vr 15), z1, some (vi l2), z3, z4, some (vr l5), some (vi l6)]) (st' := [vR 15]) rfl ?_
    obtain ⟨v19, e19, e⟩ := ob e
    refine hg_cIp (as := [vR 15]) (st' := []) rfl (fun _ _ _ _ => rfl) rfl rfl (Nat.le_of_ble_eq_true rfl) (Nat.le_of_ble_eq_true rfl) (recvV A (a := 2) (Abs_ks A (i := 7) rfl).1) (t39 (by omega) A  e19) (fun r19 => ?_)
    refine hg_run 1 (pc' := 233) (ls' := [some (vr 15), z1, some (vi l2), z3, z4, some (vr l5), some (vi l6)]) (st' := [vI 125, vI v19]) rfl ?_
    rcases oi e with ⟨q20, e⟩ | ⟨q20, e⟩
    · refine hg_icT (tgt := 254) rfl (by decide) r19 (rgn 125 rfl) q20 ?_
      cases e
      exact ke h rfl _ _  A
    · refine hg_icF (tgt := 254) rfl (by decide) r19 (rgn 125 rfl) q20 ?_
      refine hg_run 3 (pc' := 240) (ls' := [some (vr 15), z1, some (vi l2), z3, z4, some (vr l5), some (vi l6)]) (st' := [vR l5, vI l2, vR 15]) rfl ?_
      obtain ⟨v21, e21, e⟩ := ob e
      refine hg_cI (as := [vR 15, vI l2, vR l5]) (st' := []) rfl (fun _ _ _ _ => rfl) rfl rfl (Nat.le_of_ble_eq_true rfl) (Nat.le_of_ble_eq_true rfl) (recvV A (a := 2) (Abs_ks A (i := 7) rfl).1) (t59 (by omega) A rl2 e21) (fun w21 r21 A21 => ?_)
      rcases oi e with ⟨q22, e⟩ | ⟨q22, e⟩
      · refine hg_ifF (tgt := 248) rfl (by decide) r21 (show ¬ ¬ (v21.1 = 0) from fun f => f q22) ?_
        refine hg_run 1 (pc' := 247) (ls' := [some (vr 15), z1, some (vi l2), z3, z4, some (vr l5), some (vi l6)]) (st' := [vI 0]) rfl ?_
        cases e
        exact hg_retI rfl (by decide) (fit_B (.inl rfl)) (kr _ _ rfl _ (rgn 0 rfl) A21)
      · refine hg_ifT (tgt := 248) rfl (by decide) r21 (show ¬ (v21.1 = 0) from q22) ?_
        refine hg_run 2 (pc' := 219) (ls' := [some (vr 15), z1, some (vi l2), z3, z4, some (vr l5), some (vi (wadd l6 1))]) (st' := []) rfl ?_
        cases e
        exact kb (wadd l6 1) v21.2 rfl _ (rg_add _ _) A21
set_option maxRecDepth 100000 in
theorem t44_l219 {d : Nat} (hd : 245 ≤ d) {l2 : Int} {l5 : Nat} {z1 : Option hO} {z3 : Option hO} {z4 : Option hO} {Q : mmO → Prop} (rl2 : rg l2) (n : Nat) {l6 : Int}  {h : hS} {w : mmW} {r : (hS) ⊕ (Int × hS)} (rl6 : rg l6) (A : Abs h w) (e : lp (fun s => c44_b219 l2 l5 s.1 s.2) n (l6, h) = some r) (ke : ∀ (x_0 : hS), r = .inl (x_0) → ∀ w', ∀ (y6 : Option hO), Abs x_0 w' → hG d 44 254 [some (vr 15), z1, some (vi l2), z3, z4, some (vr l5), y6] [] w' Q) (kr : ∀ (v1 : Int) (h1 : hS), r = .inr (v1, h1) → ∀ w', rg v1 → Abs h1 w' → Q (some (.int (Int32.ofInt v1)), w')) : hG d 44 219 [some (vr 15), z1, some (vi l2), z3, z4, some (vr l5), some (vi l6)] [] w Q := by
  induction n generalizing l6 h w with
  | zero => cases e
  | succ n ih =>
    rcases lp_succ e with ⟨s1, e1, e2⟩ | e1
    · exact t44_b219 hd rl2 rl6 A e1 (fun s_0 s_1 q w1 rl6 A1 => by cases q; exact ih rl6 A1 e2) (fun x_0 q => by cases q) (fun v0 h0 q => by cases q)
    · exact t44_b219 hd rl2 rl6 A e1 (fun s_0 s_1 q => by cases q) (fun x_0 q => by cases q; exact ke _ rfl) (fun v0 h0 q => by cases q; exact kr _ _ rfl)
def c44_j205 (l2 : Int) (l5 : Nat) (h : hS) : Option (Int × hS) :=
  (c58 123 h).bind (fun v16 =>
  if v16.1 = 0 then
  some (0, v16.2)
  else
  (lp (fun s => c44_b219 l2 l5 s.1 s.2) hF0 (0, v16.2)).bind (fun r23 => xs r23 (fun x23 =>
  (c58 125 x23).bind (fun v24 =>
  (kB v24.1).bind (fun u25 =>
  some (v24.1, v24.2)))) (fun o23 => some o23)))
set_option maxRecDepth 100000 in
theorem t44_j205 {d : Nat} (hd : 245 ≤ d) {l2 : Int} {l5 : Nat} {z1 : Option hO} {z3 : Option hO} {z4 : Option hO} {z6 : Option hO} {h : hS} {w : mmW} {o : Int × hS} {Q : mmO → Prop} (rl2 : rg l2) (A : Abs h w) (e : c44_j205 l2 l5 h = some o) (kr : ∀ (v1 : Int) (h1 : hS), o = (v1, h1) → ∀ w', rg v1 → Abs h1 w' → Q (some (.int (Int32.ofInt v1)), w')) : hG d 44 205 [some (vr 15), z1, some (vi l2), z3, z4, some (vr l5), z6] [] w Q := by
  unfold c44_j205 at e
  refine hg_run 2 (pc' := 208) (ls' := [some (vr 15), z1, some (vi l2), z3, z4, some (vr l5), z6]) (st' := [vI 123, vR 15]) rfl ?_
  obtain ⟨v16, e16, e⟩ := ob e
  refine hg_cI (as := [vR 15, vI 123]) (st' := []) rfl (fun _ _ _ _ => rfl) rfl rfl (Nat.le_of_ble_eq_true rfl) (Nat.le_of_ble_eq_true rfl) (recvV A (a := 2) (Abs_ks A (i := 7) rfl).1) (t58 (by omega) A (rgn 123 rfl) e16) (fun w16 r16 A16 => ?_)
  rcases oi e with ⟨q17, e⟩ | ⟨q17, e⟩
  · refine hg_ifF (tgt := 216) rfl (by decide) r16 (show ¬ ¬ (v16.1 = 0) from fun f => f q17) ?_
    refine hg_run 1 (pc' := 215) (ls' := [some (vr 15), z1, some (vi l2), z3, z4, some (vr l5), z6]) (st' := [vI 0]) rfl ?_
    cases e
    exact hg_retI rfl (by decide) (fit_B (.inl rfl)) (kr _ _ rfl _ (rgn 0 rfl) A16)
  · refine hg_ifT (tgt := 216) rfl (by decide) r16 (show ¬ (v16.1 = 0) from q17) ?_
    refine hg_run 2 (pc' := 219) (ls' := [some (vr 15), z1, some (vi l2), z3, z4, some (vr l5), some (vi 0)]) (st' := []) rfl ?_
    obtain ⟨r23, e23, e⟩ := ob e
    refine t44_l219 hd rl2 _ (rgn 0 rfl) A16 e23 ?_ ?_
    · intro x23_0 qq23 w23 z23_6 A23
      subst qq23
      have e := xs_l e
      refine hg_run 2 (pc' := 257) (ls' := [some (vr 15), z1, some (vi l2), z3, z4, some (vr l5), z23_6]) (st' := [vI 125, vR 15]) rfl ?_
      obtain ⟨v24, e24, e⟩ := ob e
      refine hg_cI (as := [vR 15, vI 125]) (st' := []) rfl (fun _ _ _ _ => rfl) rfl rfl (Nat.le_of_ble_eq_true rfl) (Nat.le_of_ble_eq_true rfl) (recvV A23 (a := 2) (Abs_ks A23 (i := 7) rfl).1) (t58 (by omega) A23 (rgn 125 rfl) e24) (fun w24 r24 A24 => ?_)
      obtain ⟨u25, e25, e⟩ := ob e
      cases e
      exact hg_retI rfl (by decide) (fit_B (kB_e e25)) (kr _ _ rfl _ r24 A24)
    · intro v23 h23 qq23 w23 r23 A23
      subst qq23
      have e := xs_r e
      cases e
      exact kr _ _ rfl w23 r23 A23
def c44_j142 (l2 : Int) (l3 : Int) (h : hS) : Option (Int × hS) :=
  (some (mkH h 22 6)).bind (fun h8 =>
  (k8 (hN h)).bind (fun u10 =>
  (c48 (hN h) 200 (hI h8 15 9) l2 (-1) l3 0 h8).bind (fun h9 =>
  (hnul (hR h9 15 11)).bind (fun b11 =>
  if b11 = true then
  (kT h9 (hR h9 15 12) 8).bind (fun u27 =>
  (c49 (hR h9 15 12) (hN h) h9).bind (fun v26 =>
  c44_j205 l2 0 v26.2))
  else
  (kT h9 (hR h9 15 11) 18).bind (fun u13 =>
  (c56 (hR h9 15 11) (hN h) h9).bind (fun v12 =>
  (kT v12.2 (hR v12.2 15 11) 18).bind (fun u15 =>
  (c47 (hR v12.2 15 11) l2 v12.2).bind (fun v14 =>
  c44_j205 l2 v14 v12.2))))))))
set_option maxRecDepth 100000 in
theorem t44_j142 {d : Nat} (hd : 245 ≤ d) {l2 : Int} {l3 : Int} {z1 : Option hO} {z4 : Option hO} {z5 : Option hO} {z6 : Option hO} {h : hS} {w : mmW} {o : Int × hS} {Q : mmO → Prop} (rl2 : rg l2) (rl3 : rg l3) (A : Abs h w) (e : c44_j142 l2 l3 h = some o) (kr : ∀ (v1 : Int) (h1 : hS), o = (v1, h1) → ∀ w', rg v1 → Abs h1 w' → Q (some (.int (Int32.ofInt v1)), w')) : hG d 44 142 [some (vr 15), z1, some (vi l2), some (vi l3), z4, z5, z6] [] w Q := by
  unfold c44_j142 at e
  obtain ⟨h8, e8, e⟩ := ob e
  refine hg_new (a := 10) rfl A (by decide +kernel) (by decide) e8 (fun w8 A8 => ?_)
  refine hg_run 3 (pc' := 150) (ls' := [some (vr 15), z1, some (vi l2), some (vi l3), z4, z5, z6]) (st' := [vR 15, vI 200, vR (hN h), vR (hN h)]) rfl ?_
  refine gs_15_9 rfl A8 ?_
  refine hg_run 4 (pc' := 157) (ls' := [some (vr 15), z1, some (vi l2), some (vi l3), z4, z5, z6]) (st' := [vR 0, vI l3, vI (-1), vI l2, vI (hI h8 15 9), vI 200, vR (hN h), vR (hN h)]) rfl ?_
  obtain ⟨u10, e10, e⟩ := ob e
  obtain ⟨h9, e9, e⟩ := ob e
  refine hg_cV (as := [vR (hN h), vI 200, vI (hI h8 15 9), vI l2, vI (-1), vI l3, vR 0]) (st' := [vR (hN h)]) rfl (fun _ _ _ _ => rfl) rfl rfl (Nat.le_of_ble_eq_true rfl) (Nat.le_of_ble_eq_true rfl) (recv1 (k8_e e10)) (t48 (by omega) A8 (rgn 200 rfl) (Abs_rg A8 15 9) rl2 (rgn (-1) rfl) rl3 e9) (fun w9 A9 => ?_)
  refine hg_run 4 (pc' := 166) (ls' := [some (vr 15), z1, some (vi l2), some (vi l3), some (vr (hN h)), some (vr 0), z6]) (st' := [vR 15]) rfl ?_
  refine gs_15_11 rfl A9 ?_
  obtain ⟨b11, e11, e⟩ := ob e
  rcases oi e with ⟨q11, e⟩ | ⟨q11, e⟩
  · refine hg_nul (yes := false) (tgt := 185) (t2 := 172) rfl (fun _ _ _ _ => rfl) (by decide) (ebT e11 q11) rfl ?_
    refine hg_run 1 (pc' := 173) (ls' := [some (vr 15), z1, some (vi l2), some (vi l3), some (vr (hN h)), some (vr 0), z6]) (st' := [vR 15]) rfl ?_
    refine gs_15_12 rfl A9 ?_
    refine hg_run 1 (pc' := 178) (ls' := [some (vr 15), z1, some (vi l2), some (vi l3), some (vr (hN h)), some (vr 0), z6]) (st' := [vR (hN h), vR (hR h9 15 12)]) rfl ?_
    obtain ⟨u27, e27, e⟩ := ob e
    obtain ⟨v26, e26, e⟩ := ob e
    refine hg_cI (as := [vR (hR h9 15 12), vR (hN h)]) (st' := []) rfl (fun _ _ _ _ => rfl) rfl rfl (Nat.le_of_ble_eq_true rfl) (Nat.le_of_ble_eq_true rfl) (recvV A9 (a := 3) (kT_e e27)) (t49 (by omega) A9  e26) (fun w26 r26 A26 => ?_)
    refine hg_run 2 (pc' := 205) (ls' := [some (vr 15), z1, some (vi l2), some (vi l3), some (vr (hN h)), some (vr 0), z6]) (st' := []) rfl ?_
    exact t44_j205 hd rl2 A26 e kr
  · refine hg_nul (yes := false) (tgt := 185) (t2 := 185) rfl (fun _ _ _ _ => rfl) (by decide) (ebF e11 q11) rfl ?_
    refine hg_run 1 (pc' := 186) (ls' := [some (vr 15), z1, some (vi l2), some (vi l3), some (vr (hN h)), some (vr 0), z6]) (st' := [vR 15]) rfl ?_
    refine gs_15_11 rfl A9 ?_
    refine hg_run 1 (pc' := 191) (ls' := [some (vr 15), z1, some (vi l2), some (vi l3), some (vr (hN h)), some (vr 0), z6]) (st' := [vR (hN h), vR (hR h9 15 11)]) rfl ?_
    obtain ⟨u13, e13, e⟩ := ob e
    obtain ⟨v12, e12, e⟩ := ob e
    refine hg_cI (as := [vR (hR h9 15 11), vR (hN h)]) (st' := []) rfl (fun _ _ _ _ => rfl) rfl rfl (Nat.le_of_ble_eq_true rfl) (Nat.le_of_ble_eq_true rfl) (recvV A9 (a := 8) (kT_e e13)) (t56 (by omega) A9  e12) (fun w12 r12 A12 => ?_)
    refine hg_run 2 (pc' := 196) (ls' := [some (vr 15), z1, some (vi l2), some (vi l3), some (vr (hN h)), some (vr 0), z6]) (st' := [vR 15]) rfl ?_
    refine gs_15_11 rfl A12 ?_
    refine hg_run 1 (pc' := 200) (ls' := [some (vr 15), z1, some (vi l2), some (vi l3), some (vr (hN h)), some (vr 0), z6]) (st' := [vI l2, vR (hR v12.2 15 11)]) rfl ?_
    obtain ⟨u15, e15, e⟩ := ob e
    obtain ⟨v14, e14, e⟩ := ob e
    refine hg_cRp (as := [vR (hR v12.2 15 11), vI l2]) (st' := []) rfl (fun _ _ _ _ => rfl) rfl rfl (Nat.le_of_ble_eq_true rfl) (Nat.le_of_ble_eq_true rfl) (recvV A12 (a := 8) (kT_e e15)) (t47 (by omega) A12 rl2 e14) ?_
    refine hg_run 1 (pc' := 205) (ls' := [some (vr 15), z1, some (vi l2), some (vi l3), some (vr (hN h)), some (vr v14), z6]) (st' := []) rfl ?_
    exact t44_j205 hd rl2 A12 e kr
def c44_j78 (l2 : Int) (h : hS) : Option (Int × hS) :=
  (c39  h).bind (fun v6 =>
  if v6 = 201 then
  (some (sI h 15 3 (wadd (hI h 15 3) 1))).bind (fun h28 =>
  (c45  h28).bind (fun v29 =>
  if v29.1 = (-1) then
  some (0, v29.2)
  else
  (hnul (hR v29.2 15 11)).bind (fun b31 =>
  if b31 = true then
  c44_j142 l2 v29.1 v29.2
  else
  (kT v29.2 (hR v29.2 15 11) 18).bind (fun u33 =>
  (c47 (hR v29.2 15 11) v29.1 v29.2).bind (fun v32 =>
  (hnul v32).bind (fun b34 =>
  if b34 = true then
  (c46 4 (hI h28 15 3) v29.2).bind (fun v35 =>
  (kB v35.1).bind (fun u36 =>
  some (v35.1, v35.2)))
  else
  c44_j142 l2 v29.1 v29.2))))))
  else
  c44_j142 l2 (-1) h)
set_option maxRecDepth 100000 in
theorem t44_j78 {d : Nat} (hd : 245 ≤ d) {l2 : Int} {z1 : Option hO} {z3 : Option hO} {z4 : Option hO} {z5 : Option hO} {z6 : Option hO} {h : hS} {w : mmW} {o : Int × hS} {Q : mmO → Prop} (rl2 : rg l2) (A : Abs h w) (e : c44_j78 l2 h = some o) (kr : ∀ (v1 : Int) (h1 : hS), o = (v1, h1) → ∀ w', rg v1 → Abs h1 w' → Q (some (.int (Int32.ofInt v1)), w')) : hG d 44 78 [some (vr 15), z1, some (vi l2), z3, z4, z5, z6] [] w Q := by
  unfold c44_j78 at e
  refine hg_run 3 (pc' := 81) (ls' := [some (vr 15), z1, some (vi l2), some (vi (-1)), z4, z5, z6]) (st' := [vR 15]) rfl ?_
  obtain ⟨v6, e6, e⟩ := ob e
  refine hg_cIp (as := [vR 15]) (st' := []) rfl (fun _ _ _ _ => rfl) rfl rfl (Nat.le_of_ble_eq_true rfl) (Nat.le_of_ble_eq_true rfl) (recvV A (a := 2) (Abs_ks A (i := 7) rfl).1) (t39 (by omega) A  e6) (fun r6 => ?_)
  refine hg_run 1 (pc' := 87) (ls' := [some (vr 15), z1, some (vi l2), some (vi (-1)), z4, z5, z6]) (st' := [vI 201, vI v6]) rfl ?_
  rcases oi e with ⟨q7, e⟩ | ⟨q7, e⟩
  · refine hg_icF (tgt := 142) rfl (by decide) r6 (rgn 201 rfl) (show ¬ ¬ (v6 = 201) from fun f => f q7) ?_
    refine hg_run 2 (pc' := 92) (ls' := [some (vr 15), z1, some (vi l2), some (vi (-1)), z4, z5, z6]) (st' := [vR 15, vR 15]) rfl ?_
    refine gs_15_3 rfl A ?_
    refine hg_run 2 (pc' := 97) (ls' := [some (vr 15), z1, some (vi l2), some (vi (-1)), z4, z5, z6]) (st' := [vI (wadd (hI h 15 3) 1), vR 15]) rfl ?_
    obtain ⟨h28, e28, e⟩ := ob e
    refine ps_15_3 rfl A (rg_add _ _) e28 (fun w28 A28 => ?_)
    refine hg_run 1 (pc' := 101) (ls' := [some (vr 15), z1, some (vi l2), some (vi (-1)), z4, z5, z6]) (st' := [vR 15]) rfl ?_
    refine gs_15_3 rfl A28 ?_
    refine hg_run 2 (pc' := 106) (ls' := [some (vr 15), some (vi (hI h28 15 3)), some (vi l2), some (vi (-1)), z4, z5, z6]) (st' := [vR 15]) rfl ?_
    obtain ⟨v29, e29, e⟩ := ob e
    refine hg_cI (as := [vR 15]) (st' := []) rfl (fun _ _ _ _ => rfl) rfl rfl (Nat.le_of_ble_eq_true rfl) (Nat.le_of_ble_eq_true rfl) (recvV A28 (a := 2) (Abs_ks A28 (i := 7) rfl).1) (t45 (by omega) A28  e29) (fun w29 r29 A29 => ?_)
    refine hg_run 3 (pc' := 112) (ls' := [some (vr 15), some (vi (hI h28 15 3)), some (vi l2), some (vi v29.1), z4, z5, z6]) (st' := [vI (-1), vI v29.1]) rfl ?_
    rcases oi e with ⟨q30, e⟩ | ⟨q30, e⟩
    · refine hg_icF (tgt := 117) rfl (by decide) r29 (rgn (-1) rfl) (show ¬ ¬ (v29.1 = (-1)) from fun f => f q30) ?_
      refine hg_run 1 (pc' := 116) (ls' := [some (vr 15), some (vi (hI h28 15 3)), some (vi l2), some (vi v29.1), z4, z5, z6]) (st' := [vI 0]) rfl ?_
      cases e
      exact hg_retI rfl (by decide) (fit_B (.inl rfl)) (kr _ _ rfl _ (rgn 0 rfl) A29)
    · refine hg_icT (tgt := 117) rfl (by decide) r29 (rgn (-1) rfl) (show ¬ (v29.1 = (-1)) from q30) ?_
      refine hg_run 1 (pc' := 118) (ls' := [some (vr 15), some (vi (hI h28 15 3)), some (vi l2), some (vi v29.1), z4, z5, z6]) (st' := [vR 15]) rfl ?_
      refine gs_15_11 rfl A29 ?_
      obtain ⟨b31, e31, e⟩ := ob e
      rcases oi e with ⟨q31, e⟩ | ⟨q31, e⟩
      · refine hg_nul (yes := true) (tgt := 142) (t2 := 142) rfl (fun _ _ _ _ => rfl) (by decide) (ebT e31 q31) rfl ?_
        exact t44_j142 hd rl2 r29 A29 e kr
      · refine hg_nul (yes := true) (tgt := 142) (t2 := 124) rfl (fun _ _ _ _ => rfl) (by decide) (ebF e31 q31) rfl ?_
        refine hg_run 1 (pc' := 125) (ls' := [some (vr 15), some (vi (hI h28 15 3)), some (vi l2), some (vi v29.1), z4, z5, z6]) (st' := [vR 15]) rfl ?_
        refine gs_15_11 rfl A29 ?_
        refine hg_run 1 (pc' := 129) (ls' := [some (vr 15), some (vi (hI h28 15 3)), some (vi l2), some (vi v29.1), z4, z5, z6]) (st' := [vI v29.1, vR (hR v29.2 15 11)]) rfl ?_
        obtain ⟨u33, e33, e⟩ := ob e
        obtain ⟨v32, e32, e⟩ := ob e
        refine hg_cRp (as := [vR (hR v29.2 15 11), vI v29.1]) (st' := []) rfl (fun _ _ _ _ => rfl) rfl rfl (Nat.le_of_ble_eq_true rfl) (Nat.le_of_ble_eq_true rfl) (recvV A29 (a := 8) (kT_e e33)) (t47 (by omega) A29 r29 e32) ?_
        obtain ⟨b34, e34, e⟩ := ob e
        rcases oi e with ⟨q34, e⟩ | ⟨q34, e⟩
        · refine hg_nul (yes := false) (tgt := 142) (t2 := 135) rfl (fun _ _ _ _ => rfl) (by decide) (ebT e34 q34) rfl ?_
          refine hg_run 3 (pc' := 138) (ls' := [some (vr 15), some (vi (hI h28 15 3)), some (vi l2), some (vi v29.1), z4, z5, z6]) (st' := [vI (hI h28 15 3), vI 4, vR 15]) rfl ?_
          obtain ⟨v35, e35, e⟩ := ob e
          refine hg_cI (as := [vR 15, vI 4, vI (hI h28 15 3)]) (st' := []) rfl (fun _ _ _ _ => rfl) rfl rfl (Nat.le_of_ble_eq_true rfl) (Nat.le_of_ble_eq_true rfl) (recvV A29 (a := 2) (Abs_ks A29 (i := 7) rfl).1) (t46 (by omega) A29 (rgn 4 rfl) (Abs_rg A28 15 3) e35) (fun w35 r35 A35 => ?_)
          obtain ⟨u36, e36, e⟩ := ob e
          cases e
          exact hg_retI rfl (by decide) (fit_B (kB_e e36)) (kr _ _ rfl _ r35 A35)
        · refine hg_nul (yes := false) (tgt := 142) (t2 := 142) rfl (fun _ _ _ _ => rfl) (by decide) (ebF e34 q34) rfl ?_
          exact t44_j142 hd rl2 r29 A29 e kr
  · refine hg_icT (tgt := 142) rfl (by decide) r6 (rgn 201 rfl) (show ¬ (v6 = 201) from q7) ?_
    exact t44_j142 hd rl2 (rgn (-1) rfl) A e kr
def c44_j52 (l1 : Int) (l2 : Int) (h : hS) : Option (Int × hS) :=
  (hnul (hR h 15 11)).bind (fun b5 =>
  if b5 = true then
  c44_j78 l2 h
  else
  (gI h (hR h 15 11) 18 1).bind (fun v37 =>
  if v37 < 12 then
  c44_j78 l2 h
  else
  (c46 5 l1 h).bind (fun v39 =>
  (kB v39.1).bind (fun u40 =>
  some (v39.1, v39.2)))))
set_option maxRecDepth 100000 in
theorem t44_j52 {d : Nat} (hd : 245 ≤ d) {l1 : Int} {l2 : Int} {z3 : Option hO} {z4 : Option hO} {z5 : Option hO} {z6 : Option hO} {h : hS} {w : mmW} {o : Int × hS} {Q : mmO → Prop} (rl1 : rg l1) (rl2 : rg l2) (A : Abs h w) (e : c44_j52 l1 l2 h = some o) (kr : ∀ (v1 : Int) (h1 : hS), o = (v1, h1) → ∀ w', rg v1 → Abs h1 w' → Q (some (.int (Int32.ofInt v1)), w')) : hG d 44 52 [some (vr 15), some (vi l1), some (vi l2), z3, z4, z5, z6] [] w Q := by
  unfold c44_j52 at e
  refine hg_run 1 (pc' := 53) (ls' := [some (vr 15), some (vi l1), some (vi l2), z3, z4, z5, z6]) (st' := [vR 15]) rfl ?_
  refine gs_15_11 rfl A ?_
  obtain ⟨b5, e5, e⟩ := ob e
  rcases oi e with ⟨q5, e⟩ | ⟨q5, e⟩
  · refine hg_nul (yes := true) (tgt := 78) (t2 := 78) rfl (fun _ _ _ _ => rfl) (by decide) (ebT e5 q5) rfl ?_
    exact t44_j78 hd rl2 A e kr
  · refine hg_nul (yes := true) (tgt := 78) (t2 := 59) rfl (fun _ _ _ _ => rfl) (by decide) (ebF e5 q5) rfl ?_
    refine hg_run 1 (pc' := 60) (ls' := [some (vr 15), some (vi l1), some (vi l2), z3, z4, z5, z6]) (st' := [vR 15]) rfl ?_
    refine gs_15_11 rfl A ?_
    obtain ⟨v37, e37, e⟩ := ob e
    refine gd_8_1 rfl A e37 (fun r37 => ?_)
    refine hg_run 1 (pc' := 68) (ls' := [some (vr 15), some (vi l1), some (vi l2), z3, z4, z5, z6]) (st' := [vI 12, vI v37]) rfl ?_
    rcases oi e with ⟨q38, e⟩ | ⟨q38, e⟩
    · refine hg_icT (tgt := 78) rfl (by decide) r37 (rgn 12 rfl) q38 ?_
      exact t44_j78 hd rl2 A e kr
    · refine hg_icF (tgt := 78) rfl (by decide) r37 (rgn 12 rfl) q38 ?_
      refine hg_run 3 (pc' := 74) (ls' := [some (vr 15), some (vi l1), some (vi l2), z3, z4, z5, z6]) (st' := [vI l1, vI 5, vR 15]) rfl ?_
      obtain ⟨v39, e39, e⟩ := ob e
      refine hg_cI (as := [vR 15, vI 5, vI l1]) (st' := []) rfl (fun _ _ _ _ => rfl) rfl rfl (Nat.le_of_ble_eq_true rfl) (Nat.le_of_ble_eq_true rfl) (recvV A (a := 2) (Abs_ks A (i := 7) rfl).1) (t46 (by omega) A (rgn 5 rfl) rl1 e39) (fun w39 r39 A39 => ?_)
      obtain ⟨u40, e40, e⟩ := ob e
      cases e
      exact hg_retI rfl (by decide) (fit_B (kB_e e40)) (kr _ _ rfl _ r39 A39)
def c44 (h : hS) : Option (Int × hS) :=
  (some (sI h 15 3 (wadd (hI h 15 3) 1))).bind (fun h1 =>
  (c45  h1).bind (fun v2 =>
  if v2.1 = (-1) then
  some (0, v2.2)
  else
  (hnul (hR v2.2 15 11)).bind (fun b4 =>
  if b4 = true then
  c44_j52 (hI h1 15 3) v2.1 v2.2
  else
  (kT v2.2 (hR v2.2 15 11) 18).bind (fun u42 =>
  (c47 (hR v2.2 15 11) v2.1 v2.2).bind (fun v41 =>
  (hnul v41).bind (fun b43 =>
  if b43 = true then
  c44_j52 (hI h1 15 3) v2.1 v2.2
  else
  (c46 4 (hI h1 15 3) v2.2).bind (fun v44 =>
  (kB v44.1).bind (fun u45 =>
  some (v44.1, v44.2)))))))))
set_option maxRecDepth 100000 in
theorem t44 {d : Nat} (hd : 246 ≤ d)  {h : hS} {w : mmW} {o : Int × hS} (A : Abs h w)  (e : c44 h = some o) : hEv d 44 [vR 15] w (qI o) := by
  obtain ⟨d, rfl⟩ : ∃ d1, d = d1 + 1 := ⟨d - 1, by omega⟩
  have hd : 245 ≤ d := by omega
  refine hEv_start (args := [vr 15]) (nl := 7) rfl (Nat.le_of_ble_eq_true rfl) ?_
  show hG d 44 0 [some (vr 15), none, none, none, none, none, none] [] w _
  have kr : ∀ (v1 : Int) (h1 : hS), o = (v1, h1) → ∀ w', rg v1 → Abs h1 w' → qI o (some (.int (Int32.ofInt v1)), w') := fun v1 h1 q w' r A' => by cases q; exact ⟨rfl, r, A'⟩
  unfold c44 at e
  refine hg_run 2 (pc' := 2) (ls' := [some (vr 15), none, none, none, none, none, none]) (st' := [vR 15, vR 15]) rfl ?_
  refine gs_15_3 rfl A ?_
  refine hg_run 2 (pc' := 7) (ls' := [some (vr 15), none, none, none, none, none, none]) (st' := [vI (wadd (hI h 15 3) 1), vR 15]) rfl ?_
  obtain ⟨h1, e1, e⟩ := ob e
  refine ps_15_3 rfl A (rg_add _ _) e1 (fun w1 A1 => ?_)
  refine hg_run 1 (pc' := 11) (ls' := [some (vr 15), none, none, none, none, none, none]) (st' := [vR 15]) rfl ?_
  refine gs_15_3 rfl A1 ?_
  refine hg_run 2 (pc' := 16) (ls' := [some (vr 15), some (vi (hI h1 15 3)), none, none, none, none, none]) (st' := [vR 15]) rfl ?_
  obtain ⟨v2, e2, e⟩ := ob e
  refine hg_cI (as := [vR 15]) (st' := []) rfl (fun _ _ _ _ => rfl) rfl rfl (Nat.le_of_ble_eq_true rfl) (Nat.le_of_ble_eq_true rfl) (recvV A1 (a := 2) (Abs_ks A1 (i := 7) rfl).1) (t45 (by omega) A1  e2) (fun w2 r2 A2 => ?_)
  refine hg_run 3 (pc' := 22) (ls' := [some (vr 15), some (vi (hI h1 15 3)), some (vi v2.1), none, none, none, none]) (st' := [vI (-1), vI v2.1]) rfl ?_
  rcases oi e with ⟨q3, e⟩ | ⟨q3, e⟩
  · refine hg_icF (tgt := 27) rfl (by decide) r2 (rgn (-1) rfl) (show ¬ ¬ (v2.1 = (-1)) from fun f => f q3) ?_
    refine hg_run 1 (pc' := 26) (ls' := [some (vr 15), some (vi (hI h1 15 3)), some (vi v2.1), none, none, none, none]) (st' := [vI 0]) rfl ?_
    cases e
    exact hg_retI rfl (by decide) (fit_B (.inl rfl)) (kr _ _ rfl _ (rgn 0 rfl) A2)
  · refine hg_icT (tgt := 27) rfl (by decide) r2 (rgn (-1) rfl) (show ¬ (v2.1 = (-1)) from q3) ?_
    refine hg_run 1 (pc' := 28) (ls' := [some (vr 15), some (vi (hI h1 15 3)), some (vi v2.1), none, none, none, none]) (st' := [vR 15]) rfl ?_
    refine gs_15_11 rfl A2 ?_
    obtain ⟨b4, e4, e⟩ := ob e
    rcases oi e with ⟨q4, e⟩ | ⟨q4, e⟩
    · refine hg_nul (yes := true) (tgt := 52) (t2 := 52) rfl (fun _ _ _ _ => rfl) (by decide) (ebT e4 q4) rfl ?_
      exact t44_j52 hd (Abs_rg A1 15 3) r2 A2 e kr
    · refine hg_nul (yes := true) (tgt := 52) (t2 := 34) rfl (fun _ _ _ _ => rfl) (by decide) (ebF e4 q4) rfl ?_
      refine hg_run 1 (pc' := 35) (ls' := [some (vr 15), some (vi (hI h1 15 3)), some (vi v2.1), none, none, none, none]) (st' := [vR 15]) rfl ?_
      refine gs_15_11 rfl A2 ?_
      refine hg_run 1 (pc' := 39) (ls' := [some (vr 15), some (vi (hI h1 15 3)), some (vi v2.1), none, none, none, none]) (st' := [vI v2.1, vR (hR v2.2 15 11)]) rfl ?_
      obtain ⟨u42, e42, e⟩ := ob e
      obtain ⟨v41, e41, e⟩ := ob e
      refine hg_cRp (as := [vR (hR v2.2 15 11), vI v2.1]) (st' := []) rfl (fun _ _ _ _ => rfl) rfl rfl (Nat.le_of_ble_eq_true rfl) (Nat.le_of_ble_eq_true rfl) (recvV A2 (a := 8) (kT_e e42)) (t47 (by omega) A2 r2 e41) ?_
      obtain ⟨b43, e43, e⟩ := ob e
      rcases oi e with ⟨q43, e⟩ | ⟨q43, e⟩
      · refine hg_nul (yes := true) (tgt := 52) (t2 := 52) rfl (fun _ _ _ _ => rfl) (by decide) (ebT e43 q43) rfl ?_
        exact t44_j52 hd (Abs_rg A1 15 3) r2 A2 e kr
      · refine hg_nul (yes := true) (tgt := 52) (t2 := 45) rfl (fun _ _ _ _ => rfl) (by decide) (ebF e43 q43) rfl ?_
        refine hg_run 3 (pc' := 48) (ls' := [some (vr 15), some (vi (hI h1 15 3)), some (vi v2.1), none, none, none, none]) (st' := [vI (hI h1 15 3), vI 4, vR 15]) rfl ?_
        obtain ⟨v44, e44, e⟩ := ob e
        refine hg_cI (as := [vR 15, vI 4, vI (hI h1 15 3)]) (st' := []) rfl (fun _ _ _ _ => rfl) rfl rfl (Nat.le_of_ble_eq_true rfl) (Nat.le_of_ble_eq_true rfl) (recvV A2 (a := 2) (Abs_ks A2 (i := 7) rfl).1) (t46 (by omega) A2 (rgn 4 rfl) (Abs_rg A1 15 3) e44) (fun w44 r44 A44 => ?_)
        obtain ⟨u45, e45, e⟩ := ob e
        cases e
        exact hg_retI rfl (by decide) (fit_B (kB_e e45)) (kr _ _ rfl _ r44 A44)
def c86 (h : hS) : Option (Nat × hS) :=
  (some (sI h 15 7 0)).bind (fun h1 =>
  (g67 120 67 [0, 0] h1).bind (fun v2 =>
  if v2.1 = 0 then
  some (0, v2.2)
  else
  (c65 206 v2.2).bind (fun h4 =>
  (c74 17 (hI h4 15 7) h4).bind (fun v5 =>
  some (v5.1, v5.2)))))
theorem t86 {d : Nat} (hd : 124 ≤ d)  {h : hS} {w : mmW} {o : Nat × hS} (A : Abs h w)  (e : c86 h = some o) : hEv d 86 [vR 15] w (qR o) := by
  obtain ⟨d, rfl⟩ : ∃ d1, d = d1 + 1 := ⟨d - 1, by omega⟩
  have hd : 123 ≤ d := by omega
  refine hEv_start (args := [vr 15]) (nl := 1) rfl (Nat.le_of_ble_eq_true rfl) ?_
  show hG d 86 0 [some (vr 15)] [] w _
  have kr : ∀ (v1 : Nat) (h1 : hS), o = (v1, h1) → ∀ w', Abs h1 w' → qR o (some (rv v1), w') := fun v1 h1 q w' A' => by cases q; exact ⟨rfl, A'⟩
  unfold c86 at e
  refine hg_run 2 (pc' := 2) (ls' := [some (vr 15)]) (st' := [vI 0, vR 15]) rfl ?_
  obtain ⟨h1, e1, e⟩ := ob e
  refine ps_15_7 rfl A (rgn 0 rfl) e1 (fun w1 A1 => ?_)
  refine hg_run 3 (pc' := 8) (ls' := [some (vr 15)]) (st' := [vI 0, vI 0, vR 15]) rfl ?_
  obtain ⟨v2, e2, e⟩ := ob e
  refine hg_cI (as := [vR 15, vI 0, vI 0]) (st' := []) rfl (fun _ _ _ _ => rfl) rfl rfl (Nat.le_of_ble_eq_true rfl) (Nat.le_of_ble_eq_true rfl) (recvV A1 (a := 2) (Abs_ks A1 (i := 7) rfl).1) (u67 120 (by omega) 67 _ _ _ _ A1 (rglc (rgn 0 rfl) (rglc (rgn 0 rfl) rgl0)) e2) (fun w2 r2 A2 => ?_)
  rcases oi e with ⟨q3, e⟩ | ⟨q3, e⟩
  · refine hg_ifF (tgt := 16) rfl (by decide) r2 (show ¬ ¬ (v2.1 = 0) from fun f => f q3) ?_
    refine hg_run 1 (pc' := 15) (ls' := [some (vr 15)]) (st' := [vR 0]) rfl ?_
    cases e
    exact hg_retR rfl (kr _ _ rfl _ A2)
  · refine hg_ifT (tgt := 16) rfl (by decide) r2 (show ¬ (v2.1 = 0) from q3) ?_
    refine hg_run 2 (pc' := 20) (ls' := [some (vr 15)]) (st' := [vI 206, vR 15]) rfl ?_
    obtain ⟨h4, e4, e⟩ := ob e
    refine hg_cV (as := [vR 15, vI 206]) (st' := []) rfl (fun _ _ _ _ => rfl) rfl rfl (Nat.le_of_ble_eq_true rfl) (Nat.le_of_ble_eq_true rfl) (recvV A2 (a := 2) (Abs_ks A2 (i := 7) rfl).1) (t65 (by omega) A2 (rgn 206 rfl) e4) (fun w4 A4 => ?_)
    refine hg_run 1 (pc' := 24) (ls' := [some (vr 15)]) (st' := [vR 15]) rfl ?_
    refine gs_15_6 rfl A4 ?_
    refine hg_run 1 (pc' := 28) (ls' := [some (vr 15)]) (st' := [vR 15, vR 17]) rfl ?_
    refine gs_15_7 rfl A4 ?_
    obtain ⟨v5, e5, e⟩ := ob e
    refine hg_cR (as := [vR 17, vI (hI h4 15 7)]) (st' := []) rfl (fun _ _ _ _ => rfl) rfl rfl (Nat.le_of_ble_eq_true rfl) (Nat.le_of_ble_eq_true rfl) recv0 (t74 (by omega) A4 (Abs_rg A4 15 7) e5) (fun w5 A5 => ?_)
    cases e
    exact hg_retR rfl (kr _ _ rfl _ A5)
def c85_j91 (s0 : Nat) (s1 : Nat) (s2 : Nat) (s3 : Int) (l1 : Int) (l3 : Int) (l4 : Int) (l5 : Nat) (h : hS) : Option (Int × hS) :=
  (k8 s2).bind (fun u9 =>
  (c48 s2 s3 (hI h 15 9) l1 l3 l4 l5 h).bind (fun h8 =>
  (kT h8 s0 8).bind (fun u11 =>
  (c49 s0 s1 h8).bind (fun v10 =>
  (c58 59 v10.2).bind (fun v12 =>
  (kB v12.1).bind (fun u13 =>
  some (v12.1, v12.2)))))))
theorem t85_j91 {d : Nat} (hd : 124 ≤ d) {s0 : Nat} {s1 : Nat} {s2 : Nat} {s3 : Int} {l1 : Int} {l3 : Int} {l4 : Int} {l5 : Nat} {z2 : Option hO} {h : hS} {w : mmW} {o : Int × hS} {Q : mmO → Prop} (rs3 : rg s3) (rl1 : rg l1) (rl3 : rg l3) (rl4 : rg l4) (A : Abs h w) (e : c85_j91 s0 s1 s2 s3 l1 l3 l4 l5 h = some o) (kr : ∀ (v1 : Int) (h1 : hS), o = (v1, h1) → ∀ w', rg v1 → Abs h1 w' → Q (some (.int (Int32.ofInt v1)), w')) : hG d 85 91 [some (vr 15), some (vi l1), z2, some (vi l3), some (vi l4), some (vr l5)] [vI s3, vR s2, vR s1, vR s0] w Q := by
  unfold c85_j91 at e
  refine hg_run 1 (pc' := 92) (ls' := [some (vr 15), some (vi l1), z2, some (vi l3), some (vi l4), some (vr l5)]) (st' := [vR 15, vI s3, vR s2, vR s1, vR s0]) rfl ?_
  refine gs_15_9 rfl A ?_
  refine hg_run 4 (pc' := 101) (ls' := [some (vr 15), some (vi l1), z2, some (vi l3), some (vi l4), some (vr l5)]) (st' := [vR l5, vI l4, vI l3, vI l1, vI (hI h 15 9), vI s3, vR s2, vR s1, vR s0]) rfl ?_
  obtain ⟨u9, e9, e⟩ := ob e
  obtain ⟨h8, e8, e⟩ := ob e
  refine hg_cV (as := [vR s2, vI s3, vI (hI h 15 9), vI l1, vI l3, vI l4, vR l5]) (st' := [vR s1, vR s0]) rfl (fun _ _ _ _ => rfl) rfl rfl (Nat.le_of_ble_eq_true rfl) (Nat.le_of_ble_eq_true rfl) (recv1 (k8_e e9)) (t48 (by omega) A rs3 (Abs_rg A 15 9) rl1 rl3 rl4 e8) (fun w8 A8 => ?_)
  obtain ⟨u11, e11, e⟩ := ob e
  obtain ⟨v10, e10, e⟩ := ob e
  refine hg_cI (as := [vR s0, vR s1]) (st' := []) rfl (fun _ _ _ _ => rfl) rfl rfl (Nat.le_of_ble_eq_true rfl) (Nat.le_of_ble_eq_true rfl) (recvV A8 (a := 3) (kT_e e11)) (t49 (by omega) A8  e10) (fun w10 r10 A10 => ?_)
  refine hg_run 3 (pc' := 111) (ls' := [some (vr 15), some (vi l1), z2, some (vi l3), some (vi l4), some (vr l5)]) (st' := [vI 59, vR 15]) rfl ?_
  obtain ⟨v12, e12, e⟩ := ob e
  refine hg_cI (as := [vR 15, vI 59]) (st' := []) rfl (fun _ _ _ _ => rfl) rfl rfl (Nat.le_of_ble_eq_true rfl) (Nat.le_of_ble_eq_true rfl) (recvV A10 (a := 2) (Abs_ks A10 (i := 7) rfl).1) (t58 (by omega) A10 (rgn 59 rfl) e12) (fun w12 r12 A12 => ?_)
  obtain ⟨u13, e13, e⟩ := ob e
  cases e
  exact hg_retI rfl (by decide) (fit_B (kB_e e13)) (kr _ _ rfl _ r12 A12)
def c85_j69 (l1 : Int) (l2 : Int) (l3 : Int) (l4 : Int) (l5 : Nat) (h : hS) : Option (Int × hS) :=
  (some (mkH h 22 6)).bind (fun h6 =>
  if l2 = 217 then
  c85_j91 (hR h 15 12) (hN h) (hN h) 251 l1 l3 l4 l5 h6
  else
  c85_j91 (hR h 15 12) (hN h) (hN h) l2 l1 l3 l4 l5 h6)
theorem t85_j69 {d : Nat} (hd : 124 ≤ d) {l1 : Int} {l2 : Int} {l3 : Int} {l4 : Int} {l5 : Nat}  {h : hS} {w : mmW} {o : Int × hS} {Q : mmO → Prop} (rl1 : rg l1) (rl2 : rg l2) (rl3 : rg l3) (rl4 : rg l4) (A : Abs h w) (e : c85_j69 l1 l2 l3 l4 l5 h = some o) (kr : ∀ (v1 : Int) (h1 : hS), o = (v1, h1) → ∀ w', rg v1 → Abs h1 w' → Q (some (.int (Int32.ofInt v1)), w')) : hG d 85 69 [some (vr 15), some (vi l1), some (vi l2), some (vi l3), some (vi l4), some (vr l5)] [] w Q := by
  unfold c85_j69 at e
  refine hg_run 1 (pc' := 70) (ls' := [some (vr 15), some (vi l1), some (vi l2), some (vi l3), some (vi l4), some (vr l5)]) (st' := [vR 15]) rfl ?_
  refine gs_15_12 rfl A ?_
  obtain ⟨h6, e6, e⟩ := ob e
  refine hg_new (a := 10) rfl A (by decide +kernel) (by decide) e6 (fun w6 A6 => ?_)
  refine hg_run 3 (pc' := 81) (ls' := [some (vr 15), some (vi l1), some (vi l2), some (vi l3), some (vi l4), some (vr l5)]) (st' := [vI 217, vI l2, vR (hN h), vR (hN h), vR (hR h 15 12)]) rfl ?_
  rcases oi e with ⟨q7, e⟩ | ⟨q7, e⟩
  · refine hg_icF (tgt := 90) rfl (by decide) rl2 (rgn 217 rfl) (show ¬ ¬ (l2 = 217) from fun f => f q7) ?_
    refine hg_run 2 (pc' := 91) (ls' := [some (vr 15), some (vi l1), some (vi l2), some (vi l3), some (vi l4), some (vr l5)]) (st' := [vI 251, vR (hN h), vR (hN h), vR (hR h 15 12)]) rfl ?_
    exact t85_j91 hd (rgn 251 rfl) rl1 rl3 rl4 A6 e kr
  · refine hg_icT (tgt := 90) rfl (by decide) rl2 (rgn 217 rfl) (show ¬ (l2 = 217) from q7) ?_
    refine hg_run 1 (pc' := 91) (ls' := [some (vr 15), some (vi l1), some (vi l2), some (vi l3), some (vi l4), some (vr l5)]) (st' := [vI l2, vR (hN h), vR (hN h), vR (hR h 15 12)]) rfl ?_
    exact t85_j91 hd rl2 rl1 rl3 rl4 A6 e kr
def c85_j49 (l1 : Int) (l2 : Int) (l3 : Int) (l4 : Int) (l5 : Nat) (h : hS) : Option (Int × hS) :=
  if l2 = 220 then
  (c86  h).bind (fun v14 =>
  (hnul v14.1).bind (fun b15 =>
  if b15 = true then
  some (0, v14.2)
  else
  c85_j69 l1 l2 l3 l4 v14.1 v14.2))
  else
  c85_j69 l1 l2 l3 l4 l5 h
theorem t85_j49 {d : Nat} (hd : 124 ≤ d) {l1 : Int} {l2 : Int} {l3 : Int} {l4 : Int} {l5 : Nat}  {h : hS} {w : mmW} {o : Int × hS} {Q : mmO → Prop} (rl1 : rg l1) (rl2 : rg l2) (rl3 : rg l3) (rl4 : rg l4) (A : Abs h w) (e : c85_j49 l1 l2 l3 l4 l5 h = some o) (kr : ∀ (v1 : Int) (h1 : hS), o = (v1, h1) → ∀ w', rg v1 → Abs h1 w' → Q (some (.int (Int32.ofInt v1)), w')) : hG d 85 49 [some (vr 15), some (vi l1), some (vi l2), some (vi l3), some (vi l4), some (vr l5)] [] w Q := by
  unfold c85_j49 at e
  refine hg_run 2 (pc' := 53) (ls' := [some (vr 15), some (vi l1), some (vi l2), some (vi l3), some (vi l4), some (vr l5)]) (st' := [vI 220, vI l2]) rfl ?_
  rcases oi e with ⟨q5, e⟩ | ⟨q5, e⟩
  · refine hg_icF (tgt := 69) rfl (by decide) rl2 (rgn 220 rfl) (show ¬ ¬ (l2 = 220) from fun f => f q5) ?_
    refine hg_run 1 (pc' := 57) (ls' := [some (vr 15), some (vi l1), some (vi l2), some (vi l3), some (vi l4), some (vr l5)]) (st' := [vR 15]) rfl ?_
    obtain ⟨v14, e14, e⟩ := ob e
    refine hg_cR (as := [vR 15]) (st' := []) rfl (fun _ _ _ _ => rfl) rfl rfl (Nat.le_of_ble_eq_true rfl) (Nat.le_of_ble_eq_true rfl) (recvV A (a := 2) (Abs_ks A (i := 7) rfl).1) (t86 (by omega) A  e14) (fun w14 A14 => ?_)
    refine hg_run 2 (pc' := 64) (ls' := [some (vr 15), some (vi l1), some (vi l2), some (vi l3), some (vi l4), some (vr v14.1)]) (st' := [vR v14.1]) rfl ?_
    obtain ⟨b15, e15, e⟩ := ob e
    rcases oi e with ⟨q15, e⟩ | ⟨q15, e⟩
    · refine hg_nul (yes := false) (tgt := 69) (t2 := 67) rfl (fun _ _ _ _ => rfl) (by decide) (ebT e15 q15) rfl ?_
      refine hg_run 1 (pc' := 68) (ls' := [some (vr 15), some (vi l1), some (vi l2), some (vi l3), some (vi l4), some (vr v14.1)]) (st' := [vI 0]) rfl ?_
      cases e
      exact hg_retI rfl (by decide) (fit_B (.inl rfl)) (kr _ _ rfl _ (rgn 0 rfl) A14)
    · refine hg_nul (yes := false) (tgt := 69) (t2 := 69) rfl (fun _ _ _ _ => rfl) (by decide) (ebF e15 q15) rfl ?_
      exact t85_j69 hd rl1 rl2 rl3 rl4 A14 e kr
  · refine hg_icT (tgt := 69) rfl (by decide) rl2 (rgn 220 rfl) (show ¬ (l2 = 220) from q5) ?_
    exact t85_j69 hd rl1 rl2 rl3 rl4 A e kr
def c85 (l1 : Int) (l2 : Int) (h : hS) : Option (Int × hS) :=
  (some (sI h 15 3 (wadd (hI h 15 3) 1))).bind (fun h1 =>
  (c45  h1).bind (fun v2 =>
  if v2.1 = (-1) then
  some (0, v2.2)
  else
  if l2 = 219 then
  (c45  v2.2).bind (fun v16 =>
  if v16.1 = (-1) then
  some (0, v16.2)
  else
  c85_j49 l1 l2 v2.1 v16.1 0 v16.2)
  else
  c85_j49 l1 l2 v2.1 (-1) 0 v2.2))
theorem t85 {d : Nat} (hd : 125 ≤ d) {l1 : Int} {l2 : Int} {h : hS} {w : mmW} {o : Int × hS} (A : Abs h w) (rl1 : rg l1) (rl2 : rg l2) (e : c85 l1 l2 h = some o) : hEv d 85 [vR 15, vI l1, vI l2] w (qI o) := by
  obtain ⟨d, rfl⟩ : ∃ d1, d = d1 + 1 := ⟨d - 1, by omega⟩
  have hd : 124 ≤ d := by omega
  refine hEv_start (args := [vr 15, vi l1, vi l2]) (nl := 6) rfl (Nat.le_of_ble_eq_true rfl) ?_
  show hG d 85 0 [some (vr 15), some (vi l1), some (vi l2), none, none, none] [] w _
  have kr : ∀ (v1 : Int) (h1 : hS), o = (v1, h1) → ∀ w', rg v1 → Abs h1 w' → qI o (some (.int (Int32.ofInt v1)), w') := fun v1 h1 q w' r A' => by cases q; exact ⟨rfl, r, A'⟩
  unfold c85 at e
  refine hg_run 2 (pc' := 2) (ls' := [some (vr 15), some (vi l1), some (vi l2), none, none, none]) (st' := [vR 15, vR 15]) rfl ?_
  refine gs_15_3 rfl A ?_
  refine hg_run 2 (pc' := 7) (ls' := [some (vr 15), some (vi l1), some (vi l2), none, none, none]) (st' := [vI (wadd (hI h 15 3) 1), vR 15]) rfl ?_
  obtain ⟨h1, e1, e⟩ := ob e
  refine ps_15_3 rfl A (rg_add _ _) e1 (fun w1 A1 => ?_)
  refine hg_run 1 (pc' := 11) (ls' := [some (vr 15), some (vi l1), some (vi l2), none, none, none]) (st' := [vR 15]) rfl ?_
  obtain ⟨v2, e2, e⟩ := ob e
  refine hg_cI (as := [vR 15]) (st' := []) rfl (fun _ _ _ _ => rfl) rfl rfl (Nat.le_of_ble_eq_true rfl) (Nat.le_of_ble_eq_true rfl) (recvV A1 (a := 2) (Abs_ks A1 (i := 7) rfl).1) (t45 (by omega) A1  e2) (fun w2 r2 A2 => ?_)
  refine hg_run 3 (pc' := 17) (ls' := [some (vr 15), some (vi l1), some (vi l2), some (vi v2.1), none, none]) (st' := [vI (-1), vI v2.1]) rfl ?_
  rcases oi e with ⟨q3, e⟩ | ⟨q3, e⟩
  · refine hg_icF (tgt := 22) rfl (by decide) r2 (rgn (-1) rfl) (show ¬ ¬ (v2.1 = (-1)) from fun f => f q3) ?_
    refine hg_run 1 (pc' := 21) (ls' := [some (vr 15), some (vi l1), some (vi l2), some (vi v2.1), none, none]) (st' := [vI 0]) rfl ?_
    cases e
    exact hg_retI rfl (by decide) (fit_B (.inl rfl)) (kr _ _ rfl _ (rgn 0 rfl) A2)
  · refine hg_icT (tgt := 22) rfl (by decide) r2 (rgn (-1) rfl) (show ¬ (v2.1 = (-1)) from q3) ?_
    refine hg_run 6 (pc' := 32) (ls' := [some (vr 15), some (vi l1), some (vi l2), some (vi v2.1), some (vi (-1)), some (vr 0)]) (st' := [vI 219, vI l2]) rfl ?_
    rcases oi e with ⟨q4, e⟩ | ⟨q4, e⟩
    · refine hg_icF (tgt := 49) rfl (by decide) rl2 (rgn 219 rfl) (show ¬ ¬ (l2 = 219) from fun f => f q4) ?_
      refine hg_run 1 (pc' := 36) (ls' := [some (vr 15), some (vi l1), some (vi l2), some (vi v2.1), some (vi (-1)), some (vr 0)]) (st' := [vR 15]) rfl ?_
      obtain ⟨v16, e16, e⟩ := ob e
      refine hg_cI (as := [vR 15]) (st' := []) rfl (fun _ _ _ _ => rfl) rfl rfl (Nat.le_of_ble_eq_true rfl) (Nat.le_of_ble_eq_true rfl) (recvV A2 (a := 2) (Abs_ks A2 (i := 7) rfl).1) (t45 (by omega) A2  e16) (fun w16 r16 A16 => ?_)
      refine hg_run 3 (pc' := 44) (ls' := [some (vr 15), some (vi l1), some (vi l2), some (vi v2.1), some (vi v16.1), some (vr 0)]) (st' := [vI (-1), vI v16.1]) rfl ?_
      rcases oi e with ⟨q17, e⟩ | ⟨q17, e⟩
      · refine hg_icF (tgt := 49) rfl (by decide) r16 (rgn (-1) rfl) (show ¬ ¬ (v16.1 = (-1)) from fun f => f q17) ?_
        refine hg_run 1 (pc' := 48) (ls' := [some (vr 15), some (vi l1), some (vi l2), some (vi v2.1), some (vi v16.1), some (vr 0)]) (st' := [vI 0]) rfl ?_
        cases e
        exact hg_retI rfl (by decide) (fit_B (.inl rfl)) (kr _ _ rfl _ (rgn 0 rfl) A16)
      · refine hg_icT (tgt := 49) rfl (by decide) r16 (rgn (-1) rfl) (show ¬ (v16.1 = (-1)) from q17) ?_
        exact t85_j49 hd rl1 rl2 r2 r16 A16 e kr
    · refine hg_icT (tgt := 49) rfl (by decide) rl2 (rgn 219 rfl) (show ¬ (l2 = 219) from q4) ?_
      exact t85_j49 hd rl1 rl2 r2 (rgn (-1) rfl) A2 e kr
