/-! read as functions: laid by wip/whole/shallow.py -/
def c219 (l1 : Int) (l2 : Int) (h : hS) : Option (hS) :=
  (wIs h 399 48000 (wadd (wmul 5 (wadd 8400 l1)) 4) l2).bind (fun h1 =>
  some h1)
theorem t219 {d : Nat} (hd : 1 ≤ d) {l1 : Int} {l2 : Int} {h : hS} {w : mmW} {o : hS} (A : Abs h w) (rl1 : rg l1) (rl2 : rg l2) (e : c219 l1 l2 h = some o) : hEv d 219 [vR 395, vI l1, vI l2] w (qV o) := by
  obtain ⟨d, rfl⟩ : ∃ d1, d = d1 + 1 := ⟨d - 1, by omega⟩
  have hd : 0 ≤ d := by omega
  refine hEv_start (args := [vr 395, vi l1, vi l2]) (nl := 3) rfl (Nat.le_of_ble_eq_true rfl) ?_
  show hG d 219 0 [some (vr 395), some (vi l1), some (vi l2)] [] w _
  have kr : ∀ h1 : hS, o = h1 → ∀ w', Abs h1 w' → qV o (none, w') := fun h1 q w' A' => by cases q; exact ⟨rfl, A'⟩
  unfold c219 at e
  refine hg_run 1 (pc' := 1) (ls' := [some (vr 395), some (vi l1), some (vi l2)]) (st' := [vR 395]) rfl ?_
  refine gs_395_15 rfl A ?_
  refine hg_run 8 (pc' := 14) (ls' := [some (vr 395), some (vi l1), some (vi l2)]) (st' := [vI l2, vI (wadd (wmul 5 (wadd 8400 l1)) 4), vR 399]) rfl ?_
  obtain ⟨h1, e1, e⟩ := ob e
  refine hg_wIs rfl A (Abs_ks A (i := 27) rfl) (by decide) rl2 e1 (fun w1 A1 => ?_)
  cases e
  exact hg_retV rfl (kr _ rfl _ A1)
def c210_j56 (l2 : Int) (h : hS) : Option ((Int × Int × hS) ⊕ ((Int × hS) ⊕ (Int × hS))) :=
  some (.inl (l2, (hI h 395 22), h))
theorem t210_j56 {d : Nat} {call : Nat → List Int → hS → Option (Int × hS)} (hcall : ∀ (k : Nat) (as : List Int) (h : hS) (w : mmW) (o : Int × hS), Abs h w → (∀ a ∈ as, rg a) → call k as h = some o → hEv d k (vR 395 :: as.map vI) w (qI o)) (hd : 125 ≤ d) {l2 : Int} {l1 : Int} {z3 : Option hO} {h : hS} {w : mmW} {o : (Int × Int × hS) ⊕ ((Int × hS) ⊕ (Int × hS))} {Q : mmO → Prop} (rl2 : rg l2) (A : Abs h w) (e : c210_j56 l2 h = some o) (kb : ∀ (s_0 : Int) (s_1 : Int) (s_2 : hS), o = .inl (s_0, s_1, s_2) → ∀ w', rg s_0 → rg s_1 → Abs s_2 w' → hG d 210 15 [some (vr 395), some (vi l1), some (vi s_0), some (vi s_1)] [] w' Q) (ke : ∀ (x_0 : Int) (x_1 : hS), o = .inr (.inl (x_0, x_1)) → ∀ w', ∀ (y3 : Option hO), rg x_0 → Abs x_1 w' → hG d 210 64 [some (vr 395), some (vi l1), some (vi x_0), y3] [] w' Q) (kr : ∀ (v1 : Int) (h1 : hS), o = .inr (.inr (v1, h1)) → ∀ w', rg v1 → Abs h1 w' → Q (some (.int (Int32.ofInt v1)), w')) : hG d 210 56 [some (vr 395), some (vi l1), some (vi l2), z3] [] w Q := by
  unfold c210_j56 at e
  refine hg_run 1 (pc' := 57) (ls' := [some (vr 395), some (vi l1), some (vi l2), z3]) (st' := [vR 395]) rfl ?_
  refine gs_395_22 rfl A ?_
  refine hg_run 2 (pc' := 15) (ls' := [some (vr 395), some (vi l1), some (vi l2), some (vi (hI h 395 22))]) (st' := []) rfl ?_
  cases e
  exact kb l2 (hI h 395 22) h rfl _ rl2 (Abs_rg A 395 22) A
def c210_b15 (call : Nat → List Int → hS → Option (Int × hS)) (l1 : Int) (l2 : Int) (l3 : Int) (h : hS) : Option ((Int × Int × hS) ⊕ ((Int × hS) ⊕ (Int × hS))) :=
  (c203 125 h).bind (fun v3 =>
  if v3 = 0 then
  (call 211 [l1] h).bind (fun v5 =>
  if v5.1 = 0 then
  some (.inr (.inr (0, v5.2)))
  else
  if l2 = (-1) then
  c210_j56 (hI v5.2 395 22) v5.2
  else
  (c219 l3 (hI v5.2 395 22) v5.2).bind (fun h8 =>
  c210_j56 l2 h8))
  else
  some (.inr (.inl (l2, h))))
theorem t210_b15 {d : Nat} {call : Nat → List Int → hS → Option (Int × hS)} (hcall : ∀ (k : Nat) (as : List Int) (h : hS) (w : mmW) (o : Int × hS), Abs h w → (∀ a ∈ as, rg a) → call k as h = some o → hEv d k (vR 395 :: as.map vI) w (qI o)) (hd : 125 ≤ d) {l1 : Int} {l2 : Int} {l3 : Int}  {h : hS} {w : mmW} {o : (Int × Int × hS) ⊕ ((Int × hS) ⊕ (Int × hS))} {Q : mmO → Prop} (rl1 : rg l1) (rl2 : rg l2) (rl3 : rg l3) (A : Abs h w) (e : c210_b15 call l1 l2 l3 h = some o) (kb : ∀ (s_0 : Int) (s_1 : Int) (s_2 : hS), o = .inl (s_0, s_1, s_2) → ∀ w', rg s_0 → rg s_1 → Abs s_2 w' → hG d 210 15 [some (vr 395), some (vi l1), some (vi s_0), some (vi s_1)] [] w' Q) (ke : ∀ (x_0 : Int) (x_1 : hS), o = .inr (.inl (x_0, x_1)) → ∀ w', ∀ (y3 : Option hO), rg x_0 → Abs x_1 w' → hG d 210 64 [some (vr 395), some (vi l1), some (vi x_0), y3] [] w' Q) (kr : ∀ (v1 : Int) (h1 : hS), o = .inr (.inr (v1, h1)) → ∀ w', rg v1 → Abs h1 w' → Q (some (.int (Int32.ofInt v1)), w')) : hG d 210 15 [some (vr 395), some (vi l1), some (vi l2), some (vi l3)] [] w Q := by
  unfold c210_b15 at e
  refine hg_run 2 (pc' := 18) (ls' := [some (vr 395), some (vi l1), some (vi l2), some (vi l3)]) (st' := [vI 125, vR 395]) rfl ?_
  obtain ⟨v3, e3, e⟩ := ob e
  refine hg_cIp (as := [vR 395, vI 125]) (st' := []) rfl (fun _ _ _ _ => rfl) rfl rfl (Nat.le_of_ble_eq_true rfl) (Nat.le_of_ble_eq_true rfl) (recvV A (a := 13) (Abs_ks A (i := 23) rfl).1) (t203 (by omega) A (rgn 125 rfl) e3) (fun r3 => ?_)
  rcases oi e with ⟨q4, e⟩ | ⟨q4, e⟩
  · refine hg_ifF (tgt := 64) rfl (by decide) r3 (show ¬ ¬ (v3 = 0) from fun f => f q4) ?_
    refine hg_run 2 (pc' := 26) (ls' := [some (vr 395), some (vi l1), some (vi l2), some (vi l3)]) (st' := [vI l1, vR 395]) rfl ?_
    obtain ⟨v5, e5, e⟩ := ob e
    refine hg_cI (as := [vR 395, vI l1]) (st' := []) rfl (fun _ _ _ _ => rfl) rfl rfl (Nat.le_of_ble_eq_true rfl) (Nat.le_of_ble_eq_true rfl) (recvV A (a := 13) (Abs_ks A (i := 23) rfl).1) (hcall 211 _ _ _ _ A (rglc rl1 rgl0) e5) (fun w5 r5 A5 => ?_)
    rcases oi e with ⟨q6, e⟩ | ⟨q6, e⟩
    · refine hg_ifF (tgt := 34) rfl (by decide) r5 (show ¬ ¬ (v5.1 = 0) from fun f => f q6) ?_
      refine hg_run 1 (pc' := 33) (ls' := [some (vr 395), some (vi l1), some (vi l2), some (vi l3)]) (st' := [vI 0]) rfl ?_
      cases e
      exact hg_retI rfl (by decide) (fit_B (.inl rfl)) (kr _ _ rfl _ (rgn 0 rfl) A5)
    · refine hg_ifT (tgt := 34) rfl (by decide) r5 (show ¬ (v5.1 = 0) from q6) ?_
      refine hg_run 2 (pc' := 36) (ls' := [some (vr 395), some (vi l1), some (vi l2), some (vi l3)]) (st' := [vI (-1), vI l2]) rfl ?_
      rcases oi e with ⟨q7, e⟩ | ⟨q7, e⟩
      · refine hg_icF (tgt := 47) rfl (by decide) rl2 (rgn (-1) rfl) (show ¬ ¬ (l2 = (-1)) from fun f => f q7) ?_
        refine hg_run 1 (pc' := 40) (ls' := [some (vr 395), some (vi l1), some (vi l2), some (vi l3)]) (st' := [vR 395]) rfl ?_
        refine gs_395_22 rfl A5 ?_
        refine hg_run 2 (pc' := 56) (ls' := [some (vr 395), some (vi l1), some (vi (hI v5.2 395 22)), some (vi l3)]) (st' := []) rfl ?_
        exact t210_j56 hcall hd (Abs_rg A5 395 22) A5 e kb ke kr
      · refine hg_icT (tgt := 47) rfl (by decide) rl2 (rgn (-1) rfl) (show ¬ (l2 = (-1)) from q7) ?_
        refine hg_run 3 (pc' := 50) (ls' := [some (vr 395), some (vi l1), some (vi l2), some (vi l3)]) (st' := [vR 395, vI l3, vR 395]) rfl ?_
        refine gs_395_22 rfl A5 ?_
        obtain ⟨h8, e8, e⟩ := ob e
        refine hg_cV (as := [vR 395, vI l3, vI (hI v5.2 395 22)]) (st' := []) rfl (fun _ _ _ _ => rfl) rfl rfl (Nat.le_of_ble_eq_true rfl) (Nat.le_of_ble_eq_true rfl) (recvV A5 (a := 13) (Abs_ks A5 (i := 23) rfl).1) (t219 (by omega) A5 rl3 (Abs_rg A5 395 22) e8) (fun w8 A8 => ?_)
        exact t210_j56 hcall hd rl2 A8 e kb ke kr
  · refine hg_ifT (tgt := 64) rfl (by decide) r3 (show ¬ (v3 = 0) from q4) ?_
    cases e
    exact ke l2 h rfl _ _ rl2 A
theorem t210_l15 {d : Nat} {call : Nat → List Int → hS → Option (Int × hS)} (hcall : ∀ (k : Nat) (as : List Int) (h : hS) (w : mmW) (o : Int × hS), Abs h w → (∀ a ∈ as, rg a) → call k as h = some o → hEv d k (vR 395 :: as.map vI) w (qI o)) (hd : 125 ≤ d) {l1 : Int}  {Q : mmO → Prop} (rl1 : rg l1) (n : Nat) {l2 : Int} {l3 : Int}  {h : hS} {w : mmW} {r : (Int × hS) ⊕ (Int × hS)} (rl2 : rg l2) (rl3 : rg l3) (A : Abs h w) (e : lp (fun s => c210_b15 call l1 s.1 s.2.1 s.2.2) n (l2, l3, h) = some r) (ke : ∀ (x_0 : Int) (x_1 : hS), r = .inl (x_0, x_1) → ∀ w', ∀ (y3 : Option hO), rg x_0 → Abs x_1 w' → hG d 210 64 [some (vr 395), some (vi l1), some (vi x_0), y3] [] w' Q) (kr : ∀ (v1 : Int) (h1 : hS), r = .inr (v1, h1) → ∀ w', rg v1 → Abs h1 w' → Q (some (.int (Int32.ofInt v1)), w')) : hG d 210 15 [some (vr 395), some (vi l1), some (vi l2), some (vi l3)] [] w Q := by
  induction n generalizing l2 l3 h w with
  | zero => cases e
  | succ n ih =>
    rcases lp_succ e with ⟨s1, e1, e2⟩ | e1
    · exact t210_b15 hcall hd rl1 rl2 rl3 A e1 (fun s_0 s_1 s_2 q w1 rl2 rl3 A1 => by cases q; exact ih rl2 rl3 A1 e2) (fun x_0 x_1 q => by cases q) (fun v0 h0 q => by cases q)
    · exact t210_b15 hcall hd rl1 rl2 rl3 A e1 (fun s_0 s_1 s_2 q => by cases q) (fun x_0 x_1 q => by cases q; exact ke _ _ rfl) (fun v0 h0 q => by cases q; exact kr _ _ rfl)
def c210 (call : Nat → List Int → hS → Option (Int × hS)) (l1 : Int) (h : hS) : Option (Int × hS) :=
  (c202 123 h).bind (fun v1 =>
  if v1.1 = 0 then
  some (0, v1.2)
  else
  (lp (fun s => c210_b15 call l1 s.1 s.2.1 s.2.2) hF0 ((-1), (-1), v1.2)).bind (fun r9 => xs r9 (fun x9 =>
  (c188  x9.2).bind (fun h10 =>
  (some (sI h10 395 21 x9.1)).bind (fun h11 =>
  some (1, h11)))) (fun o9 => some o9)))
theorem t210 {d : Nat} {call : Nat → List Int → hS → Option (Int × hS)} (hcall : ∀ (k : Nat) (as : List Int) (h : hS) (w : mmW) (o : Int × hS), Abs h w → (∀ a ∈ as, rg a) → call k as h = some o → hEv d k (vR 395 :: as.map vI) w (qI o)) (hd : 125 ≤ d) {l1 : Int} {h : hS} {w : mmW} {o : Int × hS} (A : Abs h w) (rl1 : rg l1) (e : c210 call l1 h = some o) : hEv (d + 1) 210 [vR 395, vI l1] w (qI o) := by
  refine hEv_start (args := [vr 395, vi l1]) (nl := 4) rfl (Nat.le_of_ble_eq_true rfl) ?_
  show hG d 210 0 [some (vr 395), some (vi l1), none, none] [] w _
  have kr : ∀ (v1 : Int) (h1 : hS), o = (v1, h1) → ∀ w', rg v1 → Abs h1 w' → qI o (some (.int (Int32.ofInt v1)), w') := fun v1 h1 q w' r A' => by cases q; exact ⟨rfl, r, A'⟩
  unfold c210 at e
  refine hg_run 2 (pc' := 3) (ls' := [some (vr 395), some (vi l1), none, none]) (st' := [vI 123, vR 395]) rfl ?_
  obtain ⟨v1, e1, e⟩ := ob e
  refine hg_cI (as := [vR 395, vI 123]) (st' := []) rfl (fun _ _ _ _ => rfl) rfl rfl (Nat.le_of_ble_eq_true rfl) (Nat.le_of_ble_eq_true rfl) (recvV A (a := 13) (Abs_ks A (i := 23) rfl).1) (t202 (by omega) A (rgn 123 rfl) e1) (fun w1 r1 A1 => ?_)
  rcases oi e with ⟨q2, e⟩ | ⟨q2, e⟩
  · refine hg_ifF (tgt := 11) rfl (by decide) r1 (show ¬ ¬ (v1.1 = 0) from fun f => f q2) ?_
    refine hg_run 1 (pc' := 10) (ls' := [some (vr 395), some (vi l1), none, none]) (st' := [vI 0]) rfl ?_
    cases e
    exact hg_retI rfl (by decide) (fit_B (.inl rfl)) (kr _ _ rfl _ (rgn 0 rfl) A1)
  · refine hg_ifT (tgt := 11) rfl (by decide) r1 (show ¬ (v1.1 = 0) from q2) ?_
    refine hg_run 4 (pc' := 15) (ls' := [some (vr 395), some (vi l1), some (vi (-1)), some (vi (-1))]) (st' := []) rfl ?_
    obtain ⟨r9, e9, e⟩ := ob e
    refine t210_l15 hcall hd rl1 _ (rgn (-1) rfl) (rgn (-1) rfl) A1 e9 ?_ ?_
    · intro x9_0 x9_1 qq9 w9 z9_3 q9_2 A9
      subst qq9
      have e := xs_l e
      try dsimp only at e
      refine hg_run 1 (pc' := 65) (ls' := [some (vr 395), some (vi l1), some (vi x9_0), z9_3]) (st' := [vR 395]) rfl ?_
      obtain ⟨h10, e10, e⟩ := ob e
      refine hg_cV (as := [vR 395]) (st' := []) rfl (fun _ _ _ _ => rfl) rfl rfl (Nat.le_of_ble_eq_true rfl) (Nat.le_of_ble_eq_true rfl) (recvV A9 (a := 13) (Abs_ks A9 (i := 23) rfl).1) (t188 (by omega) A9  e10) (fun w10 A10 => ?_)
      refine hg_run 2 (pc' := 70) (ls' := [some (vr 395), some (vi l1), some (vi x9_0), z9_3]) (st' := [vI x9_0, vR 395]) rfl ?_
      obtain ⟨h11, e11, e⟩ := ob e
      refine ps_395_21 rfl A10 q9_2 e11 (fun w11 A11 => ?_)
      refine hg_run 1 (pc' := 74) (ls' := [some (vr 395), some (vi l1), some (vi x9_0), z9_3]) (st' := [vI 1]) rfl ?_
      cases e
      exact hg_retI rfl (by decide) (fit_B (.inr rfl)) (kr _ _ rfl _ (rgn 1 rfl) A11)
    · intro v9 h9 qq9 w9 r9 A9
      subst qq9
      have e := xs_r e
      cases e
      exact kr _ _ rfl w9 r9 A9
def c211_j303 (h : hS) : Option (Int × hS) :=
  (c202 59 h).bind (fun v15 =>
  (kB v15.1).bind (fun u16 =>
  some (v15.1, v15.2)))
set_option maxRecDepth 100000 in
theorem t211_j303 {d : Nat} {call : Nat → List Int → hS → Option (Int × hS)} (hcall : ∀ (k : Nat) (as : List Int) (h : hS) (w : mmW) (o : Int × hS), Abs h w → (∀ a ∈ as, rg a) → call k as h = some o → hEv d k (vR 395 :: as.map vI) w (qI o)) (hd : 125 ≤ d)  {z1 : Option hO} {z2 : Option hO} {z3 : Option hO} {z4 : Option hO} {h : hS} {w : mmW} {o : Int × hS} {Q : mmO → Prop}  (A : Abs h w) (e : c211_j303 h = some o) (kr : ∀ (v1 : Int) (h1 : hS), o = (v1, h1) → ∀ w', rg v1 → Abs h1 w' → Q (some (.int (Int32.ofInt v1)), w')) : hG d 211 303 [some (vr 395), z1, z2, z3, z4] [] w Q := by
  unfold c211_j303 at e
  refine hg_run 2 (pc' := 306) (ls' := [some (vr 395), z1, z2, z3, z4]) (st' := [vI 59, vR 395]) rfl ?_
  obtain ⟨v15, e15, e⟩ := ob e
  refine hg_cI (as := [vR 395, vI 59]) (st' := []) rfl (fun _ _ _ _ => rfl) rfl rfl (Nat.le_of_ble_eq_true rfl) (Nat.le_of_ble_eq_true rfl) (recvV A (a := 13) (Abs_ks A (i := 23) rfl).1) (t202 (by omega) A (rgn 59 rfl) e15) (fun w15 r15 A15 => ?_)
  obtain ⟨u16, e16, e⟩ := ob e
  cases e
  exact hg_retI rfl (by decide) (fit_B (kB_e e16)) (kr _ _ rfl _ r15 A15)
def c211_j191 (s2 : Int) (h : hS) : Option (Int × hS) :=
  (c218 s2 (hI h 395 19) 0 0 h).bind (fun v13 =>
  (some (sI v13.2 395 22 v13.1)).bind (fun h14 =>
  c211_j303 h14))
set_option maxRecDepth 100000 in
theorem t211_j191 {d : Nat} {call : Nat → List Int → hS → Option (Int × hS)} (hcall : ∀ (k : Nat) (as : List Int) (h : hS) (w : mmW) (o : Int × hS), Abs h w → (∀ a ∈ as, rg a) → call k as h = some o → hEv d k (vR 395 :: as.map vI) w (qI o)) (hd : 125 ≤ d) {s2 : Int} {z1 : Option hO} {z2 : Option hO} {z3 : Option hO} {z4 : Option hO} {h : hS} {w : mmW} {o : Int × hS} {Q : mmO → Prop} (rs2 : rg s2) (A : Abs h w) (e : c211_j191 s2 h = some o) (kr : ∀ (v1 : Int) (h1 : hS), o = (v1, h1) → ∀ w', rg v1 → Abs h1 w' → Q (some (.int (Int32.ofInt v1)), w')) : hG d 211 191 [some (vr 395), z1, z2, z3, z4] [vI s2, vR 395, vR 395] w Q := by
  unfold c211_j191 at e
  refine hg_run 1 (pc' := 192) (ls' := [some (vr 395), z1, z2, z3, z4]) (st' := [vR 395, vI s2, vR 395, vR 395]) rfl ?_
  refine gs_395_19 rfl A ?_
  refine hg_run 2 (pc' := 197) (ls' := [some (vr 395), z1, z2, z3, z4]) (st' := [vI 0, vI 0, vI (hI h 395 19), vI s2, vR 395, vR 395]) rfl ?_
  obtain ⟨v13, e13, e⟩ := ob e
  refine hg_cI (as := [vR 395, vI s2, vI (hI h 395 19), vI 0, vI 0]) (st' := [vR 395]) rfl (fun _ _ _ _ => rfl) rfl rfl (Nat.le_of_ble_eq_true rfl) (Nat.le_of_ble_eq_true rfl) (recvV A (a := 13) (Abs_ks A (i := 23) rfl).1) (t218 (by omega) A rs2 (Abs_rg A 395 19) (rgn 0 rfl) (rgn 0 rfl) e13) (fun w13 r13 A13 => ?_)
  obtain ⟨h14, e14, e⟩ := ob e
  refine ps_395_22 rfl A13 r13 e14 (fun w14 A14 => ?_)
  refine hg_run 1 (pc' := 303) (ls' := [some (vr 395), z1, z2, z3, z4]) (st' := []) rfl ?_
  exact t211_j303 hcall hd  A14 e kr
def c211_j167 (l2 : Int) (h : hS) : Option (Int × hS) :=
  (g214 120 214 [] h).bind (fun v10 =>
  if v10.1 = 0 then
  some (0, v10.2)
  else
  if l2 = 106 then
  c211_j191 21 v10.2
  else
  c211_j191 22 v10.2)
set_option maxRecDepth 100000 in
theorem t211_j167 {d : Nat} {call : Nat → List Int → hS → Option (Int × hS)} (hcall : ∀ (k : Nat) (as : List Int) (h : hS) (w : mmW) (o : Int × hS), Abs h w → (∀ a ∈ as, rg a) → call k as h = some o → hEv d k (vR 395 :: as.map vI) w (qI o)) (hd : 125 ≤ d) {l2 : Int} {z1 : Option hO} {z3 : Option hO} {z4 : Option hO} {h : hS} {w : mmW} {o : Int × hS} {Q : mmO → Prop} (rl2 : rg l2) (A : Abs h w) (e : c211_j167 l2 h = some o) (kr : ∀ (v1 : Int) (h1 : hS), o = (v1, h1) → ∀ w', rg v1 → Abs h1 w' → Q (some (.int (Int32.ofInt v1)), w')) : hG d 211 167 [some (vr 395), z1, some (vi l2), z3, z4] [] w Q := by
  unfold c211_j167 at e
  refine hg_run 1 (pc' := 168) (ls' := [some (vr 395), z1, some (vi l2), z3, z4]) (st' := [vR 395]) rfl ?_
  obtain ⟨v10, e10, e⟩ := ob e
  refine hg_cI (as := [vR 395]) (st' := []) rfl (fun _ _ _ _ => rfl) rfl rfl (Nat.le_of_ble_eq_true rfl) (Nat.le_of_ble_eq_true rfl) (recvV A (a := 13) (Abs_ks A (i := 23) rfl).1) (u214 120 (by omega) 214 _ _ _ _ A rgl0 e10) (fun w10 r10 A10 => ?_)
  rcases oi e with ⟨q11, e⟩ | ⟨q11, e⟩
  · refine hg_ifF (tgt := 176) rfl (by decide) r10 (show ¬ ¬ (v10.1 = 0) from fun f => f q11) ?_
    refine hg_run 1 (pc' := 175) (ls' := [some (vr 395), z1, some (vi l2), z3, z4]) (st' := [vI 0]) rfl ?_
    cases e
    exact hg_retI rfl (by decide) (fit_B (.inl rfl)) (kr _ _ rfl _ (rgn 0 rfl) A10)
  · refine hg_ifT (tgt := 176) rfl (by decide) r10 (show ¬ (v10.1 = 0) from q11) ?_
    refine hg_run 4 (pc' := 181) (ls' := [some (vr 395), z1, some (vi l2), z3, z4]) (st' := [vI 106, vI l2, vR 395, vR 395]) rfl ?_
    rcases oi e with ⟨q12, e⟩ | ⟨q12, e⟩
    · refine hg_icF (tgt := 189) rfl (by decide) rl2 (rgn 106 rfl) (show ¬ ¬ (l2 = 106) from fun f => f q12) ?_
      refine hg_run 2 (pc' := 191) (ls' := [some (vr 395), z1, some (vi l2), z3, z4]) (st' := [vI 21, vR 395, vR 395]) rfl ?_
      exact t211_j191 hcall hd (rgn 21 rfl) A10 e kr
    · refine hg_icT (tgt := 189) rfl (by decide) rl2 (rgn 106 rfl) (show ¬ (l2 = 106) from q12) ?_
      refine hg_run 1 (pc' := 191) (ls' := [some (vr 395), z1, some (vi l2), z3, z4]) (st' := [vI 22, vR 395, vR 395]) rfl ?_
      exact t211_j191 hcall hd (rgn 22 rfl) A10 e kr
def c211_j263 (s2 : Int) (l4 : Int) (h : hS) : Option (Int × hS) :=
  (c218 s2 l4 (hI h 395 17) 0 h).bind (fun v23 =>
  (some (sI v23.2 395 22 v23.1)).bind (fun h24 =>
  c211_j303 h24))
set_option maxRecDepth 100000 in
theorem t211_j263 {d : Nat} {call : Nat → List Int → hS → Option (Int × hS)} (hcall : ∀ (k : Nat) (as : List Int) (h : hS) (w : mmW) (o : Int × hS), Abs h w → (∀ a ∈ as, rg a) → call k as h = some o → hEv d k (vR 395 :: as.map vI) w (qI o)) (hd : 125 ≤ d) {s2 : Int} {l4 : Int} {z1 : Option hO} {z2 : Option hO} {z3 : Option hO} {h : hS} {w : mmW} {o : Int × hS} {Q : mmO → Prop} (rs2 : rg s2) (rl4 : rg l4) (A : Abs h w) (e : c211_j263 s2 l4 h = some o) (kr : ∀ (v1 : Int) (h1 : hS), o = (v1, h1) → ∀ w', rg v1 → Abs h1 w' → Q (some (.int (Int32.ofInt v1)), w')) : hG d 211 263 [some (vr 395), z1, z2, z3, some (vi l4)] [vI s2, vR 395, vR 395] w Q := by
  unfold c211_j263 at e
  refine hg_run 2 (pc' := 266) (ls' := [some (vr 395), z1, z2, z3, some (vi l4)]) (st' := [vR 395, vI l4, vI s2, vR 395, vR 395]) rfl ?_
  refine gs_395_17 rfl A ?_
  refine hg_run 1 (pc' := 270) (ls' := [some (vr 395), z1, z2, z3, some (vi l4)]) (st' := [vI 0, vI (hI h 395 17), vI l4, vI s2, vR 395, vR 395]) rfl ?_
  obtain ⟨v23, e23, e⟩ := ob e
  refine hg_cI (as := [vR 395, vI s2, vI l4, vI (hI h 395 17), vI 0]) (st' := [vR 395]) rfl (fun _ _ _ _ => rfl) rfl rfl (Nat.le_of_ble_eq_true rfl) (Nat.le_of_ble_eq_true rfl) (recvV A (a := 13) (Abs_ks A (i := 23) rfl).1) (t218 (by omega) A rs2 rl4 (Abs_rg A 395 17) (rgn 0 rfl) e23) (fun w23 r23 A23 => ?_)
  obtain ⟨h24, e24, e⟩ := ob e
  refine ps_395_22 rfl A23 r23 e24 (fun w24 A24 => ?_)
  refine hg_run 1 (pc' := 303) (ls' := [some (vr 395), z1, z2, z3, some (vi l4)]) (st' := []) rfl ?_
  exact t211_j303 hcall hd  A24 e kr
def c211_j248 (l2 : Int) (l4 : Int) (h : hS) : Option (Int × hS) :=
  if l2 = 109 then
  c211_j263 24 l4 h
  else
  c211_j263 25 l4 h
set_option maxRecDepth 100000 in
theorem t211_j248 {d : Nat} {call : Nat → List Int → hS → Option (Int × hS)} (hcall : ∀ (k : Nat) (as : List Int) (h : hS) (w : mmW) (o : Int × hS), Abs h w → (∀ a ∈ as, rg a) → call k as h = some o → hEv d k (vR 395 :: as.map vI) w (qI o)) (hd : 125 ≤ d) {l2 : Int} {l4 : Int} {z1 : Option hO} {z3 : Option hO} {h : hS} {w : mmW} {o : Int × hS} {Q : mmO → Prop} (rl2 : rg l2) (rl4 : rg l4) (A : Abs h w) (e : c211_j248 l2 l4 h = some o) (kr : ∀ (v1 : Int) (h1 : hS), o = (v1, h1) → ∀ w', rg v1 → Abs h1 w' → Q (some (.int (Int32.ofInt v1)), w')) : hG d 211 248 [some (vr 395), z1, some (vi l2), z3, some (vi l4)] [] w Q := by
  unfold c211_j248 at e
  refine hg_run 4 (pc' := 253) (ls' := [some (vr 395), z1, some (vi l2), z3, some (vi l4)]) (st' := [vI 109, vI l2, vR 395, vR 395]) rfl ?_
  rcases oi e with ⟨q22, e⟩ | ⟨q22, e⟩
  · refine hg_icF (tgt := 261) rfl (by decide) rl2 (rgn 109 rfl) (show ¬ ¬ (l2 = 109) from fun f => f q22) ?_
    refine hg_run 2 (pc' := 263) (ls' := [some (vr 395), z1, some (vi l2), z3, some (vi l4)]) (st' := [vI 24, vR 395, vR 395]) rfl ?_
    exact t211_j263 hcall hd (rgn 24 rfl) rl4 A e kr
  · refine hg_icT (tgt := 261) rfl (by decide) rl2 (rgn 109 rfl) (show ¬ (l2 = 109) from q22) ?_
    refine hg_run 1 (pc' := 263) (ls' := [some (vr 395), z1, some (vi l2), z3, some (vi l4)]) (st' := [vI 25, vR 395, vR 395]) rfl ?_
    exact t211_j263 hcall hd (rgn 25 rfl) rl4 A e kr
def c211_j218 (l2 : Int) (h : hS) : Option (Int × hS) :=
  (c196  h).bind (fun v19 =>
  if v19.1 = 0 then
  some (0, v19.2)
  else
  if l2 = 110 then
  (c196  v19.2).bind (fun v25 =>
  if v25.1 = 0 then
  some (0, v25.2)
  else
  c211_j248 l2 (hI v19.2 395 17) v25.2)
  else
  c211_j248 l2 (hI v19.2 395 17) v19.2)
set_option maxRecDepth 100000 in
theorem t211_j218 {d : Nat} {call : Nat → List Int → hS → Option (Int × hS)} (hcall : ∀ (k : Nat) (as : List Int) (h : hS) (w : mmW) (o : Int × hS), Abs h w → (∀ a ∈ as, rg a) → call k as h = some o → hEv d k (vR 395 :: as.map vI) w (qI o)) (hd : 125 ≤ d) {l2 : Int} {z1 : Option hO} {z3 : Option hO} {z4 : Option hO} {h : hS} {w : mmW} {o : Int × hS} {Q : mmO → Prop} (rl2 : rg l2) (A : Abs h w) (e : c211_j218 l2 h = some o) (kr : ∀ (v1 : Int) (h1 : hS), o = (v1, h1) → ∀ w', rg v1 → Abs h1 w' → Q (some (.int (Int32.ofInt v1)), w')) : hG d 211 218 [some (vr 395), z1, some (vi l2), z3, z4] [] w Q := by
  unfold c211_j218 at e
  refine hg_run 1 (pc' := 219) (ls' := [some (vr 395), z1, some (vi l2), z3, z4]) (st' := [vR 395]) rfl ?_
  obtain ⟨v19, e19, e⟩ := ob e
  refine hg_cI (as := [vR 395]) (st' := []) rfl (fun _ _ _ _ => rfl) rfl rfl (Nat.le_of_ble_eq_true rfl) (Nat.le_of_ble_eq_true rfl) (recvV A (a := 13) (Abs_ks A (i := 23) rfl).1) (t196 (by omega) A  e19) (fun w19 r19 A19 => ?_)
  rcases oi e with ⟨q20, e⟩ | ⟨q20, e⟩
  · refine hg_ifF (tgt := 227) rfl (by decide) r19 (show ¬ ¬ (v19.1 = 0) from fun f => f q20) ?_
    refine hg_run 1 (pc' := 226) (ls' := [some (vr 395), z1, some (vi l2), z3, z4]) (st' := [vI 0]) rfl ?_
    cases e
    exact hg_retI rfl (by decide) (fit_B (.inl rfl)) (kr _ _ rfl _ (rgn 0 rfl) A19)
  · refine hg_ifT (tgt := 227) rfl (by decide) r19 (show ¬ (v19.1 = 0) from q20) ?_
    refine hg_run 1 (pc' := 228) (ls' := [some (vr 395), z1, some (vi l2), z3, z4]) (st' := [vR 395]) rfl ?_
    refine gs_395_17 rfl A19 ?_
    refine hg_run 3 (pc' := 236) (ls' := [some (vr 395), z1, some (vi l2), z3, some (vi (hI v19.2 395 17))]) (st' := [vI 110, vI l2]) rfl ?_
    rcases oi e with ⟨q21, e⟩ | ⟨q21, e⟩
    · refine hg_icF (tgt := 248) rfl (by decide) rl2 (rgn 110 rfl) (show ¬ ¬ (l2 = 110) from fun f => f q21) ?_
      refine hg_run 1 (pc' := 240) (ls' := [some (vr 395), z1, some (vi l2), z3, some (vi (hI v19.2 395 17))]) (st' := [vR 395]) rfl ?_
      obtain ⟨v25, e25, e⟩ := ob e
      refine hg_cI (as := [vR 395]) (st' := []) rfl (fun _ _ _ _ => rfl) rfl rfl (Nat.le_of_ble_eq_true rfl) (Nat.le_of_ble_eq_true rfl) (recvV A19 (a := 13) (Abs_ks A19 (i := 23) rfl).1) (t196 (by omega) A19  e25) (fun w25 r25 A25 => ?_)
      rcases oi e with ⟨q26, e⟩ | ⟨q26, e⟩
      · refine hg_ifF (tgt := 248) rfl (by decide) r25 (show ¬ ¬ (v25.1 = 0) from fun f => f q26) ?_
        refine hg_run 1 (pc' := 247) (ls' := [some (vr 395), z1, some (vi l2), z3, some (vi (hI v19.2 395 17))]) (st' := [vI 0]) rfl ?_
        cases e
        exact hg_retI rfl (by decide) (fit_B (.inl rfl)) (kr _ _ rfl _ (rgn 0 rfl) A25)
      · refine hg_ifT (tgt := 248) rfl (by decide) r25 (show ¬ (v25.1 = 0) from q26) ?_
        exact t211_j248 hcall hd rl2 (Abs_rg A19 395 17) A25 e kr
    · refine hg_icT (tgt := 248) rfl (by decide) rl2 (rgn 110 rfl) (show ¬ (l2 = 110) from q21) ?_
      exact t211_j248 hcall hd rl2 (Abs_rg A19 395 17) A19 e kr
def c211_j294 (s2 : Int) (h : hS) : Option (Int × hS) :=
  (c218 s2 0 0 0 h).bind (fun v29 =>
  (some (sI v29.2 395 22 v29.1)).bind (fun h30 =>
  c211_j303 h30))
set_option maxRecDepth 100000 in
theorem t211_j294 {d : Nat} {call : Nat → List Int → hS → Option (Int × hS)} (hcall : ∀ (k : Nat) (as : List Int) (h : hS) (w : mmW) (o : Int × hS), Abs h w → (∀ a ∈ as, rg a) → call k as h = some o → hEv d k (vR 395 :: as.map vI) w (qI o)) (hd : 125 ≤ d) {s2 : Int} {z1 : Option hO} {z2 : Option hO} {z3 : Option hO} {z4 : Option hO} {h : hS} {w : mmW} {o : Int × hS} {Q : mmO → Prop} (rs2 : rg s2) (A : Abs h w) (e : c211_j294 s2 h = some o) (kr : ∀ (v1 : Int) (h1 : hS), o = (v1, h1) → ∀ w', rg v1 → Abs h1 w' → Q (some (.int (Int32.ofInt v1)), w')) : hG d 211 294 [some (vr 395), z1, z2, z3, z4] [vI s2, vR 395, vR 395] w Q := by
  unfold c211_j294 at e
  refine hg_run 3 (pc' := 297) (ls' := [some (vr 395), z1, z2, z3, z4]) (st' := [vI 0, vI 0, vI 0, vI s2, vR 395, vR 395]) rfl ?_
  obtain ⟨v29, e29, e⟩ := ob e
  refine hg_cI (as := [vR 395, vI s2, vI 0, vI 0, vI 0]) (st' := [vR 395]) rfl (fun _ _ _ _ => rfl) rfl rfl (Nat.le_of_ble_eq_true rfl) (Nat.le_of_ble_eq_true rfl) (recvV A (a := 13) (Abs_ks A (i := 23) rfl).1) (t218 (by omega) A rs2 (rgn 0 rfl) (rgn 0 rfl) (rgn 0 rfl) e29) (fun w29 r29 A29 => ?_)
  obtain ⟨h30, e30, e⟩ := ob e
  refine ps_395_22 rfl A29 r29 e30 (fun w30 A30 => ?_)
  exact t211_j303 hcall hd  A30 e kr
def c211_j53 (call : Nat → List Int → hS → Option (Int × hS)) (l2 : Int) (h : hS) : Option (Int × hS) :=
  if (hI h 395 20) = 60 then
  (c194 3 h).bind (fun v43 =>
  (kB v43.1).bind (fun u44 =>
  some (v43.1, v43.2)))
  else
  (some (sI h 395 20 (wadd (hI h 395 20) 1))).bind (fun h5 =>
  if l2 = 112 then
  (call 212 [] h5).bind (fun v41 =>
  (kB v41.1).bind (fun u42 =>
  some (v41.1, v41.2)))
  else
  if l2 = 2 then
  (c196  h5).bind (fun v31 =>
  if v31.1 = 0 then
  some (0, v31.2)
  else
  (c202 61 v31.2).bind (fun v33 =>
  if v33.1 = 0 then
  some (0, v33.2)
  else
  (g214 120 214 [] v33.2).bind (fun v35 =>
  if v35.1 = 0 then
  some (0, v35.2)
  else
  (c218 20 (hI v31.2 395 17) (hI v35.2 395 19) 0 v35.2).bind (fun v37 =>
  (some (sI v37.2 395 22 v37.1)).bind (fun h38 =>
  (c202 59 h38).bind (fun v39 =>
  (kB v39.1).bind (fun u40 =>
  some (v39.1, v39.2))))))))
  else
  (c188  h5).bind (fun h8 =>
  if l2 = 106 then
  c211_j167 l2 h8
  else
  if l2 = 107 then
  c211_j167 l2 h8
  else
  if l2 = 109 then
  c211_j218 l2 h8
  else
  if l2 = 110 then
  c211_j218 l2 h8
  else
  if l2 = 108 then
  c211_j294 23 h8
  else
  c211_j294 26 h8))
set_option maxRecDepth 100000 in
theorem t211_j53 {d : Nat} {call : Nat → List Int → hS → Option (Int × hS)} (hcall : ∀ (k : Nat) (as : List Int) (h : hS) (w : mmW) (o : Int × hS), Abs h w → (∀ a ∈ as, rg a) → call k as h = some o → hEv d k (vR 395 :: as.map vI) w (qI o)) (hd : 125 ≤ d) {l2 : Int} {z1 : Option hO} {z3 : Option hO} {z4 : Option hO} {h : hS} {w : mmW} {o : Int × hS} {Q : mmO → Prop} (rl2 : rg l2) (A : Abs h w) (e : c211_j53 call l2 h = some o) (kr : ∀ (v1 : Int) (h1 : hS), o = (v1, h1) → ∀ w', rg v1 → Abs h1 w' → Q (some (.int (Int32.ofInt v1)), w')) : hG d 211 53 [some (vr 395), z1, some (vi l2), z3, z4] [] w Q := by
  unfold c211_j53 at e
  refine hg_run 1 (pc' := 54) (ls' := [some (vr 395), z1, some (vi l2), z3, z4]) (st' := [vR 395]) rfl ?_
  refine gs_395_20 rfl A ?_
  refine hg_run 1 (pc' := 59) (ls' := [some (vr 395), z1, some (vi l2), z3, z4]) (st' := [vI 60, vI (hI h 395 20)]) rfl ?_
  rcases oi e with ⟨q4, e⟩ | ⟨q4, e⟩
  · refine hg_icF (tgt := 68) rfl (by decide) (Abs_rg A 395 20) (rgn 60 rfl) (show ¬ ¬ ((hI h 395 20) = 60) from fun f => f q4) ?_
    refine hg_run 2 (pc' := 64) (ls' := [some (vr 395), z1, some (vi l2), z3, z4]) (st' := [vI 3, vR 395]) rfl ?_
    obtain ⟨v43, e43, e⟩ := ob e
    refine hg_cI (as := [vR 395, vI 3]) (st' := []) rfl (fun _ _ _ _ => rfl) rfl rfl (Nat.le_of_ble_eq_true rfl) (Nat.le_of_ble_eq_true rfl) (recvV A (a := 13) (Abs_ks A (i := 23) rfl).1) (t194 (by omega) A (rgn 3 rfl) e43) (fun w43 r43 A43 => ?_)
    obtain ⟨u44, e44, e⟩ := ob e
    cases e
    exact hg_retI rfl (by decide) (fit_B (kB_e e44)) (kr _ _ rfl _ r43 A43)
  · refine hg_icT (tgt := 68) rfl (by decide) (Abs_rg A 395 20) (rgn 60 rfl) (show ¬ ((hI h 395 20) = 60) from q4) ?_
    refine hg_run 2 (pc' := 70) (ls' := [some (vr 395), z1, some (vi l2), z3, z4]) (st' := [vR 395, vR 395]) rfl ?_
    refine gs_395_20 rfl A ?_
    refine hg_run 2 (pc' := 75) (ls' := [some (vr 395), z1, some (vi l2), z3, z4]) (st' := [vI (wadd (hI h 395 20) 1), vR 395]) rfl ?_
    obtain ⟨h5, e5, e⟩ := ob e
    refine ps_395_20 rfl A (rg_add _ _) e5 (fun w5 A5 => ?_)
    refine hg_run 2 (pc' := 81) (ls' := [some (vr 395), z1, some (vi l2), z3, z4]) (st' := [vI 112, vI l2]) rfl ?_
    rcases oi e with ⟨q6, e⟩ | ⟨q6, e⟩
    · refine hg_icF (tgt := 89) rfl (by decide) rl2 (rgn 112 rfl) (show ¬ ¬ (l2 = 112) from fun f => f q6) ?_
      refine hg_run 1 (pc' := 85) (ls' := [some (vr 395), z1, some (vi l2), z3, z4]) (st' := [vR 395]) rfl ?_
      obtain ⟨v41, e41, e⟩ := ob e
      refine hg_cI (as := [vR 395]) (st' := []) rfl (fun _ _ _ _ => rfl) rfl rfl (Nat.le_of_ble_eq_true rfl) (Nat.le_of_ble_eq_true rfl) (recvV A5 (a := 13) (Abs_ks A5 (i := 23) rfl).1) (hcall 212 _ _ _ _ A5 rgl0 e41) (fun w41 r41 A41 => ?_)
      obtain ⟨u42, e42, e⟩ := ob e
      cases e
      exact hg_retI rfl (by decide) (fit_B (kB_e e42)) (kr _ _ rfl _ r41 A41)
    · refine hg_icT (tgt := 89) rfl (by decide) rl2 (rgn 112 rfl) (show ¬ (l2 = 112) from q6) ?_
      refine hg_run 2 (pc' := 91) (ls' := [some (vr 395), z1, some (vi l2), z3, z4]) (st' := [vI 2, vI l2]) rfl ?_
      rcases oi e with ⟨q7, e⟩ | ⟨q7, e⟩
      · refine hg_icF (tgt := 151) rfl (by decide) rl2 (rgn 2 rfl) (show ¬ ¬ (l2 = 2) from fun f => f q7) ?_
        refine hg_run 1 (pc' := 95) (ls' := [some (vr 395), z1, some (vi l2), z3, z4]) (st' := [vR 395]) rfl ?_
        obtain ⟨v31, e31, e⟩ := ob e
        refine hg_cI (as := [vR 395]) (st' := []) rfl (fun _ _ _ _ => rfl) rfl rfl (Nat.le_of_ble_eq_true rfl) (Nat.le_of_ble_eq_true rfl) (recvV A5 (a := 13) (Abs_ks A5 (i := 23) rfl).1) (t196 (by omega) A5  e31) (fun w31 r31 A31 => ?_)
        rcases oi e with ⟨q32, e⟩ | ⟨q32, e⟩
        · refine hg_ifF (tgt := 103) rfl (by decide) r31 (show ¬ ¬ (v31.1 = 0) from fun f => f q32) ?_
          refine hg_run 1 (pc' := 102) (ls' := [some (vr 395), z1, some (vi l2), z3, z4]) (st' := [vI 0]) rfl ?_
          cases e
          exact hg_retI rfl (by decide) (fit_B (.inl rfl)) (kr _ _ rfl _ (rgn 0 rfl) A31)
        · refine hg_ifT (tgt := 103) rfl (by decide) r31 (show ¬ (v31.1 = 0) from q32) ?_
          refine hg_run 1 (pc' := 104) (ls' := [some (vr 395), z1, some (vi l2), z3, z4]) (st' := [vR 395]) rfl ?_
          refine gs_395_17 rfl A31 ?_
          refine hg_run 3 (pc' := 112) (ls' := [some (vr 395), z1, some (vi l2), z3, some (vi (hI v31.2 395 17))]) (st' := [vI 61, vR 395]) rfl ?_
          obtain ⟨v33, e33, e⟩ := ob e
          refine hg_cI (as := [vR 395, vI 61]) (st' := []) rfl (fun _ _ _ _ => rfl) rfl rfl (Nat.le_of_ble_eq_true rfl) (Nat.le_of_ble_eq_true rfl) (recvV A31 (a := 13) (Abs_ks A31 (i := 23) rfl).1) (t202 (by omega) A31 (rgn 61 rfl) e33) (fun w33 r33 A33 => ?_)
          rcases oi e with ⟨q34, e⟩ | ⟨q34, e⟩
          · refine hg_ifT (tgt := 125) rfl (by decide) r33 q34 ?_
            refine hg_run 1 (pc' := 126) (ls' := [some (vr 395), z1, some (vi l2), z3, some (vi (hI v31.2 395 17))]) (st' := [vI 0]) rfl ?_
            cases e
            exact hg_retI rfl (by decide) (fit_B (.inl rfl)) (kr _ _ rfl _ (rgn 0 rfl) A33)
          · refine hg_ifF (tgt := 125) rfl (by decide) r33 q34 ?_
            refine hg_run 1 (pc' := 119) (ls' := [some (vr 395), z1, some (vi l2), z3, some (vi (hI v31.2 395 17))]) (st' := [vR 395]) rfl ?_
            obtain ⟨v35, e35, e⟩ := ob e
            refine hg_cI (as := [vR 395]) (st' := []) rfl (fun _ _ _ _ => rfl) rfl rfl (Nat.le_of_ble_eq_true rfl) (Nat.le_of_ble_eq_true rfl) (recvV A33 (a := 13) (Abs_ks A33 (i := 23) rfl).1) (u214 120 (by omega) 214 _ _ _ _ A33 rgl0 e35) (fun w35 r35 A35 => ?_)
            rcases oi e with ⟨q36, e⟩ | ⟨q36, e⟩
            · refine hg_ifF (tgt := 127) rfl (by decide) r35 (show ¬ ¬ (v35.1 = 0) from fun f => f q36) ?_
              refine hg_run 1 (pc' := 126) (ls' := [some (vr 395), z1, some (vi l2), z3, some (vi (hI v31.2 395 17))]) (st' := [vI 0]) rfl ?_
              cases e
              exact hg_retI rfl (by decide) (fit_B (.inl rfl)) (kr _ _ rfl _ (rgn 0 rfl) A35)
            · refine hg_ifT (tgt := 127) rfl (by decide) r35 (show ¬ (v35.1 = 0) from q36) ?_
              refine hg_run 5 (pc' := 134) (ls' := [some (vr 395), z1, some (vi l2), z3, some (vi (hI v31.2 395 17))]) (st' := [vR 395, vI (hI v31.2 395 17), vI 20, vR 395, vR 395]) rfl ?_
              refine gs_395_19 rfl A35 ?_
              refine hg_run 1 (pc' := 138) (ls' := [some (vr 395), z1, some (vi l2), z3, some (vi (hI v31.2 395 17))]) (st' := [vI 0, vI (hI v35.2 395 19), vI (hI v31.2 395 17), vI 20, vR 395, vR 395]) rfl ?_
              obtain ⟨v37, e37, e⟩ := ob e
              refine hg_cI (as := [vR 395, vI 20, vI (hI v31.2 395 17), vI (hI v35.2 395 19), vI 0]) (st' := [vR 395]) rfl (fun _ _ _ _ => rfl) rfl rfl (Nat.le_of_ble_eq_true rfl) (Nat.le_of_ble_eq_true rfl) (recvV A35 (a := 13) (Abs_ks A35 (i := 23) rfl).1) (t218 (by omega) A35 (rgn 20 rfl) (Abs_rg A31 395 17) (Abs_rg A35 395 19) (rgn 0 rfl) e37) (fun w37 r37 A37 => ?_)
              obtain ⟨h38, e38, e⟩ := ob e
              refine ps_395_22 rfl A37 r37 e38 (fun w38 A38 => ?_)
              refine hg_run 2 (pc' := 147) (ls' := [some (vr 395), z1, some (vi l2), z3, some (vi (hI v31.2 395 17))]) (st' := [vI 59, vR 395]) rfl ?_
              obtain ⟨v39, e39, e⟩ := ob e
              refine hg_cI (as := [vR 395, vI 59]) (st' := []) rfl (fun _ _ _ _ => rfl) rfl rfl (Nat.le_of_ble_eq_true rfl) (Nat.le_of_ble_eq_true rfl) (recvV A38 (a := 13) (Abs_ks A38 (i := 23) rfl).1) (t202 (by omega) A38 (rgn 59 rfl) e39) (fun w39 r39 A39 => ?_)
              obtain ⟨u40, e40, e⟩ := ob e
              cases e
              exact hg_retI rfl (by decide) (fit_B (kB_e e40)) (kr _ _ rfl _ r39 A39)
      · refine hg_icT (tgt := 151) rfl (by decide) rl2 (rgn 2 rfl) (show ¬ (l2 = 2) from q7) ?_
        refine hg_run 1 (pc' := 152) (ls' := [some (vr 395), z1, some (vi l2), z3, z4]) (st' := [vR 395]) rfl ?_
        obtain ⟨h8, e8, e⟩ := ob e
        refine hg_cV (as := [vR 395]) (st' := []) rfl (fun _ _ _ _ => rfl) rfl rfl (Nat.le_of_ble_eq_true rfl) (Nat.le_of_ble_eq_true rfl) (recvV A5 (a := 13) (Abs_ks A5 (i := 23) rfl).1) (t188 (by omega) A5  e8) (fun w8 A8 => ?_)
        refine hg_run 2 (pc' := 158) (ls' := [some (vr 395), z1, some (vi l2), z3, z4]) (st' := [vI 106, vI l2]) rfl ?_
        rcases oi e with ⟨q9, e⟩ | ⟨q9, e⟩
        · refine hg_icT (tgt := 167) rfl (by decide) rl2 (rgn 106 rfl) q9 ?_
          exact t211_j167 hcall hd rl2 A8 e kr
        · refine hg_icF (tgt := 167) rfl (by decide) rl2 (rgn 106 rfl) q9 ?_
          refine hg_run 2 (pc' := 164) (ls' := [some (vr 395), z1, some (vi l2), z3, z4]) (st' := [vI 107, vI l2]) rfl ?_
          rcases oi e with ⟨q17, e⟩ | ⟨q17, e⟩
          · refine hg_icF (tgt := 206) rfl (by decide) rl2 (rgn 107 rfl) (show ¬ ¬ (l2 = 107) from fun f => f q17) ?_
            exact t211_j167 hcall hd rl2 A8 e kr
          · refine hg_icT (tgt := 206) rfl (by decide) rl2 (rgn 107 rfl) (show ¬ (l2 = 107) from q17) ?_
            refine hg_run 2 (pc' := 209) (ls' := [some (vr 395), z1, some (vi l2), z3, z4]) (st' := [vI 109, vI l2]) rfl ?_
            rcases oi e with ⟨q18, e⟩ | ⟨q18, e⟩
            · refine hg_icT (tgt := 218) rfl (by decide) rl2 (rgn 109 rfl) q18 ?_
              exact t211_j218 hcall hd rl2 A8 e kr
            · refine hg_icF (tgt := 218) rfl (by decide) rl2 (rgn 109 rfl) q18 ?_
              refine hg_run 2 (pc' := 215) (ls' := [some (vr 395), z1, some (vi l2), z3, z4]) (st' := [vI 110, vI l2]) rfl ?_
              rcases oi e with ⟨q27, e⟩ | ⟨q27, e⟩
              · refine hg_icF (tgt := 279) rfl (by decide) rl2 (rgn 110 rfl) (show ¬ ¬ (l2 = 110) from fun f => f q27) ?_
                exact t211_j218 hcall hd rl2 A8 e kr
              · refine hg_icT (tgt := 279) rfl (by decide) rl2 (rgn 110 rfl) (show ¬ (l2 = 110) from q27) ?_
                refine hg_run 4 (pc' := 284) (ls' := [some (vr 395), z1, some (vi l2), z3, z4]) (st' := [vI 108, vI l2, vR 395, vR 395]) rfl ?_
                rcases oi e with ⟨q28, e⟩ | ⟨q28, e⟩
                · refine hg_icF (tgt := 292) rfl (by decide) rl2 (rgn 108 rfl) (show ¬ ¬ (l2 = 108) from fun f => f q28) ?_
                  refine hg_run 2 (pc' := 294) (ls' := [some (vr 395), z1, some (vi l2), z3, z4]) (st' := [vI 23, vR 395, vR 395]) rfl ?_
                  exact t211_j294 hcall hd (rgn 23 rfl) A8 e kr
                · refine hg_icT (tgt := 292) rfl (by decide) rl2 (rgn 108 rfl) (show ¬ (l2 = 108) from q28) ?_
                  refine hg_run 1 (pc' := 294) (ls' := [some (vr 395), z1, some (vi l2), z3, z4]) (st' := [vI 26, vR 395, vR 395]) rfl ?_
                  exact t211_j294 hcall hd (rgn 26 rfl) A8 e kr
def c211_j26 (call : Nat → List Int → hS → Option (Int × hS)) (s0 : Int) (l1 : Int) (l2 : Int) (h : hS) : Option (Int × hS) :=
  if s0 = 0 then
  (c194 1 h).bind (fun v48 =>
  (kB v48.1).bind (fun u49 =>
  some (v48.1, v48.2)))
  else
  if l2 = 111 then
  if l1 = 0 then
  (c194 2 h).bind (fun v46 =>
  (kB v46.1).bind (fun u47 =>
  some (v46.1, v46.2)))
  else
  c211_j53 call l2 h
  else
  c211_j53 call l2 h
set_option maxRecDepth 100000 in
theorem t211_j26 {d : Nat} {call : Nat → List Int → hS → Option (Int × hS)} (hcall : ∀ (k : Nat) (as : List Int) (h : hS) (w : mmW) (o : Int × hS), Abs h w → (∀ a ∈ as, rg a) → call k as h = some o → hEv d k (vR 395 :: as.map vI) w (qI o)) (hd : 125 ≤ d) {s0 : Int} {l1 : Int} {l2 : Int} {z3 : Option hO} {z4 : Option hO} {h : hS} {w : mmW} {o : Int × hS} {Q : mmO → Prop} (rs0 : rg s0) (rl1 : rg l1) (rl2 : rg l2) (A : Abs h w) (e : c211_j26 call s0 l1 l2 h = some o) (kr : ∀ (v1 : Int) (h1 : hS), o = (v1, h1) → ∀ w', rg v1 → Abs h1 w' → Q (some (.int (Int32.ofInt v1)), w')) : hG d 211 26 [some (vr 395), some (vi l1), some (vi l2), z3, z4] [vI s0] w Q := by
  unfold c211_j26 at e
  refine hg_run 2 (pc' := 28) (ls' := [some (vr 395), some (vi l1), some (vi l2), some (vi s0), z4]) (st' := [vI s0]) rfl ?_
  rcases oi e with ⟨q2, e⟩ | ⟨q2, e⟩
  · refine hg_ifF (tgt := 37) rfl (by decide) rs0 (show ¬ ¬ (s0 = 0) from fun f => f q2) ?_
    refine hg_run 2 (pc' := 33) (ls' := [some (vr 395), some (vi l1), some (vi l2), some (vi s0), z4]) (st' := [vI 1, vR 395]) rfl ?_
    obtain ⟨v48, e48, e⟩ := ob e
    refine hg_cI (as := [vR 395, vI 1]) (st' := []) rfl (fun _ _ _ _ => rfl) rfl rfl (Nat.le_of_ble_eq_true rfl) (Nat.le_of_ble_eq_true rfl) (recvV A (a := 13) (Abs_ks A (i := 23) rfl).1) (t194 (by omega) A (rgn 1 rfl) e48) (fun w48 r48 A48 => ?_)
    obtain ⟨u49, e49, e⟩ := ob e
    cases e
    exact hg_retI rfl (by decide) (fit_B (kB_e e49)) (kr _ _ rfl _ r48 A48)
  · refine hg_ifT (tgt := 37) rfl (by decide) rs0 (show ¬ (s0 = 0) from q2) ?_
    refine hg_run 2 (pc' := 40) (ls' := [some (vr 395), some (vi l1), some (vi l2), some (vi s0), z4]) (st' := [vI 111, vI l2]) rfl ?_
    rcases oi e with ⟨q3, e⟩ | ⟨q3, e⟩
    · refine hg_icF (tgt := 53) rfl (by decide) rl2 (rgn 111 rfl) (show ¬ ¬ (l2 = 111) from fun f => f q3) ?_
      refine hg_run 1 (pc' := 44) (ls' := [some (vr 395), some (vi l1), some (vi l2), some (vi s0), z4]) (st' := [vI l1]) rfl ?_
      rcases oi e with ⟨q45, e⟩ | ⟨q45, e⟩
      · refine hg_ifF (tgt := 53) rfl (by decide) rl1 (show ¬ ¬ (l1 = 0) from fun f => f q45) ?_
        refine hg_run 2 (pc' := 49) (ls' := [some (vr 395), some (vi l1), some (vi l2), some (vi s0), z4]) (st' := [vI 2, vR 395]) rfl ?_
        obtain ⟨v46, e46, e⟩ := ob e
        refine hg_cI (as := [vR 395, vI 2]) (st' := []) rfl (fun _ _ _ _ => rfl) rfl rfl (Nat.le_of_ble_eq_true rfl) (Nat.le_of_ble_eq_true rfl) (recvV A (a := 13) (Abs_ks A (i := 23) rfl).1) (t194 (by omega) A (rgn 2 rfl) e46) (fun w46 r46 A46 => ?_)
        obtain ⟨u47, e47, e⟩ := ob e
        cases e
        exact hg_retI rfl (by decide) (fit_B (kB_e e47)) (kr _ _ rfl _ r46 A46)
      · refine hg_ifT (tgt := 53) rfl (by decide) rl1 (show ¬ (l1 = 0) from q45) ?_
        exact t211_j53 hcall hd rl2 A e kr
    · refine hg_icT (tgt := 53) rfl (by decide) rl2 (rgn 111 rfl) (show ¬ (l2 = 111) from q3) ?_
      exact t211_j53 hcall hd rl2 A e kr
def c211_j21 (call : Nat → List Int → hS → Option (Int × hS)) (l1 : Int) (l2 : Int) (h : hS) : Option (Int × hS) :=
  c211_j26 call 1 l1 l2 h
set_option maxRecDepth 100000 in
theorem t211_j21 {d : Nat} {call : Nat → List Int → hS → Option (Int × hS)} (hcall : ∀ (k : Nat) (as : List Int) (h : hS) (w : mmW) (o : Int × hS), Abs h w → (∀ a ∈ as, rg a) → call k as h = some o → hEv d k (vR 395 :: as.map vI) w (qI o)) (hd : 125 ≤ d) {l1 : Int} {l2 : Int} {z3 : Option hO} {z4 : Option hO} {h : hS} {w : mmW} {o : Int × hS} {Q : mmO → Prop} (rl1 : rg l1) (rl2 : rg l2) (A : Abs h w) (e : c211_j21 call l1 l2 h = some o) (kr : ∀ (v1 : Int) (h1 : hS), o = (v1, h1) → ∀ w', rg v1 → Abs h1 w' → Q (some (.int (Int32.ofInt v1)), w')) : hG d 211 21 [some (vr 395), some (vi l1), some (vi l2), z3, z4] [] w Q := by
  unfold c211_j21 at e
  refine hg_run 2 (pc' := 26) (ls' := [some (vr 395), some (vi l1), some (vi l2), z3, z4]) (st' := [vI 1]) rfl ?_
  exact t211_j26 hcall hd (rgn 1 rfl) rl1 rl2 A e kr
def c211 (call : Nat → List Int → hS → Option (Int × hS)) (l1 : Int) (h : hS) : Option (Int × hS) :=
  if (hI h 395 3) = 2 then
  c211_j21 call l1 (hI h 395 3) h
  else
  (c191 (hI h 395 3) 106 112 h).bind (fun v50 =>
  if v50 = 0 then
  c211_j26 call 0 l1 (hI h 395 3) h
  else
  c211_j21 call l1 (hI h 395 3) h)
set_option maxRecDepth 100000 in
theorem t211 {d : Nat} {call : Nat → List Int → hS → Option (Int × hS)} (hcall : ∀ (k : Nat) (as : List Int) (h : hS) (w : mmW) (o : Int × hS), Abs h w → (∀ a ∈ as, rg a) → call k as h = some o → hEv d k (vR 395 :: as.map vI) w (qI o)) (hd : 125 ≤ d) {l1 : Int} {h : hS} {w : mmW} {o : Int × hS} (A : Abs h w) (rl1 : rg l1) (e : c211 call l1 h = some o) : hEv (d + 1) 211 [vR 395, vI l1] w (qI o) := by
  refine hEv_start (args := [vr 395, vi l1]) (nl := 5) rfl (Nat.le_of_ble_eq_true rfl) ?_
  show hG d 211 0 [some (vr 395), some (vi l1), none, none, none] [] w _
  have kr : ∀ (v1 : Int) (h1 : hS), o = (v1, h1) → ∀ w', rg v1 → Abs h1 w' → qI o (some (.int (Int32.ofInt v1)), w') := fun v1 h1 q w' r A' => by cases q; exact ⟨rfl, r, A'⟩
  unfold c211 at e
  refine hg_run 1 (pc' := 1) (ls' := [some (vr 395), some (vi l1), none, none, none]) (st' := [vR 395]) rfl ?_
  refine gs_395_3 rfl A ?_
  refine hg_run 3 (pc' := 7) (ls' := [some (vr 395), some (vi l1), some (vi (hI h 395 3)), none, none]) (st' := [vI 2, vI (hI h 395 3)]) rfl ?_
  rcases oi e with ⟨q1, e⟩ | ⟨q1, e⟩
  · refine hg_icT (tgt := 21) rfl (by decide) (Abs_rg A 395 3) (rgn 2 rfl) q1 ?_
    exact t211_j21 hcall hd rl1 (Abs_rg A 395 3) A e kr
  · refine hg_icF (tgt := 21) rfl (by decide) (Abs_rg A 395 3) (rgn 2 rfl) q1 ?_
    refine hg_run 3 (pc' := 15) (ls' := [some (vr 395), some (vi l1), some (vi (hI h 395 3)), none, none]) (st' := [vI 112, vI 106, vI (hI h 395 3)]) rfl ?_
    obtain ⟨v50, e50, e⟩ := ob e
    refine hg_cIp (as := [vI (hI h 395 3), vI 106, vI 112]) (st' := []) rfl (fun _ _ _ _ => rfl) rfl rfl (Nat.le_of_ble_eq_true rfl) (Nat.le_of_ble_eq_true rfl) recv0 (t191 (by omega) A (Abs_rg A 395 3) (rgn 106 rfl) (rgn 112 rfl) e50) (fun r50 => ?_)
    rcases oi e with ⟨q51, e⟩ | ⟨q51, e⟩
    · refine hg_ifT (tgt := 25) rfl (by decide) r50 q51 ?_
      refine hg_run 1 (pc' := 26) (ls' := [some (vr 395), some (vi l1), some (vi (hI h 395 3)), none, none]) (st' := [vI 0]) rfl ?_
      exact t211_j26 hcall hd (rgn 0 rfl) rl1 (Abs_rg A 395 3) A e kr
    · refine hg_ifF (tgt := 25) rfl (by decide) r50 q51 ?_
      exact t211_j21 hcall hd rl1 (Abs_rg A 395 3) A e kr
def c212_j66 (l1 : Int) (l2 : Int) (l3 : Int) (h : hS) : Option (Int × hS) :=
  (some (sI h 395 18 (wsub (hI h 395 18) 1))).bind (fun h8 =>
  (c218 27 l1 l2 l3 h8).bind (fun v9 =>
  (some (sI v9.2 395 22 v9.1)).bind (fun h10 =>
  some (1, h10))))
theorem t212_j66 {d : Nat} {call : Nat → List Int → hS → Option (Int × hS)} (hcall : ∀ (k : Nat) (as : List Int) (h : hS) (w : mmW) (o : Int × hS), Abs h w → (∀ a ∈ as, rg a) → call k as h = some o → hEv d k (vR 395 :: as.map vI) w (qI o)) (hd : 125 ≤ d) {l1 : Int} {l2 : Int} {l3 : Int}  {h : hS} {w : mmW} {o : Int × hS} {Q : mmO → Prop} (rl1 : rg l1) (rl2 : rg l2) (rl3 : rg l3) (A : Abs h w) (e : c212_j66 l1 l2 l3 h = some o) (kr : ∀ (v1 : Int) (h1 : hS), o = (v1, h1) → ∀ w', rg v1 → Abs h1 w' → Q (some (.int (Int32.ofInt v1)), w')) : hG d 212 66 [some (vr 395), some (vi l1), some (vi l2), some (vi l3)] [] w Q := by
  unfold c212_j66 at e
  refine hg_run 2 (pc' := 68) (ls' := [some (vr 395), some (vi l1), some (vi l2), some (vi l3)]) (st' := [vR 395, vR 395]) rfl ?_
  refine gs_395_18 rfl A ?_
  refine hg_run 2 (pc' := 73) (ls' := [some (vr 395), some (vi l1), some (vi l2), some (vi l3)]) (st' := [vI (wsub (hI h 395 18) 1), vR 395]) rfl ?_
  obtain ⟨h8, e8, e⟩ := ob e
  refine ps_395_18 rfl A (rg_sub _ _) e8 (fun w8 A8 => ?_)
  refine hg_run 6 (pc' := 83) (ls' := [some (vr 395), some (vi l1), some (vi l2), some (vi l3)]) (st' := [vI l3, vI l2, vI l1, vI 27, vR 395, vR 395]) rfl ?_
  obtain ⟨v9, e9, e⟩ := ob e
  refine hg_cI (as := [vR 395, vI 27, vI l1, vI l2, vI l3]) (st' := [vR 395]) rfl (fun _ _ _ _ => rfl) rfl rfl (Nat.le_of_ble_eq_true rfl) (Nat.le_of_ble_eq_true rfl) (recvV A8 (a := 13) (Abs_ks A8 (i := 23) rfl).1) (t218 (by omega) A8 (rgn 27 rfl) rl1 rl2 rl3 e9) (fun w9 r9 A9 => ?_)
  obtain ⟨h10, e10, e⟩ := ob e
  refine ps_395_22 rfl A9 r9 e10 (fun w10 A10 => ?_)
  refine hg_run 1 (pc' := 90) (ls' := [some (vr 395), some (vi l1), some (vi l2), some (vi l3)]) (st' := [vI 1]) rfl ?_
  cases e
  exact hg_retI rfl (by decide) (fit_B (.inr rfl)) (kr _ _ rfl _ (rgn 1 rfl) A10)
def c212 (call : Nat → List Int → hS → Option (Int × hS)) (h : hS) : Option (Int × hS) :=
  (c213  h).bind (fun v1 =>
  if v1.1 = 0 then
  some (0, v1.2)
  else
  (g214 120 214 [] v1.2).bind (fun v3 =>
  if v3.1 = 0 then
  some (0, v3.2)
  else
  (call 210 [0] v3.2).bind (fun v5 =>
  if v5.1 = 0 then
  some (0, v5.2)
  else
  if (hI v5.2 395 3) = 113 then
  (c188  v5.2).bind (fun h11 =>
  (call 210 [0] h11).bind (fun v12 =>
  if v12.1 = 0 then
  some (0, v12.2)
  else
  c212_j66 (hI v3.2 395 19) (hI v5.2 395 21) (hI v12.2 395 21) v12.2))
  else
  c212_j66 (hI v3.2 395 19) (hI v5.2 395 21) (-1) v5.2)))
theorem t212 {d : Nat} {call : Nat → List Int → hS → Option (Int × hS)} (hcall : ∀ (k : Nat) (as : List Int) (h : hS) (w : mmW) (o : Int × hS), Abs h w → (∀ a ∈ as, rg a) → call k as h = some o → hEv d k (vR 395 :: as.map vI) w (qI o)) (hd : 125 ≤ d)  {h : hS} {w : mmW} {o : Int × hS} (A : Abs h w)  (e : c212 call h = some o) : hEv (d + 1) 212 [vR 395] w (qI o) := by
  refine hEv_start (args := [vr 395]) (nl := 4) rfl (Nat.le_of_ble_eq_true rfl) ?_
  show hG d 212 0 [some (vr 395), none, none, none] [] w _
  have kr : ∀ (v1 : Int) (h1 : hS), o = (v1, h1) → ∀ w', rg v1 → Abs h1 w' → qI o (some (.int (Int32.ofInt v1)), w') := fun v1 h1 q w' r A' => by cases q; exact ⟨rfl, r, A'⟩
  unfold c212 at e
  refine hg_run 1 (pc' := 1) (ls' := [some (vr 395), none, none, none]) (st' := [vR 395]) rfl ?_
  obtain ⟨v1, e1, e⟩ := ob e
  refine hg_cI (as := [vR 395]) (st' := []) rfl (fun _ _ _ _ => rfl) rfl rfl (Nat.le_of_ble_eq_true rfl) (Nat.le_of_ble_eq_true rfl) (recvV A (a := 13) (Abs_ks A (i := 23) rfl).1) (t213 (by omega) A  e1) (fun w1 r1 A1 => ?_)
  rcases oi e with ⟨q2, e⟩ | ⟨q2, e⟩
  · refine hg_ifT (tgt := 14) rfl (by decide) r1 q2 ?_
    refine hg_run 1 (pc' := 15) (ls' := [some (vr 395), none, none, none]) (st' := [vI 0]) rfl ?_
    cases e
    exact hg_retI rfl (by decide) (fit_B (.inl rfl)) (kr _ _ rfl _ (rgn 0 rfl) A1)
  · refine hg_ifF (tgt := 14) rfl (by decide) r1 q2 ?_
    refine hg_run 1 (pc' := 8) (ls' := [some (vr 395), none, none, none]) (st' := [vR 395]) rfl ?_
    obtain ⟨v3, e3, e⟩ := ob e
    refine hg_cI (as := [vR 395]) (st' := []) rfl (fun _ _ _ _ => rfl) rfl rfl (Nat.le_of_ble_eq_true rfl) (Nat.le_of_ble_eq_true rfl) (recvV A1 (a := 13) (Abs_ks A1 (i := 23) rfl).1) (u214 120 (by omega) 214 _ _ _ _ A1 rgl0 e3) (fun w3 r3 A3 => ?_)
    rcases oi e with ⟨q4, e⟩ | ⟨q4, e⟩
    · refine hg_ifF (tgt := 16) rfl (by decide) r3 (show ¬ ¬ (v3.1 = 0) from fun f => f q4) ?_
      refine hg_run 1 (pc' := 15) (ls' := [some (vr 395), none, none, none]) (st' := [vI 0]) rfl ?_
      cases e
      exact hg_retI rfl (by decide) (fit_B (.inl rfl)) (kr _ _ rfl _ (rgn 0 rfl) A3)
    · refine hg_ifT (tgt := 16) rfl (by decide) r3 (show ¬ (v3.1 = 0) from q4) ?_
      refine hg_run 1 (pc' := 17) (ls' := [some (vr 395), none, none, none]) (st' := [vR 395]) rfl ?_
      refine gs_395_19 rfl A3 ?_
      refine hg_run 3 (pc' := 23) (ls' := [some (vr 395), some (vi (hI v3.2 395 19)), none, none]) (st' := [vI 0, vR 395]) rfl ?_
      obtain ⟨v5, e5, e⟩ := ob e
      refine hg_cI (as := [vR 395, vI 0]) (st' := []) rfl (fun _ _ _ _ => rfl) rfl rfl (Nat.le_of_ble_eq_true rfl) (Nat.le_of_ble_eq_true rfl) (recvV A3 (a := 13) (Abs_ks A3 (i := 23) rfl).1) (hcall 210 _ _ _ _ A3 (rglc (rgn 0 rfl) rgl0) e5) (fun w5 r5 A5 => ?_)
      rcases oi e with ⟨q6, e⟩ | ⟨q6, e⟩
      · refine hg_ifF (tgt := 31) rfl (by decide) r5 (show ¬ ¬ (v5.1 = 0) from fun f => f q6) ?_
        refine hg_run 1 (pc' := 30) (ls' := [some (vr 395), some (vi (hI v3.2 395 19)), none, none]) (st' := [vI 0]) rfl ?_
        cases e
        exact hg_retI rfl (by decide) (fit_B (.inl rfl)) (kr _ _ rfl _ (rgn 0 rfl) A5)
      · refine hg_ifT (tgt := 31) rfl (by decide) r5 (show ¬ (v5.1 = 0) from q6) ?_
        refine hg_run 1 (pc' := 32) (ls' := [some (vr 395), some (vi (hI v3.2 395 19)), none, none]) (st' := [vR 395]) rfl ?_
        refine gs_395_21 rfl A5 ?_
        refine hg_run 4 (pc' := 39) (ls' := [some (vr 395), some (vi (hI v3.2 395 19)), some (vi (hI v5.2 395 21)), some (vi (-1))]) (st' := [vR 395]) rfl ?_
        refine gs_395_3 rfl A5 ?_
        refine hg_run 1 (pc' := 44) (ls' := [some (vr 395), some (vi (hI v3.2 395 19)), some (vi (hI v5.2 395 21)), some (vi (-1))]) (st' := [vI 113, vI (hI v5.2 395 3)]) rfl ?_
        rcases oi e with ⟨q7, e⟩ | ⟨q7, e⟩
        · refine hg_icF (tgt := 66) rfl (by decide) (Abs_rg A5 395 3) (rgn 113 rfl) (show ¬ ¬ ((hI v5.2 395 3) = 113) from fun f => f q7) ?_
          refine hg_run 1 (pc' := 48) (ls' := [some (vr 395), some (vi (hI v3.2 395 19)), some (vi (hI v5.2 395 21)), some (vi (-1))]) (st' := [vR 395]) rfl ?_
          obtain ⟨h11, e11, e⟩ := ob e
          refine hg_cV (as := [vR 395]) (st' := []) rfl (fun _ _ _ _ => rfl) rfl rfl (Nat.le_of_ble_eq_true rfl) (Nat.le_of_ble_eq_true rfl) (recvV A5 (a := 13) (Abs_ks A5 (i := 23) rfl).1) (t188 (by omega) A5  e11) (fun w11 A11 => ?_)
          refine hg_run 2 (pc' := 53) (ls' := [some (vr 395), some (vi (hI v3.2 395 19)), some (vi (hI v5.2 395 21)), some (vi (-1))]) (st' := [vI 0, vR 395]) rfl ?_
          obtain ⟨v12, e12, e⟩ := ob e
          refine hg_cI (as := [vR 395, vI 0]) (st' := []) rfl (fun _ _ _ _ => rfl) rfl rfl (Nat.le_of_ble_eq_true rfl) (Nat.le_of_ble_eq_true rfl) (recvV A11 (a := 13) (Abs_ks A11 (i := 23) rfl).1) (hcall 210 _ _ _ _ A11 (rglc (rgn 0 rfl) rgl0) e12) (fun w12 r12 A12 => ?_)
          rcases oi e with ⟨q13, e⟩ | ⟨q13, e⟩
          · refine hg_ifF (tgt := 61) rfl (by decide) r12 (show ¬ ¬ (v12.1 = 0) from fun f => f q13) ?_
            refine hg_run 1 (pc' := 60) (ls' := [some (vr 395), some (vi (hI v3.2 395 19)), some (vi (hI v5.2 395 21)), some (vi (-1))]) (st' := [vI 0]) rfl ?_
            cases e
            exact hg_retI rfl (by decide) (fit_B (.inl rfl)) (kr _ _ rfl _ (rgn 0 rfl) A12)
          · refine hg_ifT (tgt := 61) rfl (by decide) r12 (show ¬ (v12.1 = 0) from q13) ?_
            refine hg_run 1 (pc' := 62) (ls' := [some (vr 395), some (vi (hI v3.2 395 19)), some (vi (hI v5.2 395 21)), some (vi (-1))]) (st' := [vR 395]) rfl ?_
            refine gs_395_21 rfl A12 ?_
            refine hg_run 1 (pc' := 66) (ls' := [some (vr 395), some (vi (hI v3.2 395 19)), some (vi (hI v5.2 395 21)), some (vi (hI v12.2 395 21))]) (st' := []) rfl ?_
            exact t212_j66 hcall hd (Abs_rg A3 395 19) (Abs_rg A5 395 21) (Abs_rg A12 395 21) A12 e kr
        · refine hg_icT (tgt := 66) rfl (by decide) (Abs_rg A5 395 3) (rgn 113 rfl) (show ¬ ((hI v5.2 395 3) = 113) from q7) ?_
          exact t212_j66 hcall hd (Abs_rg A3 395 19) (Abs_rg A5 395 21) (rgn (-1) rfl) A5 e kr
def g210 : Nat → Nat → List Int → hS → Option (Int × hS)
  | 0, _, _, _ => none
  | f + 1, 210, [a0], h => c210 (g210 f) a0 h
  | f + 1, 211, [a0], h => c211 (g210 f) a0 h
  | f + 1, 212, [], h => c212 (g210 f)  h
  | _ + 1, _, _, _ => none
theorem u210 : ∀ (f : Nat) {d : Nat} (hd : 126 + f ≤ d) (k : Nat) (as : List Int) (h : hS) (w : mmW) (o : Int × hS), Abs h w → (∀ a ∈ as, rg a) → g210 f k as h = some o → hEv d k (vR 395 :: as.map vI) w (qI o)
  | 0, d, hd, k, as, h, w, o, A, hr, e => by unfold g210 at e; cases e
  | f + 1, d, hd, k, as, h, w, o, A, hr, e => by
    obtain ⟨d, rfl⟩ : ∃ d1, d = d1 + 1 := ⟨d - 1, by omega⟩
    unfold g210 at e
    split at e
    · rename_i q; cases q
    · rename_i q; cases q; exact t210 (u210 f (by omega)) (by omega) A (hr _ List.mem_cons_self) e
    · rename_i q; cases q; exact t211 (u210 f (by omega)) (by omega) A (hr _ List.mem_cons_self) e
    · rename_i q; cases q; exact t212 (u210 f (by omega)) (by omega) A  e
    · cases e
def c220_j37 (l1 : Int) (l2 : Int) (l3 : Int) (l4 : Int) (l5 : Int) (h : hS) : Option (hS) :=
  (c201 l1 l2 (wadd 40 l5) l3 h).bind (fun h3 =>
  (c201 l1 l2 (wadd 48 l5) l4 h3).bind (fun h4 =>
  some h4))
theorem t220_j37 {d : Nat} (hd : 2 ≤ d) {l1 : Int} {l2 : Int} {l3 : Int} {l4 : Int} {l5 : Int}  {h : hS} {w : mmW} {o : hS} {Q : mmO → Prop} (rl1 : rg l1) (rl2 : rg l2) (rl3 : rg l3) (rl4 : rg l4) (rl5 : rg l5) (A : Abs h w) (e : c220_j37 l1 l2 l3 l4 l5 h = some o) (kr : ∀ h1 : hS, o = h1 → ∀ w', Abs h1 w' → Q (none, w')) : hG d 220 37 [some (vr 395), some (vi l1), some (vi l2), some (vi l3), some (vi l4), some (vi l5)] [] w Q := by
  unfold c220_j37 at e
  refine hg_run 7 (pc' := 46) (ls' := [some (vr 395), some (vi l1), some (vi l2), some (vi l3), some (vi l4), some (vi l5)]) (st' := [vI l3, vI (wadd 40 l5), vI l2, vI l1, vR 395]) rfl ?_
  obtain ⟨h3, e3, e⟩ := ob e
  refine hg_cV (as := [vR 395, vI l1, vI l2, vI (wadd 40 l5), vI l3]) (st' := []) rfl (fun _ _ _ _ => rfl) rfl rfl (Nat.le_of_ble_eq_true rfl) (Nat.le_of_ble_eq_true rfl) (recvV A (a := 13) (Abs_ks A (i := 23) rfl).1) (t201 (by omega) A rl1 rl2 (rg_add _ _) rl3 e3) (fun w3 A3 => ?_)
  refine hg_run 7 (pc' := 59) (ls' := [some (vr 395), some (vi l1), some (vi l2), some (vi l3), some (vi l4), some (vi l5)]) (st' := [vI l4, vI (wadd 48 l5), vI l2, vI l1, vR 395]) rfl ?_
  obtain ⟨h4, e4, e⟩ := ob e
  refine hg_cV (as := [vR 395, vI l1, vI l2, vI (wadd 48 l5), vI l4]) (st' := []) rfl (fun _ _ _ _ => rfl) rfl rfl (Nat.le_of_ble_eq_true rfl) (Nat.le_of_ble_eq_true rfl) (recvV A3 (a := 13) (Abs_ks A3 (i := 23) rfl).1) (t201 (by omega) A3 rl1 rl2 (rg_add _ _) rl4 e4) (fun w4 A4 => ?_)
  cases e
  exact hg_retV rfl (kr _ rfl _ A4)
def c220 (l1 : Int) (l2 : Int) (l3 : Int) (l4 : Int) (h : hS) : Option (hS) :=
  (c205 l1 l2 l3 h).bind (fun v1 =>
  if v1 = (-1) then
  (c199 l1 l2 39 h).bind (fun v5 =>
  (c201 l1 l2 39 (wadd v5 1) h).bind (fun h6 =>
  c220_j37 l1 l2 l3 l4 v5 h6))
  else
  c220_j37 l1 l2 l3 l4 v1 h)
theorem t220 {d : Nat} (hd : 3 ≤ d) {l1 : Int} {l2 : Int} {l3 : Int} {l4 : Int} {h : hS} {w : mmW} {o : hS} (A : Abs h w) (rl1 : rg l1) (rl2 : rg l2) (rl3 : rg l3) (rl4 : rg l4) (e : c220 l1 l2 l3 l4 h = some o) : hEv d 220 [vR 395, vI l1, vI l2, vI l3, vI l4] w (qV o) := by
  obtain ⟨d, rfl⟩ : ∃ d1, d = d1 + 1 := ⟨d - 1, by omega⟩
  have hd : 2 ≤ d := by omega
  refine hEv_start (args := [vr 395, vi l1, vi l2, vi l3, vi l4]) (nl := 6) rfl (Nat.le_of_ble_eq_true rfl) ?_
  show hG d 220 0 [some (vr 395), some (vi l1), some (vi l2), some (vi l3), some (vi l4), none] [] w _
  have kr : ∀ h1 : hS, o = h1 → ∀ w', Abs h1 w' → qV o (none, w') := fun h1 q w' A' => by cases q; exact ⟨rfl, A'⟩
  unfold c220 at e
  refine hg_run 4 (pc' := 4) (ls' := [some (vr 395), some (vi l1), some (vi l2), some (vi l3), some (vi l4), none]) (st' := [vI l3, vI l2, vI l1, vR 395]) rfl ?_
  obtain ⟨v1, e1, e⟩ := ob e
  refine hg_cIp (as := [vR 395, vI l1, vI l2, vI l3]) (st' := []) rfl (fun _ _ _ _ => rfl) rfl rfl (Nat.le_of_ble_eq_true rfl) (Nat.le_of_ble_eq_true rfl) (recvV A (a := 13) (Abs_ks A (i := 23) rfl).1) (t205 (by omega) A rl1 rl2 rl3 e1) (fun r1 => ?_)
  refine hg_run 3 (pc' := 12) (ls' := [some (vr 395), some (vi l1), some (vi l2), some (vi l3), some (vi l4), some (vi v1)]) (st' := [vI (-1), vI v1]) rfl ?_
  rcases oi e with ⟨q2, e⟩ | ⟨q2, e⟩
  · refine hg_icF (tgt := 37) rfl (by decide) r1 (rgn (-1) rfl) (show ¬ ¬ (v1 = (-1)) from fun f => f q2) ?_
    refine hg_run 4 (pc' := 20) (ls' := [some (vr 395), some (vi l1), some (vi l2), some (vi l3), some (vi l4), some (vi v1)]) (st' := [vI 39, vI l2, vI l1, vR 395]) rfl ?_
    obtain ⟨v5, e5, e⟩ := ob e
    refine hg_cIp (as := [vR 395, vI l1, vI l2, vI 39]) (st' := []) rfl (fun _ _ _ _ => rfl) rfl rfl (Nat.le_of_ble_eq_true rfl) (Nat.le_of_ble_eq_true rfl) (recvV A (a := 13) (Abs_ks A (i := 23) rfl).1) (t199 (by omega) A rl1 rl2 (rgn 39 rfl) e5) (fun r5 => ?_)
    refine hg_run 8 (pc' := 34) (ls' := [some (vr 395), some (vi l1), some (vi l2), some (vi l3), some (vi l4), some (vi v5)]) (st' := [vI (wadd v5 1), vI 39, vI l2, vI l1, vR 395]) rfl ?_
    obtain ⟨h6, e6, e⟩ := ob e
    refine hg_cV (as := [vR 395, vI l1, vI l2, vI 39, vI (wadd v5 1)]) (st' := []) rfl (fun _ _ _ _ => rfl) rfl rfl (Nat.le_of_ble_eq_true rfl) (Nat.le_of_ble_eq_true rfl) (recvV A (a := 13) (Abs_ks A (i := 23) rfl).1) (t201 (by omega) A rl1 rl2 (rgn 39 rfl) (rg_add _ _) e6) (fun w6 A6 => ?_)
    exact t220_j37 hd rl1 rl2 rl3 rl4 r5 A6 e kr
  · refine hg_icT (tgt := 37) rfl (by decide) r1 (rgn (-1) rfl) (show ¬ (v1 = (-1)) from q2) ?_
    exact t220_j37 hd rl1 rl2 rl3 rl4 r1 A e kr
def c221_j46 (s1 : Int) (h : hS) : Option (Int × hS) :=
  (some (sI h 395 24 s1)).bind (fun h5 =>
  (c188  h5).bind (fun h6 =>
  some (1, h6)))
theorem t221_j46 {d : Nat} (hd : 3 ≤ d) {s1 : Int} {z1 : Option hO} {h : hS} {w : mmW} {o : Int × hS} {Q : mmO → Prop} (rs1 : rg s1) (A : Abs h w) (e : c221_j46 s1 h = some o) (kr : ∀ (v1 : Int) (h1 : hS), o = (v1, h1) → ∀ w', rg v1 → Abs h1 w' → Q (some (.int (Int32.ofInt v1)), w')) : hG d 221 46 [some (vr 395), z1] [vI s1, vR 395] w Q := by
  unfold c221_j46 at e
  obtain ⟨h5, e5, e⟩ := ob e
  refine ps_395_24 rfl A rs1 e5 (fun w5 A5 => ?_)
  refine hg_run 1 (pc' := 50) (ls' := [some (vr 395), z1]) (st' := [vR 395]) rfl ?_
  obtain ⟨h6, e6, e⟩ := ob e
  refine hg_cV (as := [vR 395]) (st' := []) rfl (fun _ _ _ _ => rfl) rfl rfl (Nat.le_of_ble_eq_true rfl) (Nat.le_of_ble_eq_true rfl) (recvV A5 (a := 13) (Abs_ks A5 (i := 23) rfl).1) (t188 (by omega) A5  e6) (fun w6 A6 => ?_)
  refine hg_run 1 (pc' := 54) (ls' := [some (vr 395), z1]) (st' := [vI 1]) rfl ?_
  cases e
  exact hg_retI rfl (by decide) (fit_B (.inr rfl)) (kr _ _ rfl _ (rgn 1 rfl) A6)
def c221_j15 (l1 : Int) (h : hS) : Option (Int × hS) :=
  if (hI h 395 3) = 3 then
  if l1 = 0 then
  c221_j46 (hI h 395 5) h
  else
  c221_j46 (wneg (hI h 395 5)) h
  else
  (c194 1 h).bind (fun v7 =>
  (kB v7.1).bind (fun u8 =>
  some (v7.1, v7.2)))
theorem t221_j15 {d : Nat} (hd : 3 ≤ d) {l1 : Int}  {h : hS} {w : mmW} {o : Int × hS} {Q : mmO → Prop} (rl1 : rg l1) (A : Abs h w) (e : c221_j15 l1 h = some o) (kr : ∀ (v1 : Int) (h1 : hS), o = (v1, h1) → ∀ w', rg v1 → Abs h1 w' → Q (some (.int (Int32.ofInt v1)), w')) : hG d 221 15 [some (vr 395), some (vi l1)] [] w Q := by
  unfold c221_j15 at e
  refine hg_run 1 (pc' := 16) (ls' := [some (vr 395), some (vi l1)]) (st' := [vR 395]) rfl ?_
  refine gs_395_3 rfl A ?_
  refine hg_run 1 (pc' := 20) (ls' := [some (vr 395), some (vi l1)]) (st' := [vI 3, vI (hI h 395 3)]) rfl ?_
  rcases oi e with ⟨q3, e⟩ | ⟨q3, e⟩
  · refine hg_icT (tgt := 29) rfl (by decide) (Abs_rg A 395 3) (rgn 3 rfl) q3 ?_
    refine hg_run 2 (pc' := 31) (ls' := [some (vr 395), some (vi l1)]) (st' := [vI l1, vR 395]) rfl ?_
    rcases oi e with ⟨q4, e⟩ | ⟨q4, e⟩
    · refine hg_ifT (tgt := 42) rfl (by decide) rl1 q4 ?_
      refine hg_run 1 (pc' := 43) (ls' := [some (vr 395), some (vi l1)]) (st' := [vR 395, vR 395]) rfl ?_
      refine gs_395_5 rfl A ?_
      exact t221_j46 hd (Abs_rg A 395 5) A e kr
    · refine hg_ifF (tgt := 42) rfl (by decide) rl1 q4 ?_
      refine hg_run 1 (pc' := 35) (ls' := [some (vr 395), some (vi l1)]) (st' := [vR 395, vR 395]) rfl ?_
      refine gs_395_5 rfl A ?_
      refine hg_run 2 (pc' := 46) (ls' := [some (vr 395), some (vi l1)]) (st' := [vI (wneg (hI h 395 5)), vR 395]) rfl ?_
      exact t221_j46 hd (rg_neg _) A e kr
  · refine hg_icF (tgt := 29) rfl (by decide) (Abs_rg A 395 3) (rgn 3 rfl) q3 ?_
    refine hg_run 2 (pc' := 25) (ls' := [some (vr 395), some (vi l1)]) (st' := [vI 1, vR 395]) rfl ?_
    obtain ⟨v7, e7, e⟩ := ob e
    refine hg_cI (as := [vR 395, vI 1]) (st' := []) rfl (fun _ _ _ _ => rfl) rfl rfl (Nat.le_of_ble_eq_true rfl) (Nat.le_of_ble_eq_true rfl) (recvV A (a := 13) (Abs_ks A (i := 23) rfl).1) (t194 (by omega) A (rgn 1 rfl) e7) (fun w7 r7 A7 => ?_)
    obtain ⟨u8, e8, e⟩ := ob e
    cases e
    exact hg_retI rfl (by decide) (fit_B (kB_e e8)) (kr _ _ rfl _ r7 A7)
def c221 (h : hS) : Option (Int × hS) :=
  (c203 45 h).bind (fun v1 =>
  if v1 = 0 then
  c221_j15 v1 h
  else
  (c188  h).bind (fun h9 =>
  c221_j15 v1 h9))
theorem t221 {d : Nat} (hd : 4 ≤ d)  {h : hS} {w : mmW} {o : Int × hS} (A : Abs h w)  (e : c221 h = some o) : hEv d 221 [vR 395] w (qI o) := by
  obtain ⟨d, rfl⟩ : ∃ d1, d = d1 + 1 := ⟨d - 1, by omega⟩
  have hd : 3 ≤ d := by omega
  refine hEv_start (args := [vr 395]) (nl := 2) rfl (Nat.le_of_ble_eq_true rfl) ?_
  show hG d 221 0 [some (vr 395), none] [] w _
  have kr : ∀ (v1 : Int) (h1 : hS), o = (v1, h1) → ∀ w', rg v1 → Abs h1 w' → qI o (some (.int (Int32.ofInt v1)), w') := fun v1 h1 q w' r A' => by cases q; exact ⟨rfl, r, A'⟩
  unfold c221 at e
  refine hg_run 2 (pc' := 3) (ls' := [some (vr 395), none]) (st' := [vI 45, vR 395]) rfl ?_
  obtain ⟨v1, e1, e⟩ := ob e
  refine hg_cIp (as := [vR 395, vI 45]) (st' := []) rfl (fun _ _ _ _ => rfl) rfl rfl (Nat.le_of_ble_eq_true rfl) (Nat.le_of_ble_eq_true rfl) (recvV A (a := 13) (Abs_ks A (i := 23) rfl).1) (t203 (by omega) A (rgn 45 rfl) e1) (fun r1 => ?_)
  refine hg_run 2 (pc' := 8) (ls' := [some (vr 395), some (vi v1)]) (st' := [vI v1]) rfl ?_
  rcases oi e with ⟨q2, e⟩ | ⟨q2, e⟩
  · refine hg_ifT (tgt := 15) rfl (by decide) r1 q2 ?_
    exact t221_j15 hd r1 A e kr
  · refine hg_ifF (tgt := 15) rfl (by decide) r1 q2 ?_
    refine hg_run 1 (pc' := 12) (ls' := [some (vr 395), some (vi v1)]) (st' := [vR 395]) rfl ?_
    obtain ⟨h9, e9, e⟩ := ob e
    refine hg_cV (as := [vR 395]) (st' := []) rfl (fun _ _ _ _ => rfl) rfl rfl (Nat.le_of_ble_eq_true rfl) (Nat.le_of_ble_eq_true rfl) (recvV A (a := 13) (Abs_ks A (i := 23) rfl).1) (t188 (by omega) A  e9) (fun w9 A9 => ?_)
    exact t221_j15 hd r1 A9 e kr
def c222 (l1 : Int) (l2 : Int) (l3 : Int) (l4 : Int) (h : hS) : Option (hS) :=
  (c199 l1 l2 30 h).bind (fun v1 =>
  (c201 l1 l2 30 (wadd v1 1) h).bind (fun h2 =>
  (c201 l1 l2 (wadd 31 v1) l3 h2).bind (fun h3 =>
  (c201 l1 l2 (wadd 35 v1) l4 h3).bind (fun h4 =>
  some h4))))
theorem t222 {d : Nat} (hd : 2 ≤ d) {l1 : Int} {l2 : Int} {l3 : Int} {l4 : Int} {h : hS} {w : mmW} {o : hS} (A : Abs h w) (rl1 : rg l1) (rl2 : rg l2) (rl3 : rg l3) (rl4 : rg l4) (e : c222 l1 l2 l3 l4 h = some o) : hEv d 222 [vR 395, vI l1, vI l2, vI l3, vI l4] w (qV o) := by
  obtain ⟨d, rfl⟩ : ∃ d1, d = d1 + 1 := ⟨d - 1, by omega⟩
  have hd : 1 ≤ d := by omega
  refine hEv_start (args := [vr 395, vi l1, vi l2, vi l3, vi l4]) (nl := 6) rfl (Nat.le_of_ble_eq_true rfl) ?_
  show hG d 222 0 [some (vr 395), some (vi l1), some (vi l2), some (vi l3), some (vi l4), none] [] w _
  have kr : ∀ h1 : hS, o = h1 → ∀ w', Abs h1 w' → qV o (none, w') := fun h1 q w' A' => by cases q; exact ⟨rfl, A'⟩
  unfold c222 at e
  refine hg_run 4 (pc' := 5) (ls' := [some (vr 395), some (vi l1), some (vi l2), some (vi l3), some (vi l4), none]) (st' := [vI 30, vI l2, vI l1, vR 395]) rfl ?_
  obtain ⟨v1, e1, e⟩ := ob e
  refine hg_cIp (as := [vR 395, vI l1, vI l2, vI 30]) (st' := []) rfl (fun _ _ _ _ => rfl) rfl rfl (Nat.le_of_ble_eq_true rfl) (Nat.le_of_ble_eq_true rfl) (recvV A (a := 13) (Abs_ks A (i := 23) rfl).1) (t199 (by omega) A rl1 rl2 (rgn 30 rfl) e1) (fun r1 => ?_)
  refine hg_run 8 (pc' := 19) (ls' := [some (vr 395), some (vi l1), some (vi l2), some (vi l3), some (vi l4), some (vi v1)]) (st' := [vI (wadd v1 1), vI 30, vI l2, vI l1, vR 395]) rfl ?_
  obtain ⟨h2, e2, e⟩ := ob e
  refine hg_cV (as := [vR 395, vI l1, vI l2, vI 30, vI (wadd v1 1)]) (st' := []) rfl (fun _ _ _ _ => rfl) rfl rfl (Nat.le_of_ble_eq_true rfl) (Nat.le_of_ble_eq_true rfl) (recvV A (a := 13) (Abs_ks A (i := 23) rfl).1) (t201 (by omega) A rl1 rl2 (rgn 30 rfl) (rg_add _ _) e2) (fun w2 A2 => ?_)
  refine hg_run 7 (pc' := 31) (ls' := [some (vr 395), some (vi l1), some (vi l2), some (vi l3), some (vi l4), some (vi v1)]) (st' := [vI l3, vI (wadd 31 v1), vI l2, vI l1, vR 395]) rfl ?_
  obtain ⟨h3, e3, e⟩ := ob e
  refine hg_cV (as := [vR 395, vI l1, vI l2, vI (wadd 31 v1), vI l3]) (st' := []) rfl (fun _ _ _ _ => rfl) rfl rfl (Nat.le_of_ble_eq_true rfl) (Nat.le_of_ble_eq_true rfl) (recvV A2 (a := 13) (Abs_ks A2 (i := 23) rfl).1) (t201 (by omega) A2 rl1 rl2 (rg_add _ _) rl3 e3) (fun w3 A3 => ?_)
  refine hg_run 7 (pc' := 44) (ls' := [some (vr 395), some (vi l1), some (vi l2), some (vi l3), some (vi l4), some (vi v1)]) (st' := [vI l4, vI (wadd 35 v1), vI l2, vI l1, vR 395]) rfl ?_
  obtain ⟨h4, e4, e⟩ := ob e
  refine hg_cV (as := [vR 395, vI l1, vI l2, vI (wadd 35 v1), vI l4]) (st' := []) rfl (fun _ _ _ _ => rfl) rfl rfl (Nat.le_of_ble_eq_true rfl) (Nat.le_of_ble_eq_true rfl) (recvV A3 (a := 13) (Abs_ks A3 (i := 23) rfl).1) (t201 (by omega) A3 rl1 rl2 (rg_add _ _) rl4 e4) (fun w4 A4 => ?_)
  cases e
  exact hg_retV rfl (kr _ rfl _ A4)
def c223 (l1 : Int) (l2 : Int) (l3 : Int) (l4 : Int) (h : hS) : Option (hS) :=
  (c199 l1 l2 5 h).bind (fun v1 =>
  (c201 l1 l2 5 (wadd v1 1) h).bind (fun h2 =>
  (c201 l1 l2 (wadd 6 v1) l3 h2).bind (fun h3 =>
  (c201 l1 l2 (wadd 14 v1) l4 h3).bind (fun h4 =>
  (c201 l1 l2 (wadd 22 v1) (-1) h4).bind (fun h5 =>
  some h5)))))
theorem t223 {d : Nat} (hd : 2 ≤ d) {l1 : Int} {l2 : Int} {l3 : Int} {l4 : Int} {h : hS} {w : mmW} {o : hS} (A : Abs h w) (rl1 : rg l1) (rl2 : rg l2) (rl3 : rg l3) (rl4 : rg l4) (e : c223 l1 l2 l3 l4 h = some o) : hEv d 223 [vR 395, vI l1, vI l2, vI l3, vI l4] w (qV o) := by
  obtain ⟨d, rfl⟩ : ∃ d1, d = d1 + 1 := ⟨d - 1, by omega⟩
  have hd : 1 ≤ d := by omega
  refine hEv_start (args := [vr 395, vi l1, vi l2, vi l3, vi l4]) (nl := 6) rfl (Nat.le_of_ble_eq_true rfl) ?_
  show hG d 223 0 [some (vr 395), some (vi l1), some (vi l2), some (vi l3), some (vi l4), none] [] w _
  have kr : ∀ h1 : hS, o = h1 → ∀ w', Abs h1 w' → qV o (none, w') := fun h1 q w' A' => by cases q; exact ⟨rfl, A'⟩
  unfold c223 at e
  refine hg_run 4 (pc' := 4) (ls' := [some (vr 395), some (vi l1), some (vi l2), some (vi l3), some (vi l4), none]) (st' := [vI 5, vI l2, vI l1, vR 395]) rfl ?_
  obtain ⟨v1, e1, e⟩ := ob e
  refine hg_cIp (as := [vR 395, vI l1, vI l2, vI 5]) (st' := []) rfl (fun _ _ _ _ => rfl) rfl rfl (Nat.le_of_ble_eq_true rfl) (Nat.le_of_ble_eq_true rfl) (recvV A (a := 13) (Abs_ks A (i := 23) rfl).1) (t199 (by omega) A rl1 rl2 (rgn 5 rfl) e1) (fun r1 => ?_)
  refine hg_run 8 (pc' := 17) (ls' := [some (vr 395), some (vi l1), some (vi l2), some (vi l3), some (vi l4), some (vi v1)]) (st' := [vI (wadd v1 1), vI 5, vI l2, vI l1, vR 395]) rfl ?_
  obtain ⟨h2, e2, e⟩ := ob e
  refine hg_cV (as := [vR 395, vI l1, vI l2, vI 5, vI (wadd v1 1)]) (st' := []) rfl (fun _ _ _ _ => rfl) rfl rfl (Nat.le_of_ble_eq_true rfl) (Nat.le_of_ble_eq_true rfl) (recvV A (a := 13) (Abs_ks A (i := 23) rfl).1) (t201 (by omega) A rl1 rl2 (rgn 5 rfl) (rg_add _ _) e2) (fun w2 A2 => ?_)
  refine hg_run 7 (pc' := 29) (ls' := [some (vr 395), some (vi l1), some (vi l2), some (vi l3), some (vi l4), some (vi v1)]) (st' := [vI l3, vI (wadd 6 v1), vI l2, vI l1, vR 395]) rfl ?_
  obtain ⟨h3, e3, e⟩ := ob e
  refine hg_cV (as := [vR 395, vI l1, vI l2, vI (wadd 6 v1), vI l3]) (st' := []) rfl (fun _ _ _ _ => rfl) rfl rfl (Nat.le_of_ble_eq_true rfl) (Nat.le_of_ble_eq_true rfl) (recvV A2 (a := 13) (Abs_ks A2 (i := 23) rfl).1) (t201 (by omega) A2 rl1 rl2 (rg_add _ _) rl3 e3) (fun w3 A3 => ?_)
  refine hg_run 7 (pc' := 42) (ls' := [some (vr 395), some (vi l1), some (vi l2), some (vi l3), some (vi l4), some (vi v1)]) (st' := [vI l4, vI (wadd 14 v1), vI l2, vI l1, vR 395]) rfl ?_
  obtain ⟨h4, e4, e⟩ := ob e
  refine hg_cV (as := [vR 395, vI l1, vI l2, vI (wadd 14 v1), vI l4]) (st' := []) rfl (fun _ _ _ _ => rfl) rfl rfl (Nat.le_of_ble_eq_true rfl) (Nat.le_of_ble_eq_true rfl) (recvV A3 (a := 13) (Abs_ks A3 (i := 23) rfl).1) (t201 (by omega) A3 rl1 rl2 (rg_add _ _) rl4 e4) (fun w4 A4 => ?_)
  refine hg_run 7 (pc' := 54) (ls' := [some (vr 395), some (vi l1), some (vi l2), some (vi l3), some (vi l4), some (vi v1)]) (st' := [vI (-1), vI (wadd 22 v1), vI l2, vI l1, vR 395]) rfl ?_
  obtain ⟨h5, e5, e⟩ := ob e
  refine hg_cV (as := [vR 395, vI l1, vI l2, vI (wadd 22 v1), vI (-1)]) (st' := []) rfl (fun _ _ _ _ => rfl) rfl rfl (Nat.le_of_ble_eq_true rfl) (Nat.le_of_ble_eq_true rfl) (recvV A4 (a := 13) (Abs_ks A4 (i := 23) rfl).1) (t201 (by omega) A4 rl1 rl2 (rg_add _ _) (rgn (-1) rfl) e5) (fun w5 A5 => ?_)
  cases e
  exact hg_retV rfl (kr _ rfl _ A5)
def c204_j332 (s2 : Int) (l4 : Int) (h : hS) : Option (Int × hS) :=
  (c218 s2 l4 (hI h 395 24) 0 h).bind (fun v13 =>
  (some (sI v13.2 395 22 v13.1)).bind (fun h14 =>
  (c202 59 h14).bind (fun v15 =>
  (kB v15.1).bind (fun u16 =>
  some (v15.1, v15.2)))))
set_option maxRecDepth 100000 in
theorem t204_j332 {d : Nat} (hd : 246 ≤ d) {s2 : Int} {l4 : Int} {z1 : Option hO} {z2 : Option hO} {z3 : Option hO} {z5 : Option hO} {h : hS} {w : mmW} {o : Int × hS} {Q : mmO → Prop} (rs2 : rg s2) (rl4 : rg l4) (A : Abs h w) (e : c204_j332 s2 l4 h = some o) (kr : ∀ (v1 : Int) (h1 : hS), o = (v1, h1) → ∀ w', rg v1 → Abs h1 w' → Q (some (.int (Int32.ofInt v1)), w')) : hG d 204 332 [some (vr 395), z1, z2, z3, some (vi l4), z5] [vI s2, vR 395, vR 395] w Q := by
  unfold c204_j332 at e
  refine hg_run 2 (pc' := 335) (ls' := [some (vr 395), z1, z2, z3, some (vi l4), z5]) (st' := [vR 395, vI l4, vI s2, vR 395, vR 395]) rfl ?_
  refine gs_395_24 rfl A ?_
  refine hg_run 1 (pc' := 339) (ls' := [some (vr 395), z1, z2, z3, some (vi l4), z5]) (st' := [vI 0, vI (hI h 395 24), vI l4, vI s2, vR 395, vR 395]) rfl ?_
  obtain ⟨v13, e13, e⟩ := ob e
  refine hg_cI (as := [vR 395, vI s2, vI l4, vI (hI h 395 24), vI 0]) (st' := [vR 395]) rfl (fun _ _ _ _ => rfl) rfl rfl (Nat.le_of_ble_eq_true rfl) (Nat.le_of_ble_eq_true rfl) (recvV A (a := 13) (Abs_ks A (i := 23) rfl).1) (t218 (by omega) A rs2 rl4 (Abs_rg A 395 24) (rgn 0 rfl) e13) (fun w13 r13 A13 => ?_)
  obtain ⟨h14, e14, e⟩ := ob e
  refine ps_395_22 rfl A13 r13 e14 (fun w14 A14 => ?_)
  refine hg_run 2 (pc' := 348) (ls' := [some (vr 395), z1, z2, z3, some (vi l4), z5]) (st' := [vI 59, vR 395]) rfl ?_
  obtain ⟨v15, e15, e⟩ := ob e
  refine hg_cI (as := [vR 395, vI 59]) (st' := []) rfl (fun _ _ _ _ => rfl) rfl rfl (Nat.le_of_ble_eq_true rfl) (Nat.le_of_ble_eq_true rfl) (recvV A14 (a := 13) (Abs_ks A14 (i := 23) rfl).1) (t202 (by omega) A14 (rgn 59 rfl) e15) (fun w15 r15 A15 => ?_)
  obtain ⟨u16, e16, e⟩ := ob e
  cases e
  exact hg_retI rfl (by decide) (fit_B (kB_e e16)) (kr _ _ rfl _ r15 A15)
def c204_j317 (l2 : Int) (l4 : Int) (h : hS) : Option (Int × hS) :=
  if l2 = 104 then
  c204_j332 31 l4 h
  else
  c204_j332 30 l4 h
set_option maxRecDepth 100000 in
theorem t204_j317 {d : Nat} (hd : 246 ≤ d) {l2 : Int} {l4 : Int} {z1 : Option hO} {z3 : Option hO} {z5 : Option hO} {h : hS} {w : mmW} {o : Int × hS} {Q : mmO → Prop} (rl2 : rg l2) (rl4 : rg l4) (A : Abs h w) (e : c204_j317 l2 l4 h = some o) (kr : ∀ (v1 : Int) (h1 : hS), o = (v1, h1) → ∀ w', rg v1 → Abs h1 w' → Q (some (.int (Int32.ofInt v1)), w')) : hG d 204 317 [some (vr 395), z1, some (vi l2), z3, some (vi l4), z5] [] w Q := by
  unfold c204_j317 at e
  refine hg_run 4 (pc' := 322) (ls' := [some (vr 395), z1, some (vi l2), z3, some (vi l4), z5]) (st' := [vI 104, vI l2, vR 395, vR 395]) rfl ?_
  rcases oi e with ⟨q12, e⟩ | ⟨q12, e⟩
  · refine hg_icF (tgt := 330) rfl (by decide) rl2 (rgn 104 rfl) (show ¬ ¬ (l2 = 104) from fun f => f q12) ?_
    refine hg_run 2 (pc' := 332) (ls' := [some (vr 395), z1, some (vi l2), z3, some (vi l4), z5]) (st' := [vI 31, vR 395, vR 395]) rfl ?_
    exact t204_j332 hd (rgn 31 rfl) rl4 A e kr
  · refine hg_icT (tgt := 330) rfl (by decide) rl2 (rgn 104 rfl) (show ¬ (l2 = 104) from q12) ?_
    refine hg_run 1 (pc' := 332) (ls' := [some (vr 395), z1, some (vi l2), z3, some (vi l4), z5]) (st' := [vI 30, vR 395, vR 395]) rfl ?_
    exact t204_j332 hd (rgn 30 rfl) rl4 A e kr
def c204_j294 (l1 : Int) (l2 : Int) (l4 : Int) (h : hS) : Option (Int × hS) :=
  if l1 = (-1) then
  c204_j317 l2 l4 h
  else
  if l2 = 104 then
  c204_j317 l2 l4 h
  else
  (c223 1 l1 l4 (hI h 395 24) h).bind (fun h18 =>
  c204_j317 l2 l4 h18)
set_option maxRecDepth 100000 in
theorem t204_j294 {d : Nat} (hd : 246 ≤ d) {l1 : Int} {l2 : Int} {l4 : Int} {z3 : Option hO} {z5 : Option hO} {h : hS} {w : mmW} {o : Int × hS} {Q : mmO → Prop} (rl1 : rg l1) (rl2 : rg l2) (rl4 : rg l4) (A : Abs h w) (e : c204_j294 l1 l2 l4 h = some o) (kr : ∀ (v1 : Int) (h1 : hS), o = (v1, h1) → ∀ w', rg v1 → Abs h1 w' → Q (some (.int (Int32.ofInt v1)), w')) : hG d 204 294 [some (vr 395), some (vi l1), some (vi l2), z3, some (vi l4), z5] [] w Q := by
  unfold c204_j294 at e
  refine hg_run 2 (pc' := 296) (ls' := [some (vr 395), some (vi l1), some (vi l2), z3, some (vi l4), z5]) (st' := [vI (-1), vI l1]) rfl ?_
  rcases oi e with ⟨q11, e⟩ | ⟨q11, e⟩
  · refine hg_icT (tgt := 317) rfl (by decide) rl1 (rgn (-1) rfl) q11 ?_
    exact t204_j317 hd rl2 rl4 A e kr
  · refine hg_icF (tgt := 317) rfl (by decide) rl1 (rgn (-1) rfl) q11 ?_
    refine hg_run 2 (pc' := 302) (ls' := [some (vr 395), some (vi l1), some (vi l2), z3, some (vi l4), z5]) (st' := [vI 104, vI l2]) rfl ?_
    rcases oi e with ⟨q17, e⟩ | ⟨q17, e⟩
    · refine hg_icT (tgt := 317) rfl (by decide) rl2 (rgn 104 rfl) q17 ?_
      exact t204_j317 hd rl2 rl4 A e kr
    · refine hg_icF (tgt := 317) rfl (by decide) rl2 (rgn 104 rfl) q17 ?_
      refine hg_run 5 (pc' := 311) (ls' := [some (vr 395), some (vi l1), some (vi l2), z3, some (vi l4), z5]) (st' := [vR 395, vI l4, vI l1, vI 1, vR 395]) rfl ?_
      refine gs_395_24 rfl A ?_
      obtain ⟨h18, e18, e⟩ := ob e
      refine hg_cV (as := [vR 395, vI 1, vI l1, vI l4, vI (hI h 395 24)]) (st' := []) rfl (fun _ _ _ _ => rfl) rfl rfl (Nat.le_of_ble_eq_true rfl) (Nat.le_of_ble_eq_true rfl) (recvV A (a := 13) (Abs_ks A (i := 23) rfl).1) (t223 (by omega) A (rgn 1 rfl) rl1 rl4 (Abs_rg A 395 24) e18) (fun w18 A18 => ?_)
      exact t204_j317 hd rl2 rl4 A18 e kr
def c204_j271 (l1 : Int) (l2 : Int) (l4 : Int) (h : hS) : Option (Int × hS) :=
  if l1 = (-1) then
  c204_j294 l1 l2 l4 h
  else
  if l2 = 104 then
  (c222 1 l1 l4 (hI h 395 24) h).bind (fun h20 =>
  c204_j294 l1 l2 l4 h20)
  else
  c204_j294 l1 l2 l4 h
set_option maxRecDepth 100000 in
theorem t204_j271 {d : Nat} (hd : 246 ≤ d) {l1 : Int} {l2 : Int} {l4 : Int} {z3 : Option hO} {z5 : Option hO} {h : hS} {w : mmW} {o : Int × hS} {Q : mmO → Prop} (rl1 : rg l1) (rl2 : rg l2) (rl4 : rg l4) (A : Abs h w) (e : c204_j271 l1 l2 l4 h = some o) (kr : ∀ (v1 : Int) (h1 : hS), o = (v1, h1) → ∀ w', rg v1 → Abs h1 w' → Q (some (.int (Int32.ofInt v1)), w')) : hG d 204 271 [some (vr 395), some (vi l1), some (vi l2), z3, some (vi l4), z5] [] w Q := by
  unfold c204_j271 at e
  refine hg_run 2 (pc' := 273) (ls' := [some (vr 395), some (vi l1), some (vi l2), z3, some (vi l4), z5]) (st' := [vI (-1), vI l1]) rfl ?_
  rcases oi e with ⟨q10, e⟩ | ⟨q10, e⟩
  · refine hg_icT (tgt := 294) rfl (by decide) rl1 (rgn (-1) rfl) q10 ?_
    exact t204_j294 hd rl1 rl2 rl4 A e kr
  · refine hg_icF (tgt := 294) rfl (by decide) rl1 (rgn (-1) rfl) q10 ?_
    refine hg_run 2 (pc' := 279) (ls' := [some (vr 395), some (vi l1), some (vi l2), z3, some (vi l4), z5]) (st' := [vI 104, vI l2]) rfl ?_
    rcases oi e with ⟨q19, e⟩ | ⟨q19, e⟩
    · refine hg_icF (tgt := 294) rfl (by decide) rl2 (rgn 104 rfl) (show ¬ ¬ (l2 = 104) from fun f => f q19) ?_
      refine hg_run 5 (pc' := 288) (ls' := [some (vr 395), some (vi l1), some (vi l2), z3, some (vi l4), z5]) (st' := [vR 395, vI l4, vI l1, vI 1, vR 395]) rfl ?_
      refine gs_395_24 rfl A ?_
      obtain ⟨h20, e20, e⟩ := ob e
      refine hg_cV (as := [vR 395, vI 1, vI l1, vI l4, vI (hI h 395 24)]) (st' := []) rfl (fun _ _ _ _ => rfl) rfl rfl (Nat.le_of_ble_eq_true rfl) (Nat.le_of_ble_eq_true rfl) (recvV A (a := 13) (Abs_ks A (i := 23) rfl).1) (t222 (by omega) A (rgn 1 rfl) rl1 rl4 (Abs_rg A 395 24) e20) (fun w20 A20 => ?_)
      exact t204_j294 hd rl1 rl2 rl4 A20 e kr
    · refine hg_icT (tgt := 294) rfl (by decide) rl2 (rgn 104 rfl) (show ¬ (l2 = 104) from q19) ?_
      exact t204_j294 hd rl1 rl2 rl4 A e kr
def c204_j223 (l4 : Int) (h : hS) : Option (Int × hS) :=
  (c218 32 l4 (hI h 395 21) 0 h).bind (fun v30 =>
  (some (sI v30.2 395 22 v30.1)).bind (fun h31 =>
  some (1, h31)))
set_option maxRecDepth 100000 in
theorem t204_j223 {d : Nat} (hd : 246 ≤ d) {l4 : Int} {z1 : Option hO} {z2 : Option hO} {z3 : Option hO} {z5 : Option hO} {h : hS} {w : mmW} {o : Int × hS} {Q : mmO → Prop} (rl4 : rg l4) (A : Abs h w) (e : c204_j223 l4 h = some o) (kr : ∀ (v1 : Int) (h1 : hS), o = (v1, h1) → ∀ w', rg v1 → Abs h1 w' → Q (some (.int (Int32.ofInt v1)), w')) : hG d 204 223 [some (vr 395), z1, z2, z3, some (vi l4), z5] [] w Q := by
  unfold c204_j223 at e
  refine hg_run 5 (pc' := 230) (ls' := [some (vr 395), z1, z2, z3, some (vi l4), z5]) (st' := [vR 395, vI l4, vI 32, vR 395, vR 395]) rfl ?_
  refine gs_395_21 rfl A ?_
  refine hg_run 1 (pc' := 234) (ls' := [some (vr 395), z1, z2, z3, some (vi l4), z5]) (st' := [vI 0, vI (hI h 395 21), vI l4, vI 32, vR 395, vR 395]) rfl ?_
  obtain ⟨v30, e30, e⟩ := ob e
  refine hg_cI (as := [vR 395, vI 32, vI l4, vI (hI h 395 21), vI 0]) (st' := [vR 395]) rfl (fun _ _ _ _ => rfl) rfl rfl (Nat.le_of_ble_eq_true rfl) (Nat.le_of_ble_eq_true rfl) (recvV A (a := 13) (Abs_ks A (i := 23) rfl).1) (t218 (by omega) A (rgn 32 rfl) rl4 (Abs_rg A 395 21) (rgn 0 rfl) e30) (fun w30 r30 A30 => ?_)
  obtain ⟨h31, e31, e⟩ := ob e
  refine ps_395_22 rfl A30 r30 e31 (fun w31 A31 => ?_)
  refine hg_run 1 (pc' := 241) (ls' := [some (vr 395), z1, z2, z3, some (vi l4), z5]) (st' := [vI 1]) rfl ?_
  cases e
  exact hg_retI rfl (by decide) (fit_B (.inr rfl)) (kr _ _ rfl _ (rgn 1 rfl) A31)
def c204_j180 (l1 : Int) (l2 : Int) (l4 : Int) (h : hS) : Option (Int × hS) :=
  if l2 = 105 then
  (some (sI h 395 20 0)).bind (fun h25 =>
  (some (sI h25 395 18 0)).bind (fun h26 =>
  (g210 120 210 [1] h26).bind (fun v27 =>
  if v27.1 = 0 then
  some (0, v27.2)
  else
  if l1 = (-1) then
  c204_j223 l4 v27.2
  else
  (c220 1 l1 l4 (hI v27.2 395 21) v27.2).bind (fun h32 =>
  c204_j223 l4 h32))))
  else
  (some (sI h 395 24 (-1))).bind (fun h8 =>
  if l2 = 103 then
  c204_j271 l1 l2 l4 h8
  else
  (c202 61 h8).bind (fun v21 =>
  if v21.1 = 0 then
  some (0, v21.2)
  else
  (c221  v21.2).bind (fun v23 =>
  if v23.1 = 0 then
  some (0, v23.2)
  else
  c204_j271 l1 l2 l4 v23.2)))
set_option maxRecDepth 100000 in
theorem t204_j180 {d : Nat} (hd : 246 ≤ d) {l1 : Int} {l2 : Int} {l4 : Int} {z3 : Option hO} {z5 : Option hO} {h : hS} {w : mmW} {o : Int × hS} {Q : mmO → Prop} (rl1 : rg l1) (rl2 : rg l2) (rl4 : rg l4) (A : Abs h w) (e : c204_j180 l1 l2 l4 h = some o) (kr : ∀ (v1 : Int) (h1 : hS), o = (v1, h1) → ∀ w', rg v1 → Abs h1 w' → Q (some (.int (Int32.ofInt v1)), w')) : hG d 204 180 [some (vr 395), some (vi l1), some (vi l2), z3, some (vi l4), z5] [] w Q := by
  unfold c204_j180 at e
  refine hg_run 2 (pc' := 183) (ls' := [some (vr 395), some (vi l1), some (vi l2), z3, some (vi l4), z5]) (st' := [vI 105, vI l2]) rfl ?_
  rcases oi e with ⟨q7, e⟩ | ⟨q7, e⟩
  · refine hg_icF (tgt := 242) rfl (by decide) rl2 (rgn 105 rfl) (show ¬ ¬ (l2 = 105) from fun f => f q7) ?_
    refine hg_run 2 (pc' := 188) (ls' := [some (vr 395), some (vi l1), some (vi l2), z3, some (vi l4), z5]) (st' := [vI 0, vR 395]) rfl ?_
    obtain ⟨h25, e25, e⟩ := ob e
    refine ps_395_20 rfl A (rgn 0 rfl) e25 (fun w25 A25 => ?_)
    refine hg_run 2 (pc' := 193) (ls' := [some (vr 395), some (vi l1), some (vi l2), z3, some (vi l4), z5]) (st' := [vI 0, vR 395]) rfl ?_
    obtain ⟨h26, e26, e⟩ := ob e
    refine ps_395_18 rfl A25 (rgn 0 rfl) e26 (fun w26 A26 => ?_)
    refine hg_run 2 (pc' := 198) (ls' := [some (vr 395), some (vi l1), some (vi l2), z3, some (vi l4), z5]) (st' := [vI 1, vR 395]) rfl ?_
    obtain ⟨v27, e27, e⟩ := ob e
    refine hg_cI (as := [vR 395, vI 1]) (st' := []) rfl (fun _ _ _ _ => rfl) rfl rfl (Nat.le_of_ble_eq_true rfl) (Nat.le_of_ble_eq_true rfl) (recvV A26 (a := 13) (Abs_ks A26 (i := 23) rfl).1) (u210 120 (by omega) 210 _ _ _ _ A26 (rglc (rgn 1 rfl) rgl0) e27) (fun w27 r27 A27 => ?_)
    rcases oi e with ⟨q28, e⟩ | ⟨q28, e⟩
    · refine hg_ifF (tgt := 206) rfl (by decide) r27 (show ¬ ¬ (v27.1 = 0) from fun f => f q28) ?_
      refine hg_run 1 (pc' := 205) (ls' := [some (vr 395), some (vi l1), some (vi l2), z3, some (vi l4), z5]) (st' := [vI 0]) rfl ?_
      cases e
      exact hg_retI rfl (by decide) (fit_B (.inl rfl)) (kr _ _ rfl _ (rgn 0 rfl) A27)
    · refine hg_ifT (tgt := 206) rfl (by decide) r27 (show ¬ (v27.1 = 0) from q28) ?_
      refine hg_run 2 (pc' := 208) (ls' := [some (vr 395), some (vi l1), some (vi l2), z3, some (vi l4), z5]) (st' := [vI (-1), vI l1]) rfl ?_
      rcases oi e with ⟨q29, e⟩ | ⟨q29, e⟩
      · refine hg_icT (tgt := 223) rfl (by decide) rl1 (rgn (-1) rfl) q29 ?_
        exact t204_j223 hd rl4 A27 e kr
      · refine hg_icF (tgt := 223) rfl (by decide) rl1 (rgn (-1) rfl) q29 ?_
        refine hg_run 5 (pc' := 217) (ls' := [some (vr 395), some (vi l1), some (vi l2), z3, some (vi l4), z5]) (st' := [vR 395, vI l4, vI l1, vI 1, vR 395]) rfl ?_
        refine gs_395_21 rfl A27 ?_
        obtain ⟨h32, e32, e⟩ := ob e
        refine hg_cV (as := [vR 395, vI 1, vI l1, vI l4, vI (hI v27.2 395 21)]) (st' := []) rfl (fun _ _ _ _ => rfl) rfl rfl (Nat.le_of_ble_eq_true rfl) (Nat.le_of_ble_eq_true rfl) (recvV A27 (a := 13) (Abs_ks A27 (i := 23) rfl).1) (t220 (by omega) A27 (rgn 1 rfl) rl1 rl4 (Abs_rg A27 395 21) e32) (fun w32 A32 => ?_)
        exact t204_j223 hd rl4 A32 e kr
  · refine hg_icT (tgt := 242) rfl (by decide) rl2 (rgn 105 rfl) (show ¬ (l2 = 105) from q7) ?_
    refine hg_run 2 (pc' := 244) (ls' := [some (vr 395), some (vi l1), some (vi l2), z3, some (vi l4), z5]) (st' := [vI (-1), vR 395]) rfl ?_
    obtain ⟨h8, e8, e⟩ := ob e
    refine ps_395_24 rfl A (rgn (-1) rfl) e8 (fun w8 A8 => ?_)
    refine hg_run 2 (pc' := 250) (ls' := [some (vr 395), some (vi l1), some (vi l2), z3, some (vi l4), z5]) (st' := [vI 103, vI l2]) rfl ?_
    rcases oi e with ⟨q9, e⟩ | ⟨q9, e⟩
    · refine hg_icT (tgt := 271) rfl (by decide) rl2 (rgn 103 rfl) q9 ?_
      exact t204_j271 hd rl1 rl2 rl4 A8 e kr
    · refine hg_icF (tgt := 271) rfl (by decide) rl2 (rgn 103 rfl) q9 ?_
      refine hg_run 2 (pc' := 256) (ls' := [some (vr 395), some (vi l1), some (vi l2), z3, some (vi l4), z5]) (st' := [vI 61, vR 395]) rfl ?_
      obtain ⟨v21, e21, e⟩ := ob e
      refine hg_cI (as := [vR 395, vI 61]) (st' := []) rfl (fun _ _ _ _ => rfl) rfl rfl (Nat.le_of_ble_eq_true rfl) (Nat.le_of_ble_eq_true rfl) (recvV A8 (a := 13) (Abs_ks A8 (i := 23) rfl).1) (t202 (by omega) A8 (rgn 61 rfl) e21) (fun w21 r21 A21 => ?_)
      rcases oi e with ⟨q22, e⟩ | ⟨q22, e⟩
      · refine hg_ifT (tgt := 269) rfl (by decide) r21 q22 ?_
        refine hg_run 1 (pc' := 270) (ls' := [some (vr 395), some (vi l1), some (vi l2), z3, some (vi l4), z5]) (st' := [vI 0]) rfl ?_
        cases e
        exact hg_retI rfl (by decide) (fit_B (.inl rfl)) (kr _ _ rfl _ (rgn 0 rfl) A21)
      · refine hg_ifF (tgt := 269) rfl (by decide) r21 q22 ?_
        refine hg_run 1 (pc' := 263) (ls' := [some (vr 395), some (vi l1), some (vi l2), z3, some (vi l4), z5]) (st' := [vR 395]) rfl ?_
        obtain ⟨v23, e23, e⟩ := ob e
        refine hg_cI (as := [vR 395]) (st' := []) rfl (fun _ _ _ _ => rfl) rfl rfl (Nat.le_of_ble_eq_true rfl) (Nat.le_of_ble_eq_true rfl) (recvV A21 (a := 13) (Abs_ks A21 (i := 23) rfl).1) (t221 (by omega) A21  e23) (fun w23 r23 A23 => ?_)
        rcases oi e with ⟨q24, e⟩ | ⟨q24, e⟩
        · refine hg_ifF (tgt := 271) rfl (by decide) r23 (show ¬ ¬ (v23.1 = 0) from fun f => f q24) ?_
          refine hg_run 1 (pc' := 270) (ls' := [some (vr 395), some (vi l1), some (vi l2), z3, some (vi l4), z5]) (st' := [vI 0]) rfl ?_
          cases e
          exact hg_retI rfl (by decide) (fit_B (.inl rfl)) (kr _ _ rfl _ (rgn 0 rfl) A23)
        · refine hg_ifT (tgt := 271) rfl (by decide) r23 (show ¬ (v23.1 = 0) from q24) ?_
          exact t204_j271 hd rl1 rl2 rl4 A23 e kr
def c204_j173 (l3 : Int) (h : hS) : Option (Int × hS) :=
  (c195 5 l3 h).bind (fun v41 =>
  (kB v41.1).bind (fun u42 =>
  some (v41.1, v41.2)))
set_option maxRecDepth 100000 in
theorem t204_j173 {d : Nat} (hd : 246 ≤ d) {l3 : Int} {z1 : Option hO} {z2 : Option hO} {z4 : Option hO} {z5 : Option hO} {h : hS} {w : mmW} {o : Int × hS} {Q : mmO → Prop} (rl3 : rg l3) (A : Abs h w) (e : c204_j173 l3 h = some o) (kr : ∀ (v1 : Int) (h1 : hS), o = (v1, h1) → ∀ w', rg v1 → Abs h1 w' → Q (some (.int (Int32.ofInt v1)), w')) : hG d 204 173 [some (vr 395), z1, z2, some (vi l3), z4, z5] [] w Q := by
  unfold c204_j173 at e
  refine hg_run 3 (pc' := 176) (ls' := [some (vr 395), z1, z2, some (vi l3), z4, z5]) (st' := [vI l3, vI 5, vR 395]) rfl ?_
  obtain ⟨v41, e41, e⟩ := ob e
  refine hg_cI (as := [vR 395, vI 5, vI l3]) (st' := []) rfl (fun _ _ _ _ => rfl) rfl rfl (Nat.le_of_ble_eq_true rfl) (Nat.le_of_ble_eq_true rfl) (recvV A (a := 13) (Abs_ks A (i := 23) rfl).1) (t195 (by omega) A (rgn 5 rfl) rl3 e41) (fun w41 r41 A41 => ?_)
  obtain ⟨u42, e42, e⟩ := ob e
  cases e
  exact hg_retI rfl (by decide) (fit_B (kB_e e42)) (kr _ _ rfl _ r41 A41)
def c204_j104 (s0 : Int) (l1 : Int) (l2 : Int) (l3 : Int) (l4 : Int) (h : hS) : Option (Int × hS) :=
  if s0 = 0 then
  if l2 = 105 then
  (c199 1 l1 39 h).bind (fun v45 =>
  if v45 = 8 then
  c204_j173 l3 h
  else
  c204_j180 l1 l2 l4 h)
  else
  if l2 = 104 then
  (c199 1 l1 30 h).bind (fun v43 =>
  if v43 = 4 then
  c204_j173 l3 h
  else
  c204_j180 l1 l2 l4 h)
  else
  (c199 1 l1 5 h).bind (fun v39 =>
  if v39 = 8 then
  c204_j173 l3 h
  else
  c204_j180 l1 l2 l4 h)
  else
  (c195 4 l3 h).bind (fun v47 =>
  (kB v47.1).bind (fun u48 =>
  some (v47.1, v47.2)))
set_option maxRecDepth 100000 in
theorem t204_j104 {d : Nat} (hd : 246 ≤ d) {s0 : Int} {l1 : Int} {l2 : Int} {l3 : Int} {l4 : Int} {z5 : Option hO} {h : hS} {w : mmW} {o : Int × hS} {Q : mmO → Prop} (rs0 : rg s0) (rl1 : rg l1) (rl2 : rg l2) (rl3 : rg l3) (rl4 : rg l4) (A : Abs h w) (e : c204_j104 s0 l1 l2 l3 l4 h = some o) (kr : ∀ (v1 : Int) (h1 : hS), o = (v1, h1) → ∀ w', rg v1 → Abs h1 w' → Q (some (.int (Int32.ofInt v1)), w')) : hG d 204 104 [some (vr 395), some (vi l1), some (vi l2), some (vi l3), some (vi l4), z5] [vI s0] w Q := by
  unfold c204_j104 at e
  refine hg_run 2 (pc' := 108) (ls' := [some (vr 395), some (vi l1), some (vi l2), some (vi l3), some (vi l4), some (vi s0)]) (st' := [vI s0]) rfl ?_
  rcases oi e with ⟨q36, e⟩ | ⟨q36, e⟩
  · refine hg_ifT (tgt := 118) rfl (by decide) rs0 q36 ?_
    refine hg_run 2 (pc' := 121) (ls' := [some (vr 395), some (vi l1), some (vi l2), some (vi l3), some (vi l4), some (vi s0)]) (st' := [vI 105, vI l2]) rfl ?_
    rcases oi e with ⟨q37, e⟩ | ⟨q37, e⟩
    · refine hg_icF (tgt := 140) rfl (by decide) rl2 (rgn 105 rfl) (show ¬ ¬ (l2 = 105) from fun f => f q37) ?_
      refine hg_run 4 (pc' := 129) (ls' := [some (vr 395), some (vi l1), some (vi l2), some (vi l3), some (vi l4), some (vi s0)]) (st' := [vI 39, vI l1, vI 1, vR 395]) rfl ?_
      obtain ⟨v45, e45, e⟩ := ob e
      refine hg_cIp (as := [vR 395, vI 1, vI l1, vI 39]) (st' := []) rfl (fun _ _ _ _ => rfl) rfl rfl (Nat.le_of_ble_eq_true rfl) (Nat.le_of_ble_eq_true rfl) (recvV A (a := 13) (Abs_ks A (i := 23) rfl).1) (t199 (by omega) A (rgn 1 rfl) rl1 (rgn 39 rfl) e45) (fun r45 => ?_)
      refine hg_run 1 (pc' := 134) (ls' := [some (vr 395), some (vi l1), some (vi l2), some (vi l3), some (vi l4), some (vi s0)]) (st' := [vI 8, vI v45]) rfl ?_
      rcases oi e with ⟨q46, e⟩ | ⟨q46, e⟩
      · refine hg_icF (tgt := 180) rfl (by decide) r45 (rgn 8 rfl) (show ¬ ¬ (v45 = 8) from fun f => f q46) ?_
        refine hg_run 1 (pc' := 173) (ls' := [some (vr 395), some (vi l1), some (vi l2), some (vi l3), some (vi l4), some (vi s0)]) (st' := []) rfl ?_
        exact t204_j173 hd rl3 A e kr
      · refine hg_icT (tgt := 180) rfl (by decide) r45 (rgn 8 rfl) (show ¬ (v45 = 8) from q46) ?_
        exact t204_j180 hd rl1 rl2 rl4 A e kr
    · refine hg_icT (tgt := 140) rfl (by decide) rl2 (rgn 105 rfl) (show ¬ (l2 = 105) from q37) ?_
      refine hg_run 2 (pc' := 143) (ls' := [some (vr 395), some (vi l1), some (vi l2), some (vi l3), some (vi l4), some (vi s0)]) (st' := [vI 104, vI l2]) rfl ?_
      rcases oi e with ⟨q38, e⟩ | ⟨q38, e⟩
      · refine hg_icF (tgt := 161) rfl (by decide) rl2 (rgn 104 rfl) (show ¬ ¬ (l2 = 104) from fun f => f q38) ?_
        refine hg_run 4 (pc' := 151) (ls' := [some (vr 395), some (vi l1), some (vi l2), some (vi l3), some (vi l4), some (vi s0)]) (st' := [vI 30, vI l1, vI 1, vR 395]) rfl ?_
        obtain ⟨v43, e43, e⟩ := ob e
        refine hg_cIp (as := [vR 395, vI 1, vI l1, vI 30]) (st' := []) rfl (fun _ _ _ _ => rfl) rfl rfl (Nat.le_of_ble_eq_true rfl) (Nat.le_of_ble_eq_true rfl) (recvV A (a := 13) (Abs_ks A (i := 23) rfl).1) (t199 (by omega) A (rgn 1 rfl) rl1 (rgn 30 rfl) e43) (fun r43 => ?_)
        refine hg_run 1 (pc' := 155) (ls' := [some (vr 395), some (vi l1), some (vi l2), some (vi l3), some (vi l4), some (vi s0)]) (st' := [vI 4, vI v43]) rfl ?_
        rcases oi e with ⟨q44, e⟩ | ⟨q44, e⟩
        · refine hg_icF (tgt := 180) rfl (by decide) r43 (rgn 4 rfl) (show ¬ ¬ (v43 = 4) from fun f => f q44) ?_
          refine hg_run 1 (pc' := 173) (ls' := [some (vr 395), some (vi l1), some (vi l2), some (vi l3), some (vi l4), some (vi s0)]) (st' := []) rfl ?_
          exact t204_j173 hd rl3 A e kr
        · refine hg_icT (tgt := 180) rfl (by decide) r43 (rgn 4 rfl) (show ¬ (v43 = 4) from q44) ?_
          exact t204_j180 hd rl1 rl2 rl4 A e kr
      · refine hg_icT (tgt := 161) rfl (by decide) rl2 (rgn 104 rfl) (show ¬ (l2 = 104) from q38) ?_
        refine hg_run 4 (pc' := 165) (ls' := [some (vr 395), some (vi l1), some (vi l2), some (vi l3), some (vi l4), some (vi s0)]) (st' := [vI 5, vI l1, vI 1, vR 395]) rfl ?_
        obtain ⟨v39, e39, e⟩ := ob e
        refine hg_cIp (as := [vR 395, vI 1, vI l1, vI 5]) (st' := []) rfl (fun _ _ _ _ => rfl) rfl rfl (Nat.le_of_ble_eq_true rfl) (Nat.le_of_ble_eq_true rfl) (recvV A (a := 13) (Abs_ks A (i := 23) rfl).1) (t199 (by omega) A (rgn 1 rfl) rl1 (rgn 5 rfl) e39) (fun r39 => ?_)
        refine hg_run 1 (pc' := 170) (ls' := [some (vr 395), some (vi l1), some (vi l2), some (vi l3), some (vi l4), some (vi s0)]) (st' := [vI 8, vI v39]) rfl ?_
        rcases oi e with ⟨q40, e⟩ | ⟨q40, e⟩
        · refine hg_icF (tgt := 180) rfl (by decide) r39 (rgn 8 rfl) (show ¬ ¬ (v39 = 8) from fun f => f q40) ?_
          exact t204_j173 hd rl3 A e kr
        · refine hg_icT (tgt := 180) rfl (by decide) r39 (rgn 8 rfl) (show ¬ (v39 = 8) from q40) ?_
          exact t204_j180 hd rl1 rl2 rl4 A e kr
  · refine hg_ifF (tgt := 118) rfl (by decide) rs0 q36 ?_
    refine hg_run 3 (pc' := 114) (ls' := [some (vr 395), some (vi l1), some (vi l2), some (vi l3), some (vi l4), some (vi s0)]) (st' := [vI l3, vI 4, vR 395]) rfl ?_
    obtain ⟨v47, e47, e⟩ := ob e
    refine hg_cI (as := [vR 395, vI 4, vI l3]) (st' := []) rfl (fun _ _ _ _ => rfl) rfl rfl (Nat.le_of_ble_eq_true rfl) (Nat.le_of_ble_eq_true rfl) (recvV A (a := 13) (Abs_ks A (i := 23) rfl).1) (t195 (by omega) A (rgn 4 rfl) rl3 e47) (fun w47 r47 A47 => ?_)
    obtain ⟨u48, e48, e⟩ := ob e
    cases e
    exact hg_retI rfl (by decide) (fit_B (kB_e e48)) (kr _ _ rfl _ r47 A47)
def c204_j99 (l1 : Int) (l2 : Int) (l3 : Int) (l4 : Int) (h : hS) : Option (Int × hS) :=
  c204_j104 1 l1 l2 l3 l4 h
set_option maxRecDepth 100000 in
theorem t204_j99 {d : Nat} (hd : 246 ≤ d) {l1 : Int} {l2 : Int} {l3 : Int} {l4 : Int} {z5 : Option hO} {h : hS} {w : mmW} {o : Int × hS} {Q : mmO → Prop} (rl1 : rg l1) (rl2 : rg l2) (rl3 : rg l3) (rl4 : rg l4) (A : Abs h w) (e : c204_j99 l1 l2 l3 l4 h = some o) (kr : ∀ (v1 : Int) (h1 : hS), o = (v1, h1) → ∀ w', rg v1 → Abs h1 w' → Q (some (.int (Int32.ofInt v1)), w')) : hG d 204 99 [some (vr 395), some (vi l1), some (vi l2), some (vi l3), some (vi l4), z5] [] w Q := by
  unfold c204_j99 at e
  refine hg_run 2 (pc' := 104) (ls' := [some (vr 395), some (vi l1), some (vi l2), some (vi l3), some (vi l4), z5]) (st' := [vI 1]) rfl ?_
  exact t204_j104 hd (rgn 1 rfl) rl1 rl2 rl3 rl4 A e kr
def c204 (l1 : Int) (h : hS) : Option (Int × hS) :=
  (c191 (hI h 395 3) 102 105 h).bind (fun v1 =>
  if v1 = 0 then
  (c194 1 h).bind (fun v53 =>
  (kB v53.1).bind (fun u54 =>
  some (v53.1, v53.2)))
  else
  (c188  h).bind (fun h3 =>
  (c196  h3).bind (fun v4 =>
  if v4.1 = 0 then
  some (0, v4.2)
  else
  if l1 = (-1) then
  c204_j180 l1 (hI h 395 3) (hI v4.2 395 17) v4.2
  else
  if (hI h 395 3) = 105 then
  (c205 1 l1 (hI v4.2 395 17) v4.2).bind (fun v51 =>
  if v51 = (-1) then
  c204_j104 0 l1 (hI h 395 3) (hI h3 395 4) (hI v4.2 395 17) v4.2
  else
  c204_j104 1 l1 (hI h 395 3) (hI h3 395 4) (hI v4.2 395 17) v4.2)
  else
  (c206 1 l1 (hI v4.2 395 17) v4.2).bind (fun v34 =>
  if v34 = 0 then
  (c209 1 l1 (hI v4.2 395 17) v4.2).bind (fun v49 =>
  if v49 = 0 then
  c204_j104 0 l1 (hI h 395 3) (hI h3 395 4) (hI v4.2 395 17) v4.2
  else
  c204_j99 l1 (hI h 395 3) (hI h3 395 4) (hI v4.2 395 17) v4.2)
  else
  c204_j99 l1 (hI h 395 3) (hI h3 395 4) (hI v4.2 395 17) v4.2))))
set_option maxRecDepth 100000 in
theorem t204 {d : Nat} (hd : 247 ≤ d) {l1 : Int} {h : hS} {w : mmW} {o : Int × hS} (A : Abs h w) (rl1 : rg l1) (e : c204 l1 h = some o) : hEv d 204 [vR 395, vI l1] w (qI o) := by
  obtain ⟨d, rfl⟩ : ∃ d1, d = d1 + 1 := ⟨d - 1, by omega⟩
  have hd : 246 ≤ d := by omega
  refine hEv_start (args := [vr 395, vi l1]) (nl := 6) rfl (Nat.le_of_ble_eq_true rfl) ?_
  show hG d 204 0 [some (vr 395), some (vi l1), none, none, none, none] [] w _
  have kr : ∀ (v1 : Int) (h1 : hS), o = (v1, h1) → ∀ w', rg v1 → Abs h1 w' → qI o (some (.int (Int32.ofInt v1)), w') := fun v1 h1 q w' r A' => by cases q; exact ⟨rfl, r, A'⟩
  unfold c204 at e
  refine hg_run 1 (pc' := 1) (ls' := [some (vr 395), some (vi l1), none, none, none, none]) (st' := [vR 395]) rfl ?_
  refine gs_395_3 rfl A ?_
  refine hg_run 4 (pc' := 10) (ls' := [some (vr 395), some (vi l1), some (vi (hI h 395 3)), none, none, none]) (st' := [vI 105, vI 102, vI (hI h 395 3)]) rfl ?_
  obtain ⟨v1, e1, e⟩ := ob e
  refine hg_cIp (as := [vI (hI h 395 3), vI 102, vI 105]) (st' := []) rfl (fun _ _ _ _ => rfl) rfl rfl (Nat.le_of_ble_eq_true rfl) (Nat.le_of_ble_eq_true rfl) recv0 (t191 (by omega) A (Abs_rg A 395 3) (rgn 102 rfl) (rgn 105 rfl) e1) (fun r1 => ?_)
  rcases oi e with ⟨q2, e⟩ | ⟨q2, e⟩
  · refine hg_ifF (tgt := 22) rfl (by decide) r1 (show ¬ ¬ (v1 = 0) from fun f => f q2) ?_
    refine hg_run 2 (pc' := 18) (ls' := [some (vr 395), some (vi l1), some (vi (hI h 395 3)), none, none, none]) (st' := [vI 1, vR 395]) rfl ?_
    obtain ⟨v53, e53, e⟩ := ob e
    refine hg_cI (as := [vR 395, vI 1]) (st' := []) rfl (fun _ _ _ _ => rfl) rfl rfl (Nat.le_of_ble_eq_true rfl) (Nat.le_of_ble_eq_true rfl) (recvV A (a := 13) (Abs_ks A (i := 23) rfl).1) (t194 (by omega) A (rgn 1 rfl) e53) (fun w53 r53 A53 => ?_)
    obtain ⟨u54, e54, e⟩ := ob e
    cases e
    exact hg_retI rfl (by decide) (fit_B (kB_e e54)) (kr _ _ rfl _ r53 A53)
  · refine hg_ifT (tgt := 22) rfl (by decide) r1 (show ¬ (v1 = 0) from q2) ?_
    refine hg_run 1 (pc' := 23) (ls' := [some (vr 395), some (vi l1), some (vi (hI h 395 3)), none, none, none]) (st' := [vR 395]) rfl ?_
    obtain ⟨h3, e3, e⟩ := ob e
    refine hg_cV (as := [vR 395]) (st' := []) rfl (fun _ _ _ _ => rfl) rfl rfl (Nat.le_of_ble_eq_true rfl) (Nat.le_of_ble_eq_true rfl) (recvV A (a := 13) (Abs_ks A (i := 23) rfl).1) (t188 (by omega) A  e3) (fun w3 A3 => ?_)
    refine hg_run 1 (pc' := 27) (ls' := [some (vr 395), some (vi l1), some (vi (hI h 395 3)), none, none, none]) (st' := [vR 395]) rfl ?_
    refine gs_395_4 rfl A3 ?_
    refine hg_run 2 (pc' := 32) (ls' := [some (vr 395), some (vi l1), some (vi (hI h 395 3)), some (vi (hI h3 395 4)), none, none]) (st' := [vR 395]) rfl ?_
    obtain ⟨v4, e4, e⟩ := ob e
    refine hg_cI (as := [vR 395]) (st' := []) rfl (fun _ _ _ _ => rfl) rfl rfl (Nat.le_of_ble_eq_true rfl) (Nat.le_of_ble_eq_true rfl) (recvV A3 (a := 13) (Abs_ks A3 (i := 23) rfl).1) (t196 (by omega) A3  e4) (fun w4 r4 A4 => ?_)
    rcases oi e with ⟨q5, e⟩ | ⟨q5, e⟩
    · refine hg_ifF (tgt := 40) rfl (by decide) r4 (show ¬ ¬ (v4.1 = 0) from fun f => f q5) ?_
      refine hg_run 1 (pc' := 39) (ls' := [some (vr 395), some (vi l1), some (vi (hI h 395 3)), some (vi (hI h3 395 4)), none, none]) (st' := [vI 0]) rfl ?_
      cases e
      exact hg_retI rfl (by decide) (fit_B (.inl rfl)) (kr _ _ rfl _ (rgn 0 rfl) A4)
    · refine hg_ifT (tgt := 40) rfl (by decide) r4 (show ¬ (v4.1 = 0) from q5) ?_
      refine hg_run 1 (pc' := 41) (ls' := [some (vr 395), some (vi l1), some (vi (hI h 395 3)), some (vi (hI h3 395 4)), none, none]) (st' := [vR 395]) rfl ?_
      refine gs_395_17 rfl A4 ?_
      refine hg_run 3 (pc' := 48) (ls' := [some (vr 395), some (vi l1), some (vi (hI h 395 3)), some (vi (hI h3 395 4)), some (vi (hI v4.2 395 17)), none]) (st' := [vI (-1), vI l1]) rfl ?_
      rcases oi e with ⟨q6, e⟩ | ⟨q6, e⟩
      · refine hg_icT (tgt := 180) rfl (by decide) rl1 (rgn (-1) rfl) q6 ?_
        exact t204_j180 hd rl1 (Abs_rg A 395 3) (Abs_rg A4 395 17) A4 e kr
      · refine hg_icF (tgt := 180) rfl (by decide) rl1 (rgn (-1) rfl) q6 ?_
        refine hg_run 2 (pc' := 54) (ls' := [some (vr 395), some (vi l1), some (vi (hI h 395 3)), some (vi (hI h3 395 4)), some (vi (hI v4.2 395 17)), none]) (st' := [vI 105, vI (hI h 395 3)]) rfl ?_
        rcases oi e with ⟨q33, e⟩ | ⟨q33, e⟩
        · refine hg_icF (tgt := 77) rfl (by decide) (Abs_rg A 395 3) (rgn 105 rfl) (show ¬ ¬ ((hI h 395 3) = 105) from fun f => f q33) ?_
          refine hg_run 4 (pc' := 62) (ls' := [some (vr 395), some (vi l1), some (vi (hI h 395 3)), some (vi (hI h3 395 4)), some (vi (hI v4.2 395 17)), none]) (st' := [vI (hI v4.2 395 17), vI l1, vI 1, vR 395]) rfl ?_
          obtain ⟨v51, e51, e⟩ := ob e
          refine hg_cIp (as := [vR 395, vI 1, vI l1, vI (hI v4.2 395 17)]) (st' := []) rfl (fun _ _ _ _ => rfl) rfl rfl (Nat.le_of_ble_eq_true rfl) (Nat.le_of_ble_eq_true rfl) (recvV A4 (a := 13) (Abs_ks A4 (i := 23) rfl).1) (t205 (by omega) A4 (rgn 1 rfl) rl1 (Abs_rg A4 395 17) e51) (fun r51 => ?_)
          refine hg_run 1 (pc' := 66) (ls' := [some (vr 395), some (vi l1), some (vi (hI h 395 3)), some (vi (hI h3 395 4)), some (vi (hI v4.2 395 17)), none]) (st' := [vI (-1), vI v51]) rfl ?_
          rcases oi e with ⟨q52, e⟩ | ⟨q52, e⟩
          · refine hg_icT (tgt := 73) rfl (by decide) r51 (rgn (-1) rfl) q52 ?_
            refine hg_run 2 (pc' := 104) (ls' := [some (vr 395), some (vi l1), some (vi (hI h 395 3)), some (vi (hI h3 395 4)), some (vi (hI v4.2 395 17)), none]) (st' := [vI 0]) rfl ?_
            exact t204_j104 hd (rgn 0 rfl) rl1 (Abs_rg A 395 3) (Abs_rg A3 395 4) (Abs_rg A4 395 17) A4 e kr
          · refine hg_icF (tgt := 73) rfl (by decide) r51 (rgn (-1) rfl) q52 ?_
            refine hg_run 2 (pc' := 104) (ls' := [some (vr 395), some (vi l1), some (vi (hI h 395 3)), some (vi (hI h3 395 4)), some (vi (hI v4.2 395 17)), none]) (st' := [vI 1]) rfl ?_
            exact t204_j104 hd (rgn 1 rfl) rl1 (Abs_rg A 395 3) (Abs_rg A3 395 4) (Abs_rg A4 395 17) A4 e kr
        · refine hg_icT (tgt := 77) rfl (by decide) (Abs_rg A 395 3) (rgn 105 rfl) (show ¬ ((hI h 395 3) = 105) from q33) ?_
          refine hg_run 4 (pc' := 82) (ls' := [some (vr 395), some (vi l1), some (vi (hI h 395 3)), some (vi (hI h3 395 4)), some (vi (hI v4.2 395 17)), none]) (st' := [vI (hI v4.2 395 17), vI l1, vI 1, vR 395]) rfl ?_
          obtain ⟨v34, e34, e⟩ := ob e
          refine hg_cIp (as := [vR 395, vI 1, vI l1, vI (hI v4.2 395 17)]) (st' := []) rfl (fun _ _ _ _ => rfl) rfl rfl (Nat.le_of_ble_eq_true rfl) (Nat.le_of_ble_eq_true rfl) (recvV A4 (a := 13) (Abs_ks A4 (i := 23) rfl).1) (t206 (by omega) A4 (rgn 1 rfl) rl1 (Abs_rg A4 395 17) e34) (fun r34 => ?_)
          rcases oi e with ⟨q35, e⟩ | ⟨q35, e⟩
          · refine hg_ifF (tgt := 99) rfl (by decide) r34 (show ¬ ¬ (v34 = 0) from fun f => f q35) ?_
            refine hg_run 4 (pc' := 93) (ls' := [some (vr 395), some (vi l1), some (vi (hI h 395 3)), some (vi (hI h3 395 4)), some (vi (hI v4.2 395 17)), none]) (st' := [vI (hI v4.2 395 17), vI l1, vI 1, vR 395]) rfl ?_
            obtain ⟨v49, e49, e⟩ := ob e
            refine hg_cIp (as := [vR 395, vI 1, vI l1, vI (hI v4.2 395 17)]) (st' := []) rfl (fun _ _ _ _ => rfl) rfl rfl (Nat.le_of_ble_eq_true rfl) (Nat.le_of_ble_eq_true rfl) (recvV A4 (a := 13) (Abs_ks A4 (i := 23) rfl).1) (t209 (by omega) A4 (rgn 1 rfl) rl1 (Abs_rg A4 395 17) e49) (fun r49 => ?_)
            rcases oi e with ⟨q50, e⟩ | ⟨q50, e⟩
            · refine hg_ifT (tgt := 103) rfl (by decide) r49 q50 ?_
              refine hg_run 1 (pc' := 104) (ls' := [some (vr 395), some (vi l1), some (vi (hI h 395 3)), some (vi (hI h3 395 4)), some (vi (hI v4.2 395 17)), none]) (st' := [vI 0]) rfl ?_
              exact t204_j104 hd (rgn 0 rfl) rl1 (Abs_rg A 395 3) (Abs_rg A3 395 4) (Abs_rg A4 395 17) A4 e kr
            · refine hg_ifF (tgt := 103) rfl (by decide) r49 q50 ?_
              exact t204_j99 hd rl1 (Abs_rg A 395 3) (Abs_rg A3 395 4) (Abs_rg A4 395 17) A4 e kr
          · refine hg_ifT (tgt := 99) rfl (by decide) r34 (show ¬ (v34 = 0) from q35) ?_
            exact t204_j99 hd rl1 (Abs_rg A 395 3) (Abs_rg A3 395 4) (Abs_rg A4 395 17) A4 e kr
def c193_b154 (l4 : Int) (h : hS) : Option ((hS) ⊕ ((hS) ⊕ (Int × hS))) :=
  (c203 125 h).bind (fun v14 =>
  if v14 = 0 then
  (c204 l4 h).bind (fun v16 =>
  if v16.1 = 0 then
  some (.inr (.inr (0, v16.2)))
  else
  some (.inl (v16.2)))
  else
  some (.inr (.inl (h))))
set_option maxRecDepth 100000 in
theorem t193_b154 {d : Nat} (hd : 247 ≤ d) {l4 : Int} {z1 : Option hO} {z2 : Option hO} {z3 : Option hO} {h : hS} {w : mmW} {o : (hS) ⊕ ((hS) ⊕ (Int × hS))} {Q : mmO → Prop} (rl4 : rg l4) (A : Abs h w) (e : c193_b154 l4 h = some o) (kb : ∀ (s_0 : hS), o = .inl (s_0) → ∀ w', Abs s_0 w' → hG d 193 154 [some (vr 395), z1, z2, z3, some (vi l4)] [] w' Q) (ke : ∀ (x_0 : hS), o = .inr (.inl (x_0)) → ∀ w', Abs x_0 w' → hG d 193 174 [some (vr 395), z1, z2, z3, some (vi l4)] [] w' Q) (kr : ∀ (v1 : Int) (h1 : hS), o = .inr (.inr (v1, h1)) → ∀ w', rg v1 → Abs h1 w' → Q (some (.int (Int32.ofInt v1)), w')) : hG d 193 154 [some (vr 395), z1, z2, z3, some (vi l4)] [] w Q := by
  unfold c193_b154 at e
  refine hg_run 2 (pc' := 157) (ls' := [some (vr 395), z1, z2, z3, some (vi l4)]) (st' := [vI 125, vR 395]) rfl ?_
  obtain ⟨v14, e14, e⟩ := ob e
  refine hg_cIp (as := [vR 395, vI 125]) (st' := []) rfl (fun _ _ _ _ => rfl) rfl rfl (Nat.le_of_ble_eq_true rfl) (Nat.le_of_ble_eq_true rfl) (recvV A (a := 13) (Abs_ks A (i := 23) rfl).1) (t203 (by omega) A (rgn 125 rfl) e14) (fun r14 => ?_)
  rcases oi e with ⟨q15, e⟩ | ⟨q15, e⟩
  · refine hg_ifF (tgt := 174) rfl (by decide) r14 (show ¬ ¬ (v14 = 0) from fun f => f q15) ?_
    refine hg_run 2 (pc' := 166) (ls' := [some (vr 395), z1, z2, z3, some (vi l4)]) (st' := [vI l4, vR 395]) rfl ?_
    obtain ⟨v16, e16, e⟩ := ob e
    refine hg_cI (as := [vR 395, vI l4]) (st' := []) rfl (fun _ _ _ _ => rfl) rfl rfl (Nat.le_of_ble_eq_true rfl) (Nat.le_of_ble_eq_true rfl) (recvV A (a := 13) (Abs_ks A (i := 23) rfl).1) (t204 (by omega) A rl4 e16) (fun w16 r16 A16 => ?_)
    rcases oi e with ⟨q17, e⟩ | ⟨q17, e⟩
    · refine hg_ifF (tgt := 154) rfl (by decide) r16 (show ¬ ¬ (v16.1 = 0) from fun f => f q17) ?_
      refine hg_run 1 (pc' := 173) (ls' := [some (vr 395), z1, z2, z3, some (vi l4)]) (st' := [vI 0]) rfl ?_
      cases e
      exact hg_retI rfl (by decide) (fit_B (.inl rfl)) (kr _ _ rfl _ (rgn 0 rfl) A16)
    · refine hg_ifT (tgt := 154) rfl (by decide) r16 (show ¬ (v16.1 = 0) from q17) ?_
      cases e
      exact kb v16.2 rfl _  A16
  · refine hg_ifT (tgt := 174) rfl (by decide) r14 (show ¬ (v14 = 0) from q15) ?_
    cases e
    exact ke h rfl _  A
set_option maxRecDepth 100000 in
theorem t193_l154 {d : Nat} (hd : 247 ≤ d) {l4 : Int} {z1 : Option hO} {z2 : Option hO} {z3 : Option hO} {Q : mmO → Prop} (rl4 : rg l4) (n : Nat)   {h : hS} {w : mmW} {r : (hS) ⊕ (Int × hS)}  (A : Abs h w) (e : lp (fun s => c193_b154 l4 s) n (h) = some r) (ke : ∀ (x_0 : hS), r = .inl (x_0) → ∀ w', Abs x_0 w' → hG d 193 174 [some (vr 395), z1, z2, z3, some (vi l4)] [] w' Q) (kr : ∀ (v1 : Int) (h1 : hS), r = .inr (v1, h1) → ∀ w', rg v1 → Abs h1 w' → Q (some (.int (Int32.ofInt v1)), w')) : hG d 193 154 [some (vr 395), z1, z2, z3, some (vi l4)] [] w Q := by
  induction n generalizing h w with
  | zero => cases e
  | succ n ih =>
    rcases lp_succ e with ⟨s1, e1, e2⟩ | e1
    · exact t193_b154 hd rl4 A e1 (fun s_0 q w1 A1 => by cases q; exact ih  A1 e2) (fun x_0 q => by cases q) (fun v0 h0 q => by cases q)
    · exact t193_b154 hd rl4 A e1 (fun s_0 q => by cases q) (fun x_0 q => by cases q; exact ke _ rfl) (fun v0 h0 q => by cases q; exact kr _ _ rfl)
def c193_j126 (l2 : Int) (l3 : Int) (h : hS) : Option (Int × hS) :=
  (c200 1 l2 h).bind (fun v10 =>
  (c201 1 v10.1 1 l3 v10.2).bind (fun h11 =>
  (c202 123 h11).bind (fun v12 =>
  if v12.1 = 0 then
  some (0, v12.2)
  else
  (lp (fun s => c193_b154 v10.1 s) hF0 (v12.2)).bind (fun r18 => xs r18 (fun x18 =>
  (c188  x18).bind (fun h19 =>
  some (1, h19))) (fun o18 => some o18)))))
set_option maxRecDepth 100000 in
theorem t193_j126 {d : Nat} (hd : 247 ≤ d) {l2 : Int} {l3 : Int} {z1 : Option hO} {z4 : Option hO} {h : hS} {w : mmW} {o : Int × hS} {Q : mmO → Prop} (rl2 : rg l2) (rl3 : rg l3) (A : Abs h w) (e : c193_j126 l2 l3 h = some o) (kr : ∀ (v1 : Int) (h1 : hS), o = (v1, h1) → ∀ w', rg v1 → Abs h1 w' → Q (some (.int (Int32.ofInt v1)), w')) : hG d 193 126 [some (vr 395), z1, some (vi l2), some (vi l3), z4] [] w Q := by
  unfold c193_j126 at e
  refine hg_run 3 (pc' := 129) (ls' := [some (vr 395), z1, some (vi l2), some (vi l3), z4]) (st' := [vI l2, vI 1, vR 395]) rfl ?_
  obtain ⟨v10, e10, e⟩ := ob e
  refine hg_cI (as := [vR 395, vI 1, vI l2]) (st' := []) rfl (fun _ _ _ _ => rfl) rfl rfl (Nat.le_of_ble_eq_true rfl) (Nat.le_of_ble_eq_true rfl) (recvV A (a := 13) (Abs_ks A (i := 23) rfl).1) (t200 (by omega) A (rgn 1 rfl) rl2 e10) (fun w10 r10 A10 => ?_)
  refine hg_run 6 (pc' := 140) (ls' := [some (vr 395), z1, some (vi l2), some (vi l3), some (vi v10.1)]) (st' := [vI l3, vI 1, vI v10.1, vI 1, vR 395]) rfl ?_
  obtain ⟨h11, e11, e⟩ := ob e
  refine hg_cV (as := [vR 395, vI 1, vI v10.1, vI 1, vI l3]) (st' := []) rfl (fun _ _ _ _ => rfl) rfl rfl (Nat.le_of_ble_eq_true rfl) (Nat.le_of_ble_eq_true rfl) (recvV A10 (a := 13) (Abs_ks A10 (i := 23) rfl).1) (t201 (by omega) A10 (rgn 1 rfl) r10 (rgn 1 rfl) rl3 e11) (fun w11 A11 => ?_)
  refine hg_run 2 (pc' := 146) (ls' := [some (vr 395), z1, some (vi l2), some (vi l3), some (vi v10.1)]) (st' := [vI 123, vR 395]) rfl ?_
  obtain ⟨v12, e12, e⟩ := ob e
  refine hg_cI (as := [vR 395, vI 123]) (st' := []) rfl (fun _ _ _ _ => rfl) rfl rfl (Nat.le_of_ble_eq_true rfl) (Nat.le_of_ble_eq_true rfl) (recvV A11 (a := 13) (Abs_ks A11 (i := 23) rfl).1) (t202 (by omega) A11 (rgn 123 rfl) e12) (fun w12 r12 A12 => ?_)
  rcases oi e with ⟨q13, e⟩ | ⟨q13, e⟩
  · refine hg_ifF (tgt := 154) rfl (by decide) r12 (show ¬ ¬ (v12.1 = 0) from fun f => f q13) ?_
    refine hg_run 1 (pc' := 153) (ls' := [some (vr 395), z1, some (vi l2), some (vi l3), some (vi v10.1)]) (st' := [vI 0]) rfl ?_
    cases e
    exact hg_retI rfl (by decide) (fit_B (.inl rfl)) (kr _ _ rfl _ (rgn 0 rfl) A12)
  · refine hg_ifT (tgt := 154) rfl (by decide) r12 (show ¬ (v12.1 = 0) from q13) ?_
    obtain ⟨r18, e18, e⟩ := ob e
    refine t193_l154 hd r10 _  A12 e18 ?_ ?_
    · intro x18_0 qq18 w18 A18
      subst qq18
      have e := xs_l e
      refine hg_run 1 (pc' := 175) (ls' := [some (vr 395), z1, some (vi l2), some (vi l3), some (vi v10.1)]) (st' := [vR 395]) rfl ?_
      obtain ⟨h19, e19, e⟩ := ob e
      refine hg_cV (as := [vR 395]) (st' := []) rfl (fun _ _ _ _ => rfl) rfl rfl (Nat.le_of_ble_eq_true rfl) (Nat.le_of_ble_eq_true rfl) (recvV A18 (a := 13) (Abs_ks A18 (i := 23) rfl).1) (t188 (by omega) A18  e19) (fun w19 A19 => ?_)
      refine hg_run 1 (pc' := 179) (ls' := [some (vr 395), z1, some (vi l2), some (vi l3), some (vi v10.1)]) (st' := [vI 1]) rfl ?_
      cases e
      exact hg_retI rfl (by decide) (fit_B (.inr rfl)) (kr _ _ rfl _ (rgn 1 rfl) A19)
    · intro v18 h18 qq18 w18 r18 A18
      subst qq18
      have e := xs_r e
      cases e
      exact kr _ _ rfl w18 r18 A18
def c193 (h : hS) : Option (Int × hS) :=
  if (hI h 395 3) = 100 then
  (c188  h).bind (fun h2 =>
  (c196  h2).bind (fun v3 =>
  if v3.1 = 0 then
  some (0, v3.2)
  else
  (c197 1 (hI v3.2 395 17) v3.2).bind (fun v5 =>
  if v5 = (-1) then
  (c198 1 v3.2).bind (fun v7 =>
  if v7 = 12 then
  (c195 5 (hI h2 395 4) v3.2).bind (fun v27 =>
  (kB v27.1).bind (fun u28 =>
  some (v27.1, v27.2)))
  else
  if (hI v3.2 395 3) = 101 then
  (c188  v3.2).bind (fun h20 =>
  (c196  h20).bind (fun v21 =>
  if v21.1 = 0 then
  some (0, v21.2)
  else
  (c197 1 (hI v21.2 395 17) v21.2).bind (fun v23 =>
  if v23 = (-1) then
  (c195 4 (hI h20 395 4) v21.2).bind (fun v25 =>
  (kB v25.1).bind (fun u26 =>
  some (v25.1, v25.2)))
  else
  c193_j126 (hI v3.2 395 17) v23 v21.2)))
  else
  c193_j126 (hI v3.2 395 17) (-1) v3.2)
  else
  (c195 4 (hI h2 395 4) v3.2).bind (fun v29 =>
  (kB v29.1).bind (fun u30 =>
  some (v29.1, v29.2))))))
  else
  (c194 1 h).bind (fun v31 =>
  (kB v31.1).bind (fun u32 =>
  some (v31.1, v31.2)))
set_option maxRecDepth 100000 in
theorem t193 {d : Nat} (hd : 248 ≤ d)  {h : hS} {w : mmW} {o : Int × hS} (A : Abs h w)  (e : c193 h = some o) : hEv d 193 [vR 395] w (qI o) := by
  obtain ⟨d, rfl⟩ : ∃ d1, d = d1 + 1 := ⟨d - 1, by omega⟩
  have hd : 247 ≤ d := by omega
  refine hEv_start (args := [vr 395]) (nl := 5) rfl (Nat.le_of_ble_eq_true rfl) ?_
  show hG d 193 0 [some (vr 395), none, none, none, none] [] w _
  have kr : ∀ (v1 : Int) (h1 : hS), o = (v1, h1) → ∀ w', rg v1 → Abs h1 w' → qI o (some (.int (Int32.ofInt v1)), w') := fun v1 h1 q w' r A' => by cases q; exact ⟨rfl, r, A'⟩
  unfold c193 at e
  refine hg_run 1 (pc' := 1) (ls' := [some (vr 395), none, none, none, none]) (st' := [vR 395]) rfl ?_
  refine gs_395_3 rfl A ?_
  refine hg_run 1 (pc' := 6) (ls' := [some (vr 395), none, none, none, none]) (st' := [vI 100, vI (hI h 395 3)]) rfl ?_
  rcases oi e with ⟨q1, e⟩ | ⟨q1, e⟩
  · refine hg_icT (tgt := 15) rfl (by decide) (Abs_rg A 395 3) (rgn 100 rfl) q1 ?_
    refine hg_run 1 (pc' := 16) (ls' := [some (vr 395), none, none, none, none]) (st' := [vR 395]) rfl ?_
    obtain ⟨h2, e2, e⟩ := ob e
    refine hg_cV (as := [vR 395]) (st' := []) rfl (fun _ _ _ _ => rfl) rfl rfl (Nat.le_of_ble_eq_true rfl) (Nat.le_of_ble_eq_true rfl) (recvV A (a := 13) (Abs_ks A (i := 23) rfl).1) (t188 (by omega) A  e2) (fun w2 A2 => ?_)
    refine hg_run 1 (pc' := 20) (ls' := [some (vr 395), none, none, none, none]) (st' := [vR 395]) rfl ?_
    refine gs_395_4 rfl A2 ?_
    refine hg_run 2 (pc' := 25) (ls' := [some (vr 395), some (vi (hI h2 395 4)), none, none, none]) (st' := [vR 395]) rfl ?_
    obtain ⟨v3, e3, e⟩ := ob e
    refine hg_cI (as := [vR 395]) (st' := []) rfl (fun _ _ _ _ => rfl) rfl rfl (Nat.le_of_ble_eq_true rfl) (Nat.le_of_ble_eq_true rfl) (recvV A2 (a := 13) (Abs_ks A2 (i := 23) rfl).1) (t196 (by omega) A2  e3) (fun w3 r3 A3 => ?_)
    rcases oi e with ⟨q4, e⟩ | ⟨q4, e⟩
    · refine hg_ifF (tgt := 33) rfl (by decide) r3 (show ¬ ¬ (v3.1 = 0) from fun f => f q4) ?_
      refine hg_run 1 (pc' := 32) (ls' := [some (vr 395), some (vi (hI h2 395 4)), none, none, none]) (st' := [vI 0]) rfl ?_
      cases e
      exact hg_retI rfl (by decide) (fit_B (.inl rfl)) (kr _ _ rfl _ (rgn 0 rfl) A3)
    · refine hg_ifT (tgt := 33) rfl (by decide) r3 (show ¬ (v3.1 = 0) from q4) ?_
      refine hg_run 3 (pc' := 36) (ls' := [some (vr 395), some (vi (hI h2 395 4)), none, none, none]) (st' := [vR 395, vI 1, vR 395]) rfl ?_
      refine gs_395_17 rfl A3 ?_
      obtain ⟨v5, e5, e⟩ := ob e
      refine hg_cIp (as := [vR 395, vI 1, vI (hI v3.2 395 17)]) (st' := []) rfl (fun _ _ _ _ => rfl) rfl rfl (Nat.le_of_ble_eq_true rfl) (Nat.le_of_ble_eq_true rfl) (recvV A3 (a := 13) (Abs_ks A3 (i := 23) rfl).1) (t197 (by omega) A3 (rgn 1 rfl) (Abs_rg A3 395 17) e5) (fun r5 => ?_)
      refine hg_run 1 (pc' := 43) (ls' := [some (vr 395), some (vi (hI h2 395 4)), none, none, none]) (st' := [vI (-1), vI v5]) rfl ?_
      rcases oi e with ⟨q6, e⟩ | ⟨q6, e⟩
      · refine hg_icT (tgt := 53) rfl (by decide) r5 (rgn (-1) rfl) q6 ?_
        refine hg_run 2 (pc' := 55) (ls' := [some (vr 395), some (vi (hI h2 395 4)), none, none, none]) (st' := [vI 1, vR 395]) rfl ?_
        obtain ⟨v7, e7, e⟩ := ob e
        refine hg_cIp (as := [vR 395, vI 1]) (st' := []) rfl (fun _ _ _ _ => rfl) rfl rfl (Nat.le_of_ble_eq_true rfl) (Nat.le_of_ble_eq_true rfl) (recvV A3 (a := 13) (Abs_ks A3 (i := 23) rfl).1) (t198 (by omega) A3 (rgn 1 rfl) e7) (fun r7 => ?_)
        refine hg_run 1 (pc' := 60) (ls' := [some (vr 395), some (vi (hI h2 395 4)), none, none, none]) (st' := [vI 12, vI v7]) rfl ?_
        rcases oi e with ⟨q8, e⟩ | ⟨q8, e⟩
        · refine hg_icF (tgt := 70) rfl (by decide) r7 (rgn 12 rfl) (show ¬ ¬ (v7 = 12) from fun f => f q8) ?_
          refine hg_run 3 (pc' := 66) (ls' := [some (vr 395), some (vi (hI h2 395 4)), none, none, none]) (st' := [vI (hI h2 395 4), vI 5, vR 395]) rfl ?_
          obtain ⟨v27, e27, e⟩ := ob e
          refine hg_cI (as := [vR 395, vI 5, vI (hI h2 395 4)]) (st' := []) rfl (fun _ _ _ _ => rfl) rfl rfl (Nat.le_of_ble_eq_true rfl) (Nat.le_of_ble_eq_true rfl) (recvV A3 (a := 13) (Abs_ks A3 (i := 23) rfl).1) (t195 (by omega) A3 (rgn 5 rfl) (Abs_rg A2 395 4) e27) (fun w27 r27 A27 => ?_)
          obtain ⟨u28, e28, e⟩ := ob e
          cases e
          exact hg_retI rfl (by decide) (fit_B (kB_e e28)) (kr _ _ rfl _ r27 A27)
        · refine hg_icT (tgt := 70) rfl (by decide) r7 (rgn 12 rfl) (show ¬ (v7 = 12) from q8) ?_
          refine hg_run 1 (pc' := 71) (ls' := [some (vr 395), some (vi (hI h2 395 4)), none, none, none]) (st' := [vR 395]) rfl ?_
          refine gs_395_17 rfl A3 ?_
          refine hg_run 4 (pc' := 78) (ls' := [some (vr 395), some (vi (hI h2 395 4)), some (vi (hI v3.2 395 17)), some (vi (-1)), none]) (st' := [vR 395]) rfl ?_
          refine gs_395_3 rfl A3 ?_
          refine hg_run 1 (pc' := 83) (ls' := [some (vr 395), some (vi (hI h2 395 4)), some (vi (hI v3.2 395 17)), some (vi (-1)), none]) (st' := [vI 101, vI (hI v3.2 395 3)]) rfl ?_
          rcases oi e with ⟨q9, e⟩ | ⟨q9, e⟩
          · refine hg_icF (tgt := 126) rfl (by decide) (Abs_rg A3 395 3) (rgn 101 rfl) (show ¬ ¬ ((hI v3.2 395 3) = 101) from fun f => f q9) ?_
            refine hg_run 1 (pc' := 87) (ls' := [some (vr 395), some (vi (hI h2 395 4)), some (vi (hI v3.2 395 17)), some (vi (-1)), none]) (st' := [vR 395]) rfl ?_
            obtain ⟨h20, e20, e⟩ := ob e
            refine hg_cV (as := [vR 395]) (st' := []) rfl (fun _ _ _ _ => rfl) rfl rfl (Nat.le_of_ble_eq_true rfl) (Nat.le_of_ble_eq_true rfl) (recvV A3 (a := 13) (Abs_ks A3 (i := 23) rfl).1) (t188 (by omega) A3  e20) (fun w20 A20 => ?_)
            refine hg_run 1 (pc' := 91) (ls' := [some (vr 395), some (vi (hI h2 395 4)), some (vi (hI v3.2 395 17)), some (vi (-1)), none]) (st' := [vR 395]) rfl ?_
            refine gs_395_4 rfl A20 ?_
            refine hg_run 2 (pc' := 96) (ls' := [some (vr 395), some (vi (hI h20 395 4)), some (vi (hI v3.2 395 17)), some (vi (-1)), none]) (st' := [vR 395]) rfl ?_
            obtain ⟨v21, e21, e⟩ := ob e
            refine hg_cI (as := [vR 395]) (st' := []) rfl (fun _ _ _ _ => rfl) rfl rfl (Nat.le_of_ble_eq_true rfl) (Nat.le_of_ble_eq_true rfl) (recvV A20 (a := 13) (Abs_ks A20 (i := 23) rfl).1) (t196 (by omega) A20  e21) (fun w21 r21 A21 => ?_)
            rcases oi e with ⟨q22, e⟩ | ⟨q22, e⟩
            · refine hg_ifF (tgt := 104) rfl (by decide) r21 (show ¬ ¬ (v21.1 = 0) from fun f => f q22) ?_
              refine hg_run 1 (pc' := 103) (ls' := [some (vr 395), some (vi (hI h20 395 4)), some (vi (hI v3.2 395 17)), some (vi (-1)), none]) (st' := [vI 0]) rfl ?_
              cases e
              exact hg_retI rfl (by decide) (fit_B (.inl rfl)) (kr _ _ rfl _ (rgn 0 rfl) A21)
            · refine hg_ifT (tgt := 104) rfl (by decide) r21 (show ¬ (v21.1 = 0) from q22) ?_
              refine hg_run 3 (pc' := 107) (ls' := [some (vr 395), some (vi (hI h20 395 4)), some (vi (hI v3.2 395 17)), some (vi (-1)), none]) (st' := [vR 395, vI 1, vR 395]) rfl ?_
              refine gs_395_17 rfl A21 ?_
              obtain ⟨v23, e23, e⟩ := ob e
              refine hg_cIp (as := [vR 395, vI 1, vI (hI v21.2 395 17)]) (st' := []) rfl (fun _ _ _ _ => rfl) rfl rfl (Nat.le_of_ble_eq_true rfl) (Nat.le_of_ble_eq_true rfl) (recvV A21 (a := 13) (Abs_ks A21 (i := 23) rfl).1) (t197 (by omega) A21 (rgn 1 rfl) (Abs_rg A21 395 17) e23) (fun r23 => ?_)
              refine hg_run 3 (pc' := 116) (ls' := [some (vr 395), some (vi (hI h20 395 4)), some (vi (hI v3.2 395 17)), some (vi v23), none]) (st' := [vI (-1), vI v23]) rfl ?_
              rcases oi e with ⟨q24, e⟩ | ⟨q24, e⟩
              · refine hg_icF (tgt := 126) rfl (by decide) r23 (rgn (-1) rfl) (show ¬ ¬ (v23 = (-1)) from fun f => f q24) ?_
                refine hg_run 3 (pc' := 122) (ls' := [some (vr 395), some (vi (hI h20 395 4)), some (vi (hI v3.2 395 17)), some (vi v23), none]) (st' := [vI (hI h20 395 4), vI 4, vR 395]) rfl ?_
                obtain ⟨v25, e25, e⟩ := ob e
                refine hg_cI (as := [vR 395, vI 4, vI (hI h20 395 4)]) (st' := []) rfl (fun _ _ _ _ => rfl) rfl rfl (Nat.le_of_ble_eq_true rfl) (Nat.le_of_ble_eq_true rfl) (recvV A21 (a := 13) (Abs_ks A21 (i := 23) rfl).1) (t195 (by omega) A21 (rgn 4 rfl) (Abs_rg A20 395 4) e25) (fun w25 r25 A25 => ?_)
                obtain ⟨u26, e26, e⟩ := ob e
                cases e
                exact hg_retI rfl (by decide) (fit_B (kB_e e26)) (kr _ _ rfl _ r25 A25)
              · refine hg_icT (tgt := 126) rfl (by decide) r23 (rgn (-1) rfl) (show ¬ (v23 = (-1)) from q24) ?_
                exact t193_j126 hd (Abs_rg A3 395 17) r23 A21 e kr
          · refine hg_icT (tgt := 126) rfl (by decide) (Abs_rg A3 395 3) (rgn 101 rfl) (show ¬ ((hI v3.2 395 3) = 101) from q9) ?_
            exact t193_j126 hd (Abs_rg A3 395 17) (rgn (-1) rfl) A3 e kr
      · refine hg_icF (tgt := 53) rfl (by decide) r5 (rgn (-1) rfl) q6 ?_
        refine hg_run 3 (pc' := 49) (ls' := [some (vr 395), some (vi (hI h2 395 4)), none, none, none]) (st' := [vI (hI h2 395 4), vI 4, vR 395]) rfl ?_
        obtain ⟨v29, e29, e⟩ := ob e
        refine hg_cI (as := [vR 395, vI 4, vI (hI h2 395 4)]) (st' := []) rfl (fun _ _ _ _ => rfl) rfl rfl (Nat.le_of_ble_eq_true rfl) (Nat.le_of_ble_eq_true rfl) (recvV A3 (a := 13) (Abs_ks A3 (i := 23) rfl).1) (t195 (by omega) A3 (rgn 4 rfl) (Abs_rg A2 395 4) e29) (fun w29 r29 A29 => ?_)
        obtain ⟨u30, e30, e⟩ := ob e
        cases e
        exact hg_retI rfl (by decide) (fit_B (kB_e e30)) (kr _ _ rfl _ r29 A29)
  · refine hg_icF (tgt := 15) rfl (by decide) (Abs_rg A 395 3) (rgn 100 rfl) q1 ?_
    refine hg_run 2 (pc' := 11) (ls' := [some (vr 395), none, none, none, none]) (st' := [vI 1, vR 395]) rfl ?_
    obtain ⟨v31, e31, e⟩ := ob e
    refine hg_cI (as := [vR 395, vI 1]) (st' := []) rfl (fun _ _ _ _ => rfl) rfl rfl (Nat.le_of_ble_eq_true rfl) (Nat.le_of_ble_eq_true rfl) (recvV A (a := 13) (Abs_ks A (i := 23) rfl).1) (t194 (by omega) A (rgn 1 rfl) e31) (fun w31 r31 A31 => ?_)
    obtain ⟨u32, e32, e⟩ := ob e
    cases e
    exact hg_retI rfl (by decide) (fit_B (kB_e e32)) (kr _ _ rfl _ r31 A31)
def c224_j24 (s1 : Int) (h : hS) : Option (hS) :=
  (some (sI h 395 14 s1)).bind (fun h3 =>
  (some (sI h3 395 1 0)).bind (fun h4 =>
  some h4))
theorem t224_j24 {d : Nat} (hd : 0 ≤ d) {s1 : Int}  {h : hS} {w : mmW} {o : hS} {Q : mmO → Prop} (rs1 : rg s1) (A : Abs h w) (e : c224_j24 s1 h = some o) (kr : ∀ h1 : hS, o = h1 → ∀ w', Abs h1 w' → Q (none, w')) : hG d 224 24 [some (vr 395)] [vI s1, vR 395] w Q := by
  unfold c224_j24 at e
  obtain ⟨h3, e3, e⟩ := ob e
  refine ps_395_14 rfl A rs1 e3 (fun w3 A3 => ?_)
  refine hg_run 2 (pc' := 29) (ls' := [some (vr 395)]) (st' := [vI 0, vR 395]) rfl ?_
  obtain ⟨h4, e4, e⟩ := ob e
  refine ps_395_1 rfl A3 (rgn 0 rfl) e4 (fun w4 A4 => ?_)
  cases e
  exact hg_retV rfl (kr _ rfl _ A4)
def c224 (h : hS) : Option (hS) :=
  (some (sI h 395 13 (hI h 395 11))).bind (fun h1 =>
  if (hI h1 395 11) = 0 then
  c224_j24 (-1) h1
  else
  c224_j24 (hI h1 395 12) h1)
theorem t224 {d : Nat} (hd : 1 ≤ d)  {h : hS} {w : mmW} {o : hS} (A : Abs h w)  (e : c224 h = some o) : hEv d 224 [vR 395] w (qV o) := by
  obtain ⟨d, rfl⟩ : ∃ d1, d = d1 + 1 := ⟨d - 1, by omega⟩
  have hd : 0 ≤ d := by omega
  refine hEv_start (args := [vr 395]) (nl := 1) rfl (Nat.le_of_ble_eq_true rfl) ?_
  show hG d 224 0 [some (vr 395)] [] w _
  have kr : ∀ h1 : hS, o = h1 → ∀ w', Abs h1 w' → qV o (none, w') := fun h1 q w' A' => by cases q; exact ⟨rfl, A'⟩
  unfold c224 at e
  refine hg_run 2 (pc' := 2) (ls' := [some (vr 395)]) (st' := [vR 395, vR 395]) rfl ?_
  refine gs_395_11 rfl A ?_
  obtain ⟨h1, e1, e⟩ := ob e
  refine ps_395_13 rfl A (Abs_rg A 395 11) e1 (fun w1 A1 => ?_)
  refine hg_run 2 (pc' := 10) (ls' := [some (vr 395)]) (st' := [vR 395, vR 395]) rfl ?_
  refine gs_395_11 rfl A1 ?_
  rcases oi e with ⟨q2, e⟩ | ⟨q2, e⟩
  · refine hg_ifF (tgt := 20) rfl (by decide) (Abs_rg A1 395 11) (show ¬ ¬ ((hI h1 395 11) = 0) from fun f => f q2) ?_
    refine hg_run 2 (pc' := 24) (ls' := [some (vr 395)]) (st' := [vI (-1), vR 395]) rfl ?_
    exact t224_j24 hd (rgn (-1) rfl) A1 e kr
  · refine hg_ifT (tgt := 20) rfl (by decide) (Abs_rg A1 395 11) (show ¬ ((hI h1 395 11) = 0) from q2) ?_
    refine hg_run 1 (pc' := 21) (ls' := [some (vr 395)]) (st' := [vR 395, vR 395]) rfl ?_
    refine gs_395_12 rfl A1 ?_
    exact t224_j24 hd (Abs_rg A1 395 12) A1 e kr
def c225_b2 (l1 : Int) (l2 : Int) (h : hS) : Option ((Int × hS) ⊕ (hS)) :=
  if (wmul 5 (hI h 395 16)) ≤ l2 then
  some (.inr (h))
  else
  (aIs h 399 48000 (wadd 42000 l2)).bind (fun v2 =>
  (wIs h 399 48000 (wadd (wmul 6000 l1) l2) v2).bind (fun h3 =>
  some (.inl ((wadd l2 1), h3))))
theorem t225_b2 {d : Nat} (hd : 0 ≤ d) {l1 : Int} {l2 : Int}  {h : hS} {w : mmW} {o : (Int × hS) ⊕ (hS)} {Q : mmO → Prop} (rl1 : rg l1) (rl2 : rg l2) (A : Abs h w) (e : c225_b2 l1 l2 h = some o) (kb : ∀ (s_0 : Int) (s_1 : hS), o = .inl (s_0, s_1) → ∀ w', rg s_0 → Abs s_1 w' → hG d 225 2 [some (vr 395), some (vi l1), some (vi s_0)] [] w' Q) (ke : ∀ (x_0 : hS), o = .inr (x_0) → ∀ w', ∀ (y2 : Option hO), Abs x_0 w' → hG d 225 40 [some (vr 395), some (vi l1), y2] [] w' Q) : hG d 225 2 [some (vr 395), some (vi l1), some (vi l2)] [] w Q := by
  unfold c225_b2 at e
  refine hg_run 3 (pc' := 5) (ls' := [some (vr 395), some (vi l1), some (vi l2)]) (st' := [vR 395, vI 5, vI l2]) rfl ?_
  refine gs_395_16 rfl A ?_
  refine hg_run 1 (pc' := 9) (ls' := [some (vr 395), some (vi l1), some (vi l2)]) (st' := [vI (wmul 5 (hI h 395 16)), vI l2]) rfl ?_
  rcases oi e with ⟨q1, e⟩ | ⟨q1, e⟩
  · refine hg_icT (tgt := 40) rfl (by decide) rl2 (rg_mul _ _) q1 ?_
    cases e
    exact ke h rfl _ _  A
  · refine hg_icF (tgt := 40) rfl (by decide) rl2 (rg_mul _ _) q1 ?_
    refine hg_run 1 (pc' := 13) (ls' := [some (vr 395), some (vi l1), some (vi l2)]) (st' := [vR 395]) rfl ?_
    refine gs_395_15 rfl A ?_
    refine hg_run 6 (pc' := 24) (ls' := [some (vr 395), some (vi l1), some (vi l2)]) (st' := [vR 395, vI (wadd (wmul 6000 l1) l2), vR 399]) rfl ?_
    refine gs_395_15 rfl A ?_
    refine hg_run 3 (pc' := 32) (ls' := [some (vr 395), some (vi l1), some (vi l2)]) (st' := [vI (wadd 42000 l2), vR 399, vI (wadd (wmul 6000 l1) l2), vR 399]) rfl ?_
    obtain ⟨v2, e2, e⟩ := ob e
    refine hg_aIs 0 rfl (fun _ _ _ _ => rfl) A (Abs_ks A (i := 27) rfl) rfl (by decide) e2 (fun r2 => ?_)
    obtain ⟨h3, e3, e⟩ := ob e
    refine hg_wIs rfl A (Abs_ks A (i := 27) rfl) (by decide) r2 e3 (fun w3 A3 => ?_)
    refine hg_run 2 (pc' := 2) (ls' := [some (vr 395), some (vi l1), some (vi (wadd l2 1))]) (st' := []) rfl ?_
    cases e
    exact kb (wadd l2 1) h3 rfl _ (rg_add _ _) A3
theorem t225_l2 {d : Nat} (hd : 0 ≤ d) {l1 : Int}  {Q : mmO → Prop} (rl1 : rg l1) (n : Nat) {l2 : Int}  {h : hS} {w : mmW} {r : hS} (rl2 : rg l2) (A : Abs h w) (e : lp (fun s => c225_b2 l1 s.1 s.2) n (l2, h) = some r) (ke : ∀ (x_0 : hS), r = (x_0) → ∀ w', ∀ (y2 : Option hO), Abs x_0 w' → hG d 225 40 [some (vr 395), some (vi l1), y2] [] w' Q) : hG d 225 2 [some (vr 395), some (vi l1), some (vi l2)] [] w Q := by
  induction n generalizing l2 h w with
  | zero => cases e
  | succ n ih =>
    rcases lp_succ e with ⟨s1, e1, e2⟩ | e1
    · exact t225_b2 hd rl1 rl2 A e1 (fun s_0 s_1 q w1 rl2 A1 => by cases q; exact ih rl2 A1 e2) (fun x_0 q => by cases q)
    · exact t225_b2 hd rl1 rl2 A e1 (fun s_0 s_1 q => by cases q) (fun x_0 q => by cases q; exact ke _ rfl)
def c225 (l1 : Int) (h : hS) : Option (hS) :=
  (lp (fun s => c225_b2 l1 s.1 s.2) hF0 (0, h)).bind (fun r4 =>
  some r4)
theorem t225 {d : Nat} (hd : 1 ≤ d) {l1 : Int} {h : hS} {w : mmW} {o : hS} (A : Abs h w) (rl1 : rg l1) (e : c225 l1 h = some o) : hEv d 225 [vR 395, vI l1] w (qV o) := by
  obtain ⟨d, rfl⟩ : ∃ d1, d = d1 + 1 := ⟨d - 1, by omega⟩
  have hd : 0 ≤ d := by omega
  refine hEv_start (args := [vr 395, vi l1]) (nl := 3) rfl (Nat.le_of_ble_eq_true rfl) ?_
  show hG d 225 0 [some (vr 395), some (vi l1), none] [] w _
  have kr : ∀ h1 : hS, o = h1 → ∀ w', Abs h1 w' → qV o (none, w') := fun h1 q w' A' => by cases q; exact ⟨rfl, A'⟩
  unfold c225 at e
  refine hg_run 2 (pc' := 2) (ls' := [some (vr 395), some (vi l1), some (vi 0)]) (st' := []) rfl ?_
  obtain ⟨r4, e4, e⟩ := ob e
  refine t225_l2 hd rl1 _ (rgn 0 rfl) A e4 ?_
  intro x4_0 qq4 w4 z4_2 A4
  subst qq4
  cases e
  exact hg_retV rfl (kr _ rfl _ A4)
def c226_b2 (l1 : Int) (l2 : Int) (l3 : Int) (h : hS) : Option ((Int × hS) ⊕ (hS)) :=
  if 769 ≤ l3 then
  some (.inr (h))
  else
  (aIs h 400 2307 (wadd (wmul 769 l1) l3)).bind (fun v2 =>
  (wIs h 400 2307 (wadd (wmul 769 l2) l3) v2).bind (fun h3 =>
  some (.inl ((wadd l3 1), h3))))
theorem t226_b2 {d : Nat} (hd : 0 ≤ d) {l1 : Int} {l2 : Int} {l3 : Int}  {h : hS} {w : mmW} {o : (Int × hS) ⊕ (hS)} {Q : mmO → Prop} (rl1 : rg l1) (rl2 : rg l2) (rl3 : rg l3) (A : Abs h w) (e : c226_b2 l1 l2 l3 h = some o) (kb : ∀ (s_0 : Int) (s_1 : hS), o = .inl (s_0, s_1) → ∀ w', rg s_0 → Abs s_1 w' → hG d 226 2 [some (vr 395), some (vi l1), some (vi l2), some (vi s_0)] [] w' Q) (ke : ∀ (x_0 : hS), o = .inr (x_0) → ∀ w', ∀ (y3 : Option hO), Abs x_0 w' → hG d 226 39 [some (vr 395), some (vi l1), some (vi l2), y3] [] w' Q) : hG d 226 2 [some (vr 395), some (vi l1), some (vi l2), some (vi l3)] [] w Q := by
  unfold c226_b2 at e
  refine hg_run 2 (pc' := 6) (ls' := [some (vr 395), some (vi l1), some (vi l2), some (vi l3)]) (st' := [vI 769, vI l3]) rfl ?_
  rcases oi e with ⟨q1, e⟩ | ⟨q1, e⟩
  · refine hg_icT (tgt := 39) rfl (by decide) rl3 (rgn 769 rfl) q1 ?_
    cases e
    exact ke h rfl _ _  A
  · refine hg_icF (tgt := 39) rfl (by decide) rl3 (rgn 769 rfl) q1 ?_
    refine hg_run 1 (pc' := 10) (ls' := [some (vr 395), some (vi l1), some (vi l2), some (vi l3)]) (st' := [vR 395]) rfl ?_
    refine gs_395_23 rfl A ?_
    refine hg_run 6 (pc' := 21) (ls' := [some (vr 395), some (vi l1), some (vi l2), some (vi l3)]) (st' := [vR 395, vI (wadd (wmul 769 l2) l3), vR 400]) rfl ?_
    refine gs_395_23 rfl A ?_
    refine hg_run 5 (pc' := 31) (ls' := [some (vr 395), some (vi l1), some (vi l2), some (vi l3)]) (st' := [vI (wadd (wmul 769 l1) l3), vR 400, vI (wadd (wmul 769 l2) l3), vR 400]) rfl ?_
    obtain ⟨v2, e2, e⟩ := ob e
    refine hg_aIs 0 rfl (fun _ _ _ _ => rfl) A (Abs_ks A (i := 28) rfl) rfl (by decide) e2 (fun r2 => ?_)
    obtain ⟨h3, e3, e⟩ := ob e
    refine hg_wIs rfl A (Abs_ks A (i := 28) rfl) (by decide) r2 e3 (fun w3 A3 => ?_)
    refine hg_run 2 (pc' := 2) (ls' := [some (vr 395), some (vi l1), some (vi l2), some (vi (wadd l3 1))]) (st' := []) rfl ?_
    cases e
    exact kb (wadd l3 1) h3 rfl _ (rg_add _ _) A3
theorem t226_l2 {d : Nat} (hd : 0 ≤ d) {l1 : Int} {l2 : Int}  {Q : mmO → Prop} (rl1 : rg l1) (rl2 : rg l2) (n : Nat) {l3 : Int}  {h : hS} {w : mmW} {r : hS} (rl3 : rg l3) (A : Abs h w) (e : lp (fun s => c226_b2 l1 l2 s.1 s.2) n (l3, h) = some r) (ke : ∀ (x_0 : hS), r = (x_0) → ∀ w', ∀ (y3 : Option hO), Abs x_0 w' → hG d 226 39 [some (vr 395), some (vi l1), some (vi l2), y3] [] w' Q) : hG d 226 2 [some (vr 395), some (vi l1), some (vi l2), some (vi l3)] [] w Q := by
  induction n generalizing l3 h w with
  | zero => cases e
  | succ n ih =>
    rcases lp_succ e with ⟨s1, e1, e2⟩ | e1
    · exact t226_b2 hd rl1 rl2 rl3 A e1 (fun s_0 s_1 q w1 rl3 A1 => by cases q; exact ih rl3 A1 e2) (fun x_0 q => by cases q)
    · exact t226_b2 hd rl1 rl2 rl3 A e1 (fun s_0 s_1 q => by cases q) (fun x_0 q => by cases q; exact ke _ rfl)
def c226 (l1 : Int) (l2 : Int) (h : hS) : Option (hS) :=
  (lp (fun s => c226_b2 l1 l2 s.1 s.2) hF0 (0, h)).bind (fun r4 =>
  some r4)
theorem t226 {d : Nat} (hd : 1 ≤ d) {l1 : Int} {l2 : Int} {h : hS} {w : mmW} {o : hS} (A : Abs h w) (rl1 : rg l1) (rl2 : rg l2) (e : c226 l1 l2 h = some o) : hEv d 226 [vR 395, vI l1, vI l2] w (qV o) := by
  obtain ⟨d, rfl⟩ : ∃ d1, d = d1 + 1 := ⟨d - 1, by omega⟩
  have hd : 0 ≤ d := by omega
  refine hEv_start (args := [vr 395, vi l1, vi l2]) (nl := 4) rfl (Nat.le_of_ble_eq_true rfl) ?_
  show hG d 226 0 [some (vr 395), some (vi l1), some (vi l2), none] [] w _
  have kr : ∀ h1 : hS, o = h1 → ∀ w', Abs h1 w' → qV o (none, w') := fun h1 q w' A' => by cases q; exact ⟨rfl, A'⟩
  unfold c226 at e
  refine hg_run 2 (pc' := 2) (ls' := [some (vr 395), some (vi l1), some (vi l2), some (vi 0)]) (st' := []) rfl ?_
  obtain ⟨r4, e4, e⟩ := ob e
  refine t226_l2 hd rl1 rl2 _ (rgn 0 rfl) A e4 ?_
  intro x4_0 qq4 w4 z4_3 A4
  subst qq4
  cases e
  exact hg_retV rfl (kr _ rfl _ A4)
def c183_b18 (l1 : Int) (h : hS) : Option ((Int × hS) ⊕ (Int × hS)) :=
  if l1 = 0 then
  some (.inr (l1, h))
  else
  if (hI h 395 3) = 0 then
  some (.inr (l1, h))
  else
  (c193  h).bind (fun v6 =>
  some (.inl (v6.1, v6.2)))
theorem t183_b18 {d : Nat} (hd : 248 ≤ d) {l1 : Int} {z2 : Option hO} {h : hS} {w : mmW} {o : (Int × hS) ⊕ (Int × hS)} {Q : mmO → Prop} (rl1 : rg l1) (A : Abs h w) (e : c183_b18 l1 h = some o) (kb : ∀ (s_0 : Int) (s_1 : hS), o = .inl (s_0, s_1) → ∀ w', rg s_0 → Abs s_1 w' → hG d 183 18 [some (vr 395), some (vi s_0), z2] [] w' Q) (ke : ∀ (x_0 : Int) (x_1 : hS), o = .inr (x_0, x_1) → ∀ w', rg x_0 → Abs x_1 w' → hG d 183 37 [some (vr 395), some (vi x_0), z2] [] w' Q) : hG d 183 18 [some (vr 395), some (vi l1), z2] [] w Q := by
  unfold c183_b18 at e
  refine hg_run 1 (pc' := 19) (ls' := [some (vr 395), some (vi l1), z2]) (st' := [vI l1]) rfl ?_
  rcases oi e with ⟨q4, e⟩ | ⟨q4, e⟩
  · refine hg_ifT (tgt := 37) rfl (by decide) rl1 q4 ?_
    cases e
    exact ke l1 h rfl _ rl1 A
  · refine hg_ifF (tgt := 37) rfl (by decide) rl1 q4 ?_
    refine hg_run 1 (pc' := 23) (ls' := [some (vr 395), some (vi l1), z2]) (st' := [vR 395]) rfl ?_
    refine gs_395_3 rfl A ?_
    rcases oi e with ⟨q5, e⟩ | ⟨q5, e⟩
    · refine hg_ifT (tgt := 37) rfl (by decide) (Abs_rg A 395 3) q5 ?_
      cases e
      exact ke l1 h rfl _ rl1 A
    · refine hg_ifF (tgt := 37) rfl (by decide) (Abs_rg A 395 3) q5 ?_
      refine hg_run 1 (pc' := 30) (ls' := [some (vr 395), some (vi l1), z2]) (st' := [vR 395]) rfl ?_
      obtain ⟨v6, e6, e⟩ := ob e
      refine hg_cI (as := [vR 395]) (st' := []) rfl (fun _ _ _ _ => rfl) rfl rfl (Nat.le_of_ble_eq_true rfl) (Nat.le_of_ble_eq_true rfl) (recvV A (a := 13) (Abs_ks A (i := 23) rfl).1) (t193 (by omega) A  e6) (fun w6 r6 A6 => ?_)
      refine hg_run 2 (pc' := 18) (ls' := [some (vr 395), some (vi v6.1), z2]) (st' := []) rfl ?_
      cases e
      exact kb v6.1 v6.2 rfl _ r6 A6
theorem t183_l18 {d : Nat} (hd : 248 ≤ d)  {z2 : Option hO} {Q : mmO → Prop}  (n : Nat) {l1 : Int}  {h : hS} {w : mmW} {r : Int × hS} (rl1 : rg l1) (A : Abs h w) (e : lp (fun s => c183_b18  s.1 s.2) n (l1, h) = some r) (ke : ∀ (x_0 : Int) (x_1 : hS), r = (x_0, x_1) → ∀ w', rg x_0 → Abs x_1 w' → hG d 183 37 [some (vr 395), some (vi x_0), z2] [] w' Q) : hG d 183 18 [some (vr 395), some (vi l1), z2] [] w Q := by
  induction n generalizing l1 h w with
  | zero => cases e
  | succ n ih =>
    rcases lp_succ e with ⟨s1, e1, e2⟩ | e1
    · exact t183_b18 hd rl1 A e1 (fun s_0 s_1 q w1 rl1 A1 => by cases q; exact ih rl1 A1 e2) (fun x_0 x_1 q => by cases q)
    · exact t183_b18 hd rl1 A e1 (fun s_0 s_1 q => by cases q) (fun x_0 x_1 q => by cases q; exact ke _ _ rfl)
def c183_b90 (l2 : Int) (h : hS) : Option ((Int × hS) ⊕ (hS)) :=
  if 10 ≤ l2 then
  some (.inr (h))
  else
  (wIs h 423 10 l2 (wbol 0)).bind (fun h19 =>
  (wIs h19 424 10 l2 (wbol 0)).bind (fun h20 =>
  some (.inl ((wadd l2 1), h20))))
theorem t183_b90 {d : Nat} (hd : 248 ≤ d) {l2 : Int} {z1 : Option hO} {h : hS} {w : mmW} {o : (Int × hS) ⊕ (hS)} {Q : mmO → Prop} (rl2 : rg l2) (A : Abs h w) (e : c183_b90 l2 h = some o) (kb : ∀ (s_0 : Int) (s_1 : hS), o = .inl (s_0, s_1) → ∀ w', rg s_0 → Abs s_1 w' → hG d 183 90 [some (vr 395), z1, some (vi s_0)] [] w' Q) (ke : ∀ (x_0 : hS), o = .inr (x_0) → ∀ w', ∀ (y2 : Option hO), Abs x_0 w' → hG d 183 116 [some (vr 395), z1, y2] [] w' Q) : hG d 183 90 [some (vr 395), z1, some (vi l2)] [] w Q := by
  unfold c183_b90 at e
  refine hg_run 2 (pc' := 93) (ls' := [some (vr 395), z1, some (vi l2)]) (st' := [vI 10, vI l2]) rfl ?_
  rcases oi e with ⟨q18, e⟩ | ⟨q18, e⟩
  · refine hg_icT (tgt := 116) rfl (by decide) rl2 (rgn 10 rfl) q18 ?_
    cases e
    exact ke h rfl _ _  A
  · refine hg_icF (tgt := 116) rfl (by decide) rl2 (rgn 10 rfl) q18 ?_
    refine hg_run 1 (pc' := 97) (ls' := [some (vr 395), z1, some (vi l2)]) (st' := [vR 395]) rfl ?_
    refine gs_395_67 rfl A ?_
    refine hg_run 2 (pc' := 102) (ls' := [some (vr 395), z1, some (vi l2)]) (st' := [vI 0, vI l2, vR 423]) rfl ?_
    obtain ⟨h19, e19, e⟩ := ob e
    refine hg_wBs rfl A (Abs_ks A (i := 51) rfl) (by decide) e19 (fun w19 A19 => ?_)
    refine hg_run 1 (pc' := 104) (ls' := [some (vr 395), z1, some (vi l2)]) (st' := [vR 395]) rfl ?_
    refine gs_395_68 rfl A19 ?_
    refine hg_run 2 (pc' := 109) (ls' := [some (vr 395), z1, some (vi l2)]) (st' := [vI 0, vI l2, vR 424]) rfl ?_
    obtain ⟨h20, e20, e⟩ := ob e
    refine hg_wBs rfl A19 (Abs_ks A19 (i := 52) rfl) (by decide) e20 (fun w20 A20 => ?_)
    refine hg_run 2 (pc' := 90) (ls' := [some (vr 395), z1, some (vi (wadd l2 1))]) (st' := []) rfl ?_
    cases e
    exact kb (wadd l2 1) h20 rfl _ (rg_add _ _) A20
theorem t183_l90 {d : Nat} (hd : 248 ≤ d)  {z1 : Option hO} {Q : mmO → Prop}  (n : Nat) {l2 : Int}  {h : hS} {w : mmW} {r : hS} (rl2 : rg l2) (A : Abs h w) (e : lp (fun s => c183_b90  s.1 s.2) n (l2, h) = some r) (ke : ∀ (x_0 : hS), r = (x_0) → ∀ w', ∀ (y2 : Option hO), Abs x_0 w' → hG d 183 116 [some (vr 395), z1, y2] [] w' Q) : hG d 183 90 [some (vr 395), z1, some (vi l2)] [] w Q := by
  induction n generalizing l2 h w with
  | zero => cases e
  | succ n ih =>
    rcases lp_succ e with ⟨s1, e1, e2⟩ | e1
    · exact t183_b90 hd rl2 A e1 (fun s_0 s_1 q w1 rl2 A1 => by cases q; exact ih rl2 A1 e2) (fun x_0 q => by cases q)
    · exact t183_b90 hd rl2 A e1 (fun s_0 s_1 q => by cases q) (fun x_0 q => by cases q; exact ke _ rfl)
def c183 (h : hS) : Option (Int × hS) :=
  (c184  h).bind (fun h1 =>
  (wIs h1 400 2307 769 0).bind (fun h2 =>
  (c193  h2).bind (fun v3 =>
  (lp (fun s => c183_b18  s.1 s.2) hF0 (v3.1, v3.2)).bind (fun r7 =>
  (c224  r7.2).bind (fun h8 =>
  if r7.1 = 0 then
  some ((-1), h8)
  else
  (c225 0 h8).bind (fun h10 =>
  (c226 1 0 h10).bind (fun h11 =>
  (some (sI h11 395 33 0)).bind (fun h12 =>
  (some (sI h12 395 25 0)).bind (fun h13 =>
  (some (sI h13 395 28 (-1))).bind (fun h14 =>
  (some (sI h14 395 29 (-1))).bind (fun h15 =>
  (some (sI h15 395 30 (-1))).bind (fun h16 =>
  (some (sI h16 395 27 0)).bind (fun h17 =>
  (lp (fun s => c183_b90  s.1 s.2) hF0 (0, h17)).bind (fun r21 =>
  (c198 0 r21).bind (fun v22 =>
  some (v22, r21))))))))))))))))
theorem t183 {d : Nat} (hd : 249 ≤ d)  {h : hS} {w : mmW} {o : Int × hS} (A : Abs h w)  (e : c183 h = some o) : hEv d 183 [vR 395] w (qI o) := by
  obtain ⟨d, rfl⟩ : ∃ d1, d = d1 + 1 := ⟨d - 1, by omega⟩
  have hd : 248 ≤ d := by omega
  refine hEv_start (args := [vr 395]) (nl := 3) rfl (Nat.le_of_ble_eq_true rfl) ?_
  show hG d 183 0 [some (vr 395), none, none] [] w _
  have kr : ∀ (v1 : Int) (h1 : hS), o = (v1, h1) → ∀ w', rg v1 → Abs h1 w' → qI o (some (.int (Int32.ofInt v1)), w') := fun v1 h1 q w' r A' => by cases q; exact ⟨rfl, r, A'⟩
  unfold c183 at e
  refine hg_run 1 (pc' := 1) (ls' := [some (vr 395), none, none]) (st' := [vR 395]) rfl ?_
  obtain ⟨h1, e1, e⟩ := ob e
  refine hg_cV (as := [vR 395]) (st' := []) rfl (fun _ _ _ _ => rfl) rfl rfl (Nat.le_of_ble_eq_true rfl) (Nat.le_of_ble_eq_true rfl) (recvV A (a := 13) (Abs_ks A (i := 23) rfl).1) (t184 (by omega) A  e1) (fun w1 A1 => ?_)
  refine hg_run 1 (pc' := 5) (ls' := [some (vr 395), none, none]) (st' := [vR 395]) rfl ?_
  refine gs_395_23 rfl A1 ?_
  refine hg_run 2 (pc' := 12) (ls' := [some (vr 395), none, none]) (st' := [vI 0, vI 769, vR 400]) rfl ?_
  obtain ⟨h2, e2, e⟩ := ob e
  refine hg_wIs rfl A1 (Abs_ks A1 (i := 28) rfl) (by decide) (rgn 0 rfl) e2 (fun w2 A2 => ?_)
  refine hg_run 1 (pc' := 14) (ls' := [some (vr 395), none, none]) (st' := [vR 395]) rfl ?_
  obtain ⟨v3, e3, e⟩ := ob e
  refine hg_cI (as := [vR 395]) (st' := []) rfl (fun _ _ _ _ => rfl) rfl rfl (Nat.le_of_ble_eq_true rfl) (Nat.le_of_ble_eq_true rfl) (recvV A2 (a := 13) (Abs_ks A2 (i := 23) rfl).1) (t193 (by omega) A2  e3) (fun w3 r3 A3 => ?_)
  refine hg_run 1 (pc' := 18) (ls' := [some (vr 395), some (vi v3.1), none]) (st' := []) rfl ?_
  obtain ⟨r7, e7, e⟩ := ob e
  refine t183_l18 hd  _ r3 A3 e7 ?_
  intro x7_0 x7_1 qq7 w7 q7_1 A7
  subst qq7
  try dsimp only at e
  refine hg_run 1 (pc' := 38) (ls' := [some (vr 395), some (vi x7_0), none]) (st' := [vR 395]) rfl ?_
  obtain ⟨h8, e8, e⟩ := ob e
  refine hg_cV (as := [vR 395]) (st' := []) rfl (fun _ _ _ _ => rfl) rfl rfl (Nat.le_of_ble_eq_true rfl) (Nat.le_of_ble_eq_true rfl) (recvV A7 (a := 13) (Abs_ks A7 (i := 23) rfl).1) (t224 (by omega) A7  e8) (fun w8 A8 => ?_)
  refine hg_run 1 (pc' := 42) (ls' := [some (vr 395), some (vi x7_0), none]) (st' := [vI x7_0]) rfl ?_
  rcases oi e with ⟨q9, e⟩ | ⟨q9, e⟩
  · refine hg_ifF (tgt := 47) rfl (by decide) q7_1 (show ¬ ¬ (x7_0 = 0) from fun f => f q9) ?_
    refine hg_run 1 (pc' := 46) (ls' := [some (vr 395), some (vi x7_0), none]) (st' := [vI (-1)]) rfl ?_
    cases e
    exact hg_retI rfl (by decide) (fit_I _) (kr _ _ rfl _ (rgn (-1) rfl) A8)
  · refine hg_ifT (tgt := 47) rfl (by decide) q7_1 (show ¬ (x7_0 = 0) from q9) ?_
    refine hg_run 2 (pc' := 49) (ls' := [some (vr 395), some (vi x7_0), none]) (st' := [vI 0, vR 395]) rfl ?_
    obtain ⟨h10, e10, e⟩ := ob e
    refine hg_cV (as := [vR 395, vI 0]) (st' := []) rfl (fun _ _ _ _ => rfl) rfl rfl (Nat.le_of_ble_eq_true rfl) (Nat.le_of_ble_eq_true rfl) (recvV A8 (a := 13) (Abs_ks A8 (i := 23) rfl).1) (t225 (by omega) A8 (rgn 0 rfl) e10) (fun w10 A10 => ?_)
    refine hg_run 3 (pc' := 55) (ls' := [some (vr 395), some (vi x7_0), none]) (st' := [vI 0, vI 1, vR 395]) rfl ?_
    obtain ⟨h11, e11, e⟩ := ob e
    refine hg_cV (as := [vR 395, vI 1, vI 0]) (st' := []) rfl (fun _ _ _ _ => rfl) rfl rfl (Nat.le_of_ble_eq_true rfl) (Nat.le_of_ble_eq_true rfl) (recvV A10 (a := 13) (Abs_ks A10 (i := 23) rfl).1) (t226 (by omega) A10 (rgn 1 rfl) (rgn 0 rfl) e11) (fun w11 A11 => ?_)
    refine hg_run 2 (pc' := 60) (ls' := [some (vr 395), some (vi x7_0), none]) (st' := [vI 0, vR 395]) rfl ?_
    obtain ⟨h12, e12, e⟩ := ob e
    refine ps_395_33 rfl A11 (rgn 0 rfl) e12 (fun w12 A12 => ?_)
    refine hg_run 2 (pc' := 65) (ls' := [some (vr 395), some (vi x7_0), none]) (st' := [vI 0, vR 395]) rfl ?_
    obtain ⟨h13, e13, e⟩ := ob e
    refine ps_395_25 rfl A12 (rgn 0 rfl) e13 (fun w13 A13 => ?_)
    refine hg_run 2 (pc' := 70) (ls' := [some (vr 395), some (vi x7_0), none]) (st' := [vI (-1), vR 395]) rfl ?_
    obtain ⟨h14, e14, e⟩ := ob e
    refine ps_395_28 rfl A13 (rgn (-1) rfl) e14 (fun w14 A14 => ?_)
    refine hg_run 2 (pc' := 75) (ls' := [some (vr 395), some (vi x7_0), none]) (st' := [vI (-1), vR 395]) rfl ?_
    obtain ⟨h15, e15, e⟩ := ob e
    refine ps_395_29 rfl A14 (rgn (-1) rfl) e15 (fun w15 A15 => ?_)
    refine hg_run 2 (pc' := 80) (ls' := [some (vr 395), some (vi x7_0), none]) (st' := [vI (-1), vR 395]) rfl ?_
    obtain ⟨h16, e16, e⟩ := ob e
    refine ps_395_30 rfl A15 (rgn (-1) rfl) e16 (fun w16 A16 => ?_)
    refine hg_run 2 (pc' := 85) (ls' := [some (vr 395), some (vi x7_0), none]) (st' := [vI 0, vR 395]) rfl ?_
    obtain ⟨h17, e17, e⟩ := ob e
    refine ps_395_27 rfl A16 (rgn 0 rfl) e17 (fun w17 A17 => ?_)
    refine hg_run 2 (pc' := 90) (ls' := [some (vr 395), some (vi x7_0), some (vi 0)]) (st' := []) rfl ?_
    obtain ⟨r21, e21, e⟩ := ob e
    refine t183_l90 hd  _ (rgn 0 rfl) A17 e21 ?_
    intro x21_0 qq21 w21 z21_2 A21
    subst qq21
    refine hg_run 2 (pc' := 118) (ls' := [some (vr 395), some (vi x7_0), z21_2]) (st' := [vI 0, vR 395]) rfl ?_
    obtain ⟨v22, e22, e⟩ := ob e
    refine hg_cIp (as := [vR 395, vI 0]) (st' := []) rfl (fun _ _ _ _ => rfl) rfl rfl (Nat.le_of_ble_eq_true rfl) (Nat.le_of_ble_eq_true rfl) (recvV A21 (a := 13) (Abs_ks A21 (i := 23) rfl).1) (t198 (by omega) A21 (rgn 0 rfl) e22) (fun r22 => ?_)
    cases e
    exact hg_retI rfl (by decide) (fit_I _) (kr _ _ rfl _ r22 A21)
def c229 (h : hS) : Option (Int × hS) :=
  (some (sI h 395 24 (-1))).bind (fun h1 =>
  if (hI h1 395 3) = 101 then
  (c188  h1).bind (fun h3 =>
  (c196  h3).bind (fun v4 =>
  if v4.1 = 0 then
  some (0, v4.2)
  else
  (some (sI v4.2 395 24 (hI v4.2 395 17))).bind (fun h6 =>
  some (1, h6))))
  else
  some (1, h1))
theorem t229 {d : Nat} (hd : 5 ≤ d)  {h : hS} {w : mmW} {o : Int × hS} (A : Abs h w)  (e : c229 h = some o) : hEv d 229 [vR 395] w (qI o) := by
  obtain ⟨d, rfl⟩ : ∃ d1, d = d1 + 1 := ⟨d - 1, by omega⟩
  have hd : 4 ≤ d := by omega
  refine hEv_start (args := [vr 395]) (nl := 1) rfl (Nat.le_of_ble_eq_true rfl) ?_
  show hG d 229 0 [some (vr 395)] [] w _
  have kr : ∀ (v1 : Int) (h1 : hS), o = (v1, h1) → ∀ w', rg v1 → Abs h1 w' → qI o (some (.int (Int32.ofInt v1)), w') := fun v1 h1 q w' r A' => by cases q; exact ⟨rfl, r, A'⟩
  unfold c229 at e
  refine hg_run 2 (pc' := 2) (ls' := [some (vr 395)]) (st' := [vI (-1), vR 395]) rfl ?_
  obtain ⟨h1, e1, e⟩ := ob e
  refine ps_395_24 rfl A (rgn (-1) rfl) e1 (fun w1 A1 => ?_)
  refine hg_run 1 (pc' := 6) (ls' := [some (vr 395)]) (st' := [vR 395]) rfl ?_
  refine gs_395_3 rfl A1 ?_
  refine hg_run 1 (pc' := 11) (ls' := [some (vr 395)]) (st' := [vI 101, vI (hI h1 395 3)]) rfl ?_
  rcases oi e with ⟨q2, e⟩ | ⟨q2, e⟩
  · refine hg_icT (tgt := 16) rfl (by decide) (Abs_rg A1 395 3) (rgn 101 rfl) q2 ?_
    refine hg_run 1 (pc' := 17) (ls' := [some (vr 395)]) (st' := [vR 395]) rfl ?_
    obtain ⟨h3, e3, e⟩ := ob e
    refine hg_cV (as := [vR 395]) (st' := []) rfl (fun _ _ _ _ => rfl) rfl rfl (Nat.le_of_ble_eq_true rfl) (Nat.le_of_ble_eq_true rfl) (recvV A1 (a := 13) (Abs_ks A1 (i := 23) rfl).1) (t188 (by omega) A1  e3) (fun w3 A3 => ?_)
    refine hg_run 1 (pc' := 21) (ls' := [some (vr 395)]) (st' := [vR 395]) rfl ?_
    obtain ⟨v4, e4, e⟩ := ob e
    refine hg_cI (as := [vR 395]) (st' := []) rfl (fun _ _ _ _ => rfl) rfl rfl (Nat.le_of_ble_eq_true rfl) (Nat.le_of_ble_eq_true rfl) (recvV A3 (a := 13) (Abs_ks A3 (i := 23) rfl).1) (t196 (by omega) A3  e4) (fun w4 r4 A4 => ?_)
    rcases oi e with ⟨q5, e⟩ | ⟨q5, e⟩
    · refine hg_ifF (tgt := 29) rfl (by decide) r4 (show ¬ ¬ (v4.1 = 0) from fun f => f q5) ?_
      refine hg_run 1 (pc' := 28) (ls' := [some (vr 395)]) (st' := [vI 0]) rfl ?_
      cases e
      exact hg_retI rfl (by decide) (fit_B (.inl rfl)) (kr _ _ rfl _ (rgn 0 rfl) A4)
    · refine hg_ifT (tgt := 29) rfl (by decide) r4 (show ¬ (v4.1 = 0) from q5) ?_
      refine hg_run 2 (pc' := 31) (ls' := [some (vr 395)]) (st' := [vR 395, vR 395]) rfl ?_
      refine gs_395_17 rfl A4 ?_
      obtain ⟨h6, e6, e⟩ := ob e
      refine ps_395_24 rfl A4 (Abs_rg A4 395 17) e6 (fun w6 A6 => ?_)
      refine hg_run 1 (pc' := 38) (ls' := [some (vr 395)]) (st' := [vI 1]) rfl ?_
      cases e
      exact hg_retI rfl (by decide) (fit_B (.inr rfl)) (kr _ _ rfl _ (rgn 1 rfl) A6)
  · refine hg_icF (tgt := 16) rfl (by decide) (Abs_rg A1 395 3) (rgn 101 rfl) q2 ?_
    refine hg_run 1 (pc' := 15) (ls' := [some (vr 395)]) (st' := [vI 1]) rfl ?_
    cases e
    exact hg_retI rfl (by decide) (fit_B (.inr rfl)) (kr _ _ rfl _ (rgn 1 rfl) A1)
def c231 (h : hS) : Option (Int × hS) :=
  if (hI h 395 3) = 117 then
  (c188  h).bind (fun h25 =>
  (c196  h25).bind (fun v26 =>
  if v26.1 = 0 then
  some (0, v26.2)
  else
  (c218 33 (hI v26.2 395 17) 0 0 v26.2).bind (fun v28 =>
  (some (sI v28.2 395 22 v28.1)).bind (fun h29 =>
  (c202 59 h29).bind (fun v30 =>
  (kB v30.1).bind (fun u31 =>
  some (v30.1, v30.2)))))))
  else
  if (hI h 395 3) = 119 then
  (c188  h).bind (fun h16 =>
  (c196  h16).bind (fun v17 =>
  if v17.1 = 0 then
  some (0, v17.2)
  else
  (c196  v17.2).bind (fun v19 =>
  if v19.1 = 0 then
  some (0, v19.2)
  else
  (c218 34 (hI v17.2 395 17) (hI v19.2 395 17) 0 v19.2).bind (fun v21 =>
  (some (sI v21.2 395 22 v21.1)).bind (fun h22 =>
  (c202 59 h22).bind (fun v23 =>
  (kB v23.1).bind (fun u24 =>
  some (v23.1, v23.2))))))))
  else
  if (hI h 395 3) = 120 then
  (c188  h).bind (fun h4 =>
  (c196  h4).bind (fun v5 =>
  if v5.1 = 0 then
  some (0, v5.2)
  else
  (some (sI v5.2 395 18 0)).bind (fun h7 =>
  (g214 120 214 [] h7).bind (fun v8 =>
  if v8.1 = 0 then
  some (0, v8.2)
  else
  (c218 35 (hI v5.2 395 17) (hI v8.2 395 19) 0 v8.2).bind (fun v10 =>
  (some (sI v10.2 395 22 v10.1)).bind (fun h11 =>
  (c202 59 h11).bind (fun v12 =>
  (kB v12.1).bind (fun u13 =>
  some (v12.1, v12.2)))))))))
  else
  (c204 (-1) h).bind (fun v14 =>
  (kB v14.1).bind (fun u15 =>
  some (v14.1, v14.2)))
set_option maxRecDepth 100000 in
theorem t231 {d : Nat} (hd : 248 ≤ d)  {h : hS} {w : mmW} {o : Int × hS} (A : Abs h w)  (e : c231 h = some o) : hEv d 231 [vR 395] w (qI o) := by
  obtain ⟨d, rfl⟩ : ∃ d1, d = d1 + 1 := ⟨d - 1, by omega⟩
  have hd : 247 ≤ d := by omega
  refine hEv_start (args := [vr 395]) (nl := 2) rfl (Nat.le_of_ble_eq_true rfl) ?_
  show hG d 231 0 [some (vr 395), none] [] w _
  have kr : ∀ (v1 : Int) (h1 : hS), o = (v1, h1) → ∀ w', rg v1 → Abs h1 w' → qI o (some (.int (Int32.ofInt v1)), w') := fun v1 h1 q w' r A' => by cases q; exact ⟨rfl, r, A'⟩
  unfold c231 at e
  refine hg_run 1 (pc' := 1) (ls' := [some (vr 395), none]) (st' := [vR 395]) rfl ?_
  refine gs_395_3 rfl A ?_
  refine hg_run 1 (pc' := 6) (ls' := [some (vr 395), none]) (st' := [vI 117, vI (hI h 395 3)]) rfl ?_
  rcases oi e with ⟨q1, e⟩ | ⟨q1, e⟩
  · refine hg_icF (tgt := 45) rfl (by decide) (Abs_rg A 395 3) (rgn 117 rfl) (show ¬ ¬ ((hI h 395 3) = 117) from fun f => f q1) ?_
    refine hg_run 1 (pc' := 10) (ls' := [some (vr 395), none]) (st' := [vR 395]) rfl ?_
    obtain ⟨h25, e25, e⟩ := ob e
    refine hg_cV (as := [vR 395]) (st' := []) rfl (fun _ _ _ _ => rfl) rfl rfl (Nat.le_of_ble_eq_true rfl) (Nat.le_of_ble_eq_true rfl) (recvV A (a := 13) (Abs_ks A (i := 23) rfl).1) (t188 (by omega) A  e25) (fun w25 A25 => ?_)
    refine hg_run 1 (pc' := 14) (ls' := [some (vr 395), none]) (st' := [vR 395]) rfl ?_
    obtain ⟨v26, e26, e⟩ := ob e
    refine hg_cI (as := [vR 395]) (st' := []) rfl (fun _ _ _ _ => rfl) rfl rfl (Nat.le_of_ble_eq_true rfl) (Nat.le_of_ble_eq_true rfl) (recvV A25 (a := 13) (Abs_ks A25 (i := 23) rfl).1) (t196 (by omega) A25  e26) (fun w26 r26 A26 => ?_)
    rcases oi e with ⟨q27, e⟩ | ⟨q27, e⟩
    · refine hg_ifF (tgt := 22) rfl (by decide) r26 (show ¬ ¬ (v26.1 = 0) from fun f => f q27) ?_
      refine hg_run 1 (pc' := 21) (ls' := [some (vr 395), none]) (st' := [vI 0]) rfl ?_
      cases e
      exact hg_retI rfl (by decide) (fit_B (.inl rfl)) (kr _ _ rfl _ (rgn 0 rfl) A26)
    · refine hg_ifT (tgt := 22) rfl (by decide) r26 (show ¬ (v26.1 = 0) from q27) ?_
      refine hg_run 4 (pc' := 27) (ls' := [some (vr 395), none]) (st' := [vR 395, vI 33, vR 395, vR 395]) rfl ?_
      refine gs_395_17 rfl A26 ?_
      refine hg_run 2 (pc' := 32) (ls' := [some (vr 395), none]) (st' := [vI 0, vI 0, vI (hI v26.2 395 17), vI 33, vR 395, vR 395]) rfl ?_
      obtain ⟨v28, e28, e⟩ := ob e
      refine hg_cI (as := [vR 395, vI 33, vI (hI v26.2 395 17), vI 0, vI 0]) (st' := [vR 395]) rfl (fun _ _ _ _ => rfl) rfl rfl (Nat.le_of_ble_eq_true rfl) (Nat.le_of_ble_eq_true rfl) (recvV A26 (a := 13) (Abs_ks A26 (i := 23) rfl).1) (t218 (by omega) A26 (rgn 33 rfl) (Abs_rg A26 395 17) (rgn 0 rfl) (rgn 0 rfl) e28) (fun w28 r28 A28 => ?_)
      obtain ⟨h29, e29, e⟩ := ob e
      refine ps_395_22 rfl A28 r28 e29 (fun w29 A29 => ?_)
      refine hg_run 2 (pc' := 41) (ls' := [some (vr 395), none]) (st' := [vI 59, vR 395]) rfl ?_
      obtain ⟨v30, e30, e⟩ := ob e
      refine hg_cI (as := [vR 395, vI 59]) (st' := []) rfl (fun _ _ _ _ => rfl) rfl rfl (Nat.le_of_ble_eq_true rfl) (Nat.le_of_ble_eq_true rfl) (recvV A29 (a := 13) (Abs_ks A29 (i := 23) rfl).1) (t202 (by omega) A29 (rgn 59 rfl) e30) (fun w30 r30 A30 => ?_)
      obtain ⟨u31, e31, e⟩ := ob e
      cases e
      exact hg_retI rfl (by decide) (fit_B (kB_e e31)) (kr _ _ rfl _ r30 A30)
  · refine hg_icT (tgt := 45) rfl (by decide) (Abs_rg A 395 3) (rgn 117 rfl) (show ¬ ((hI h 395 3) = 117) from q1) ?_
    refine hg_run 1 (pc' := 46) (ls' := [some (vr 395), none]) (st' := [vR 395]) rfl ?_
    refine gs_395_3 rfl A ?_
    refine hg_run 1 (pc' := 51) (ls' := [some (vr 395), none]) (st' := [vI 119, vI (hI h 395 3)]) rfl ?_
    rcases oi e with ⟨q2, e⟩ | ⟨q2, e⟩
    · refine hg_icF (tgt := 104) rfl (by decide) (Abs_rg A 395 3) (rgn 119 rfl) (show ¬ ¬ ((hI h 395 3) = 119) from fun f => f q2) ?_
      refine hg_run 1 (pc' := 55) (ls' := [some (vr 395), none]) (st' := [vR 395]) rfl ?_
      obtain ⟨h16, e16, e⟩ := ob e
      refine hg_cV (as := [vR 395]) (st' := []) rfl (fun _ _ _ _ => rfl) rfl rfl (Nat.le_of_ble_eq_true rfl) (Nat.le_of_ble_eq_true rfl) (recvV A (a := 13) (Abs_ks A (i := 23) rfl).1) (t188 (by omega) A  e16) (fun w16 A16 => ?_)
      refine hg_run 1 (pc' := 59) (ls' := [some (vr 395), none]) (st' := [vR 395]) rfl ?_
      obtain ⟨v17, e17, e⟩ := ob e
      refine hg_cI (as := [vR 395]) (st' := []) rfl (fun _ _ _ _ => rfl) rfl rfl (Nat.le_of_ble_eq_true rfl) (Nat.le_of_ble_eq_true rfl) (recvV A16 (a := 13) (Abs_ks A16 (i := 23) rfl).1) (t196 (by omega) A16  e17) (fun w17 r17 A17 => ?_)
      rcases oi e with ⟨q18, e⟩ | ⟨q18, e⟩
      · refine hg_ifF (tgt := 67) rfl (by decide) r17 (show ¬ ¬ (v17.1 = 0) from fun f => f q18) ?_
        refine hg_run 1 (pc' := 66) (ls' := [some (vr 395), none]) (st' := [vI 0]) rfl ?_
        cases e
        exact hg_retI rfl (by decide) (fit_B (.inl rfl)) (kr _ _ rfl _ (rgn 0 rfl) A17)
      · refine hg_ifT (tgt := 67) rfl (by decide) r17 (show ¬ (v17.1 = 0) from q18) ?_
        refine hg_run 1 (pc' := 68) (ls' := [some (vr 395), none]) (st' := [vR 395]) rfl ?_
        refine gs_395_17 rfl A17 ?_
        refine hg_run 2 (pc' := 73) (ls' := [some (vr 395), some (vi (hI v17.2 395 17))]) (st' := [vR 395]) rfl ?_
        obtain ⟨v19, e19, e⟩ := ob e
        refine hg_cI (as := [vR 395]) (st' := []) rfl (fun _ _ _ _ => rfl) rfl rfl (Nat.le_of_ble_eq_true rfl) (Nat.le_of_ble_eq_true rfl) (recvV A17 (a := 13) (Abs_ks A17 (i := 23) rfl).1) (t196 (by omega) A17  e19) (fun w19 r19 A19 => ?_)
        rcases oi e with ⟨q20, e⟩ | ⟨q20, e⟩
        · refine hg_ifF (tgt := 81) rfl (by decide) r19 (show ¬ ¬ (v19.1 = 0) from fun f => f q20) ?_
          refine hg_run 1 (pc' := 80) (ls' := [some (vr 395), some (vi (hI v17.2 395 17))]) (st' := [vI 0]) rfl ?_
          cases e
          exact hg_retI rfl (by decide) (fit_B (.inl rfl)) (kr _ _ rfl _ (rgn 0 rfl) A19)
        · refine hg_ifT (tgt := 81) rfl (by decide) r19 (show ¬ (v19.1 = 0) from q20) ?_
          refine hg_run 5 (pc' := 87) (ls' := [some (vr 395), some (vi (hI v17.2 395 17))]) (st' := [vR 395, vI (hI v17.2 395 17), vI 34, vR 395, vR 395]) rfl ?_
          refine gs_395_17 rfl A19 ?_
          refine hg_run 1 (pc' := 91) (ls' := [some (vr 395), some (vi (hI v17.2 395 17))]) (st' := [vI 0, vI (hI v19.2 395 17), vI (hI v17.2 395 17), vI 34, vR 395, vR 395]) rfl ?_
          obtain ⟨v21, e21, e⟩ := ob e
          refine hg_cI (as := [vR 395, vI 34, vI (hI v17.2 395 17), vI (hI v19.2 395 17), vI 0]) (st' := [vR 395]) rfl (fun _ _ _ _ => rfl) rfl rfl (Nat.le_of_ble_eq_true rfl) (Nat.le_of_ble_eq_true rfl) (recvV A19 (a := 13) (Abs_ks A19 (i := 23) rfl).1) (t218 (by omega) A19 (rgn 34 rfl) (Abs_rg A17 395 17) (Abs_rg A19 395 17) (rgn 0 rfl) e21) (fun w21 r21 A21 => ?_)
          obtain ⟨h22, e22, e⟩ := ob e
          refine ps_395_22 rfl A21 r21 e22 (fun w22 A22 => ?_)
          refine hg_run 2 (pc' := 100) (ls' := [some (vr 395), some (vi (hI v17.2 395 17))]) (st' := [vI 59, vR 395]) rfl ?_
          obtain ⟨v23, e23, e⟩ := ob e
          refine hg_cI (as := [vR 395, vI 59]) (st' := []) rfl (fun _ _ _ _ => rfl) rfl rfl (Nat.le_of_ble_eq_true rfl) (Nat.le_of_ble_eq_true rfl) (recvV A22 (a := 13) (Abs_ks A22 (i := 23) rfl).1) (t202 (by omega) A22 (rgn 59 rfl) e23) (fun w23 r23 A23 => ?_)
          obtain ⟨u24, e24, e⟩ := ob e
          cases e
          exact hg_retI rfl (by decide) (fit_B (kB_e e24)) (kr _ _ rfl _ r23 A23)
    · refine hg_icT (tgt := 104) rfl (by decide) (Abs_rg A 395 3) (rgn 119 rfl) (show ¬ ((hI h 395 3) = 119) from q2) ?_
      refine hg_run 1 (pc' := 105) (ls' := [some (vr 395), none]) (st' := [vR 395]) rfl ?_
      refine gs_395_3 rfl A ?_
      refine hg_run 1 (pc' := 110) (ls' := [some (vr 395), none]) (st' := [vI 120, vI (hI h 395 3)]) rfl ?_
      rcases oi e with ⟨q3, e⟩ | ⟨q3, e⟩
      · refine hg_icT (tgt := 119) rfl (by decide) (Abs_rg A 395 3) (rgn 120 rfl) q3 ?_
        refine hg_run 1 (pc' := 120) (ls' := [some (vr 395), none]) (st' := [vR 395]) rfl ?_
        obtain ⟨h4, e4, e⟩ := ob e
        refine hg_cV (as := [vR 395]) (st' := []) rfl (fun _ _ _ _ => rfl) rfl rfl (Nat.le_of_ble_eq_true rfl) (Nat.le_of_ble_eq_true rfl) (recvV A (a := 13) (Abs_ks A (i := 23) rfl).1) (t188 (by omega) A  e4) (fun w4 A4 => ?_)
        refine hg_run 1 (pc' := 124) (ls' := [some (vr 395), none]) (st' := [vR 395]) rfl ?_
        obtain ⟨v5, e5, e⟩ := ob e
        refine hg_cI (as := [vR 395]) (st' := []) rfl (fun _ _ _ _ => rfl) rfl rfl (Nat.le_of_ble_eq_true rfl) (Nat.le_of_ble_eq_true rfl) (recvV A4 (a := 13) (Abs_ks A4 (i := 23) rfl).1) (t196 (by omega) A4  e5) (fun w5 r5 A5 => ?_)
        rcases oi e with ⟨q6, e⟩ | ⟨q6, e⟩
        · refine hg_ifF (tgt := 132) rfl (by decide) r5 (show ¬ ¬ (v5.1 = 0) from fun f => f q6) ?_
          refine hg_run 1 (pc' := 131) (ls' := [some (vr 395), none]) (st' := [vI 0]) rfl ?_
          cases e
          exact hg_retI rfl (by decide) (fit_B (.inl rfl)) (kr _ _ rfl _ (rgn 0 rfl) A5)
        · refine hg_ifT (tgt := 132) rfl (by decide) r5 (show ¬ (v5.1 = 0) from q6) ?_
          refine hg_run 1 (pc' := 133) (ls' := [some (vr 395), none]) (st' := [vR 395]) rfl ?_
          refine gs_395_17 rfl A5 ?_
          refine hg_run 3 (pc' := 139) (ls' := [some (vr 395), some (vi (hI v5.2 395 17))]) (st' := [vI 0, vR 395]) rfl ?_
          obtain ⟨h7, e7, e⟩ := ob e
          refine ps_395_18 rfl A5 (rgn 0 rfl) e7 (fun w7 A7 => ?_)
          refine hg_run 1 (pc' := 143) (ls' := [some (vr 395), some (vi (hI v5.2 395 17))]) (st' := [vR 395]) rfl ?_
          obtain ⟨v8, e8, e⟩ := ob e
          refine hg_cI (as := [vR 395]) (st' := []) rfl (fun _ _ _ _ => rfl) rfl rfl (Nat.le_of_ble_eq_true rfl) (Nat.le_of_ble_eq_true rfl) (recvV A7 (a := 13) (Abs_ks A7 (i := 23) rfl).1) (u214 120 (by omega) 214 _ _ _ _ A7 rgl0 e8) (fun w8 r8 A8 => ?_)
          rcases oi e with ⟨q9, e⟩ | ⟨q9, e⟩
          · refine hg_ifF (tgt := 151) rfl (by decide) r8 (show ¬ ¬ (v8.1 = 0) from fun f => f q9) ?_
            refine hg_run 1 (pc' := 150) (ls' := [some (vr 395), some (vi (hI v5.2 395 17))]) (st' := [vI 0]) rfl ?_
            cases e
            exact hg_retI rfl (by decide) (fit_B (.inl rfl)) (kr _ _ rfl _ (rgn 0 rfl) A8)
          · refine hg_ifT (tgt := 151) rfl (by decide) r8 (show ¬ (v8.1 = 0) from q9) ?_
            refine hg_run 5 (pc' := 157) (ls' := [some (vr 395), some (vi (hI v5.2 395 17))]) (st' := [vR 395, vI (hI v5.2 395 17), vI 35, vR 395, vR 395]) rfl ?_
            refine gs_395_19 rfl A8 ?_
            refine hg_run 1 (pc' := 161) (ls' := [some (vr 395), some (vi (hI v5.2 395 17))]) (st' := [vI 0, vI (hI v8.2 395 19), vI (hI v5.2 395 17), vI 35, vR 395, vR 395]) rfl ?_
            obtain ⟨v10, e10, e⟩ := ob e
            refine hg_cI (as := [vR 395, vI 35, vI (hI v5.2 395 17), vI (hI v8.2 395 19), vI 0]) (st' := [vR 395]) rfl (fun _ _ _ _ => rfl) rfl rfl (Nat.le_of_ble_eq_true rfl) (Nat.le_of_ble_eq_true rfl) (recvV A8 (a := 13) (Abs_ks A8 (i := 23) rfl).1) (t218 (by omega) A8 (rgn 35 rfl) (Abs_rg A5 395 17) (Abs_rg A8 395 19) (rgn 0 rfl) e10) (fun w10 r10 A10 => ?_)
            obtain ⟨h11, e11, e⟩ := ob e
            refine ps_395_22 rfl A10 r10 e11 (fun w11 A11 => ?_)
            refine hg_run 2 (pc' := 170) (ls' := [some (vr 395), some (vi (hI v5.2 395 17))]) (st' := [vI 59, vR 395]) rfl ?_
            obtain ⟨v12, e12, e⟩ := ob e
            refine hg_cI (as := [vR 395, vI 59]) (st' := []) rfl (fun _ _ _ _ => rfl) rfl rfl (Nat.le_of_ble_eq_true rfl) (Nat.le_of_ble_eq_true rfl) (recvV A11 (a := 13) (Abs_ks A11 (i := 23) rfl).1) (t202 (by omega) A11 (rgn 59 rfl) e12) (fun w12 r12 A12 => ?_)
            obtain ⟨u13, e13, e⟩ := ob e
            cases e
            exact hg_retI rfl (by decide) (fit_B (kB_e e13)) (kr _ _ rfl _ r12 A12)
      · refine hg_icF (tgt := 119) rfl (by decide) (Abs_rg A 395 3) (rgn 120 rfl) q3 ?_
        refine hg_run 2 (pc' := 115) (ls' := [some (vr 395), none]) (st' := [vI (-1), vR 395]) rfl ?_
        obtain ⟨v14, e14, e⟩ := ob e
        refine hg_cI (as := [vR 395, vI (-1)]) (st' := []) rfl (fun _ _ _ _ => rfl) rfl rfl (Nat.le_of_ble_eq_true rfl) (Nat.le_of_ble_eq_true rfl) (recvV A (a := 13) (Abs_ks A (i := 23) rfl).1) (t204 (by omega) A (rgn (-1) rfl) e14) (fun w14 r14 A14 => ?_)
        obtain ⟨u15, e15, e⟩ := ob e
        cases e
        exact hg_retI rfl (by decide) (fit_B (kB_e e15)) (kr _ _ rfl _ r14 A14)
def c230_j70 (l2 : Int) (h : hS) : Option ((Int × Int × hS) ⊕ ((Int × hS) ⊕ (Int × hS))) :=
  some (.inl (l2, (hI h 395 22), h))
theorem t230_j70 {d : Nat} (hd : 248 ≤ d) {l2 : Int} {l1 : Int} {z3 : Option hO} {h : hS} {w : mmW} {o : (Int × Int × hS) ⊕ ((Int × hS) ⊕ (Int × hS))} {Q : mmO → Prop} (rl2 : rg l2) (A : Abs h w) (e : c230_j70 l2 h = some o) (kb : ∀ (s_0 : Int) (s_1 : Int) (s_2 : hS), o = .inl (s_0, s_1, s_2) → ∀ w', rg s_0 → rg s_1 → Abs s_2 w' → hG d 230 15 [some (vr 395), some (vi l1), some (vi s_0), some (vi s_1)] [] w' Q) (ke : ∀ (x_0 : Int) (x_1 : hS), o = .inr (.inl (x_0, x_1)) → ∀ w', ∀ (y3 : Option hO), rg x_0 → Abs x_1 w' → hG d 230 78 [some (vr 395), some (vi l1), some (vi x_0), y3] [] w' Q) (kr : ∀ (v1 : Int) (h1 : hS), o = .inr (.inr (v1, h1)) → ∀ w', rg v1 → Abs h1 w' → Q (some (.int (Int32.ofInt v1)), w')) : hG d 230 70 [some (vr 395), some (vi l1), some (vi l2), z3] [] w Q := by
  unfold c230_j70 at e
  refine hg_run 1 (pc' := 71) (ls' := [some (vr 395), some (vi l1), some (vi l2), z3]) (st' := [vR 395]) rfl ?_
  refine gs_395_22 rfl A ?_
  refine hg_run 2 (pc' := 15) (ls' := [some (vr 395), some (vi l1), some (vi l2), some (vi (hI h 395 22))]) (st' := []) rfl ?_
  cases e
  exact kb l2 (hI h 395 22) h rfl _ rl2 (Abs_rg A 395 22) A
def c230_j48 (l2 : Int) (l3 : Int) (h : hS) : Option ((Int × Int × hS) ⊕ ((Int × hS) ⊕ (Int × hS))) :=
  if l2 = (-1) then
  c230_j70 (hI h 395 22) h
  else
  (c219 l3 (hI h 395 22) h).bind (fun h9 =>
  c230_j70 l2 h9)
theorem t230_j48 {d : Nat} (hd : 248 ≤ d) {l2 : Int} {l3 : Int} {l1 : Int} {h : hS} {w : mmW} {o : (Int × Int × hS) ⊕ ((Int × hS) ⊕ (Int × hS))} {Q : mmO → Prop} (rl2 : rg l2) (rl3 : rg l3) (A : Abs h w) (e : c230_j48 l2 l3 h = some o) (kb : ∀ (s_0 : Int) (s_1 : Int) (s_2 : hS), o = .inl (s_0, s_1, s_2) → ∀ w', rg s_0 → rg s_1 → Abs s_2 w' → hG d 230 15 [some (vr 395), some (vi l1), some (vi s_0), some (vi s_1)] [] w' Q) (ke : ∀ (x_0 : Int) (x_1 : hS), o = .inr (.inl (x_0, x_1)) → ∀ w', ∀ (y3 : Option hO), rg x_0 → Abs x_1 w' → hG d 230 78 [some (vr 395), some (vi l1), some (vi x_0), y3] [] w' Q) (kr : ∀ (v1 : Int) (h1 : hS), o = .inr (.inr (v1, h1)) → ∀ w', rg v1 → Abs h1 w' → Q (some (.int (Int32.ofInt v1)), w')) : hG d 230 48 [some (vr 395), some (vi l1), some (vi l2), some (vi l3)] [] w Q := by
  unfold c230_j48 at e
  refine hg_run 2 (pc' := 50) (ls' := [some (vr 395), some (vi l1), some (vi l2), some (vi l3)]) (st' := [vI (-1), vI l2]) rfl ?_
  rcases oi e with ⟨q8, e⟩ | ⟨q8, e⟩
  · refine hg_icF (tgt := 61) rfl (by decide) rl2 (rgn (-1) rfl) (show ¬ ¬ (l2 = (-1)) from fun f => f q8) ?_
    refine hg_run 1 (pc' := 54) (ls' := [some (vr 395), some (vi l1), some (vi l2), some (vi l3)]) (st' := [vR 395]) rfl ?_
    refine gs_395_22 rfl A ?_
    refine hg_run 2 (pc' := 70) (ls' := [some (vr 395), some (vi l1), some (vi (hI h 395 22)), some (vi l3)]) (st' := []) rfl ?_
    exact t230_j70 hd (Abs_rg A 395 22) A e kb ke kr
  · refine hg_icT (tgt := 61) rfl (by decide) rl2 (rgn (-1) rfl) (show ¬ (l2 = (-1)) from q8) ?_
    refine hg_run 3 (pc' := 64) (ls' := [some (vr 395), some (vi l1), some (vi l2), some (vi l3)]) (st' := [vR 395, vI l3, vR 395]) rfl ?_
    refine gs_395_22 rfl A ?_
    obtain ⟨h9, e9, e⟩ := ob e
    refine hg_cV (as := [vR 395, vI l3, vI (hI h 395 22)]) (st' := []) rfl (fun _ _ _ _ => rfl) rfl rfl (Nat.le_of_ble_eq_true rfl) (Nat.le_of_ble_eq_true rfl) (recvV A (a := 13) (Abs_ks A (i := 23) rfl).1) (t219 (by omega) A rl3 (Abs_rg A 395 22) e9) (fun w9 A9 => ?_)
    exact t230_j70 hd rl2 A9 e kb ke kr
def c230_b15 (l1 : Int) (l2 : Int) (l3 : Int) (h : hS) : Option ((Int × Int × hS) ⊕ ((Int × hS) ⊕ (Int × hS))) :=
  (c203 125 h).bind (fun v3 =>
  if v3 = 0 then
  if l1 = 0 then
  (c204 (-1) h).bind (fun v6 =>
  if v6.1 = 0 then
  some (.inr (.inr (0, v6.2)))
  else
  c230_j48 l2 l3 v6.2)
  else
  (c231  h).bind (fun v10 =>
  if v10.1 = 0 then
  some (.inr (.inr (0, v10.2)))
  else
  c230_j48 l2 l3 v10.2)
  else
  some (.inr (.inl (l2, h))))
theorem t230_b15 {d : Nat} (hd : 248 ≤ d) {l1 : Int} {l2 : Int} {l3 : Int}  {h : hS} {w : mmW} {o : (Int × Int × hS) ⊕ ((Int × hS) ⊕ (Int × hS))} {Q : mmO → Prop} (rl1 : rg l1) (rl2 : rg l2) (rl3 : rg l3) (A : Abs h w) (e : c230_b15 l1 l2 l3 h = some o) (kb : ∀ (s_0 : Int) (s_1 : Int) (s_2 : hS), o = .inl (s_0, s_1, s_2) → ∀ w', rg s_0 → rg s_1 → Abs s_2 w' → hG d 230 15 [some (vr 395), some (vi l1), some (vi s_0), some (vi s_1)] [] w' Q) (ke : ∀ (x_0 : Int) (x_1 : hS), o = .inr (.inl (x_0, x_1)) → ∀ w', ∀ (y3 : Option hO), rg x_0 → Abs x_1 w' → hG d 230 78 [some (vr 395), some (vi l1), some (vi x_0), y3] [] w' Q) (kr : ∀ (v1 : Int) (h1 : hS), o = .inr (.inr (v1, h1)) → ∀ w', rg v1 → Abs h1 w' → Q (some (.int (Int32.ofInt v1)), w')) : hG d 230 15 [some (vr 395), some (vi l1), some (vi l2), some (vi l3)] [] w Q := by
  unfold c230_b15 at e
  refine hg_run 2 (pc' := 18) (ls' := [some (vr 395), some (vi l1), some (vi l2), some (vi l3)]) (st' := [vI 125, vR 395]) rfl ?_
  obtain ⟨v3, e3, e⟩ := ob e
  refine hg_cIp (as := [vR 395, vI 125]) (st' := []) rfl (fun _ _ _ _ => rfl) rfl rfl (Nat.le_of_ble_eq_true rfl) (Nat.le_of_ble_eq_true rfl) (recvV A (a := 13) (Abs_ks A (i := 23) rfl).1) (t203 (by omega) A (rgn 125 rfl) e3) (fun r3 => ?_)
  rcases oi e with ⟨q4, e⟩ | ⟨q4, e⟩
  · refine hg_ifF (tgt := 78) rfl (by decide) r3 (show ¬ ¬ (v3 = 0) from fun f => f q4) ?_
    refine hg_run 1 (pc' := 25) (ls' := [some (vr 395), some (vi l1), some (vi l2), some (vi l3)]) (st' := [vI l1]) rfl ?_
    rcases oi e with ⟨q5, e⟩ | ⟨q5, e⟩
    · refine hg_ifT (tgt := 38) rfl (by decide) rl1 q5 ?_
      refine hg_run 2 (pc' := 40) (ls' := [some (vr 395), some (vi l1), some (vi l2), some (vi l3)]) (st' := [vI (-1), vR 395]) rfl ?_
      obtain ⟨v6, e6, e⟩ := ob e
      refine hg_cI (as := [vR 395, vI (-1)]) (st' := []) rfl (fun _ _ _ _ => rfl) rfl rfl (Nat.le_of_ble_eq_true rfl) (Nat.le_of_ble_eq_true rfl) (recvV A (a := 13) (Abs_ks A (i := 23) rfl).1) (t204 (by omega) A (rgn (-1) rfl) e6) (fun w6 r6 A6 => ?_)
      rcases oi e with ⟨q7, e⟩ | ⟨q7, e⟩
      · refine hg_ifF (tgt := 48) rfl (by decide) r6 (show ¬ ¬ (v6.1 = 0) from fun f => f q7) ?_
        refine hg_run 1 (pc' := 47) (ls' := [some (vr 395), some (vi l1), some (vi l2), some (vi l3)]) (st' := [vI 0]) rfl ?_
        cases e
        exact hg_retI rfl (by decide) (fit_B (.inl rfl)) (kr _ _ rfl _ (rgn 0 rfl) A6)
      · refine hg_ifT (tgt := 48) rfl (by decide) r6 (show ¬ (v6.1 = 0) from q7) ?_
        exact t230_j48 hd rl2 rl3 A6 e kb ke kr
    · refine hg_ifF (tgt := 38) rfl (by decide) rl1 q5 ?_
      refine hg_run 1 (pc' := 29) (ls' := [some (vr 395), some (vi l1), some (vi l2), some (vi l3)]) (st' := [vR 395]) rfl ?_
      obtain ⟨v10, e10, e⟩ := ob e
      refine hg_cI (as := [vR 395]) (st' := []) rfl (fun _ _ _ _ => rfl) rfl rfl (Nat.le_of_ble_eq_true rfl) (Nat.le_of_ble_eq_true rfl) (recvV A (a := 13) (Abs_ks A (i := 23) rfl).1) (t231 (by omega) A  e10) (fun w10 r10 A10 => ?_)
      rcases oi e with ⟨q11, e⟩ | ⟨q11, e⟩
      · refine hg_ifF (tgt := 48) rfl (by decide) r10 (show ¬ ¬ (v10.1 = 0) from fun f => f q11) ?_
        refine hg_run 2 (pc' := 47) (ls' := [some (vr 395), some (vi l1), some (vi l2), some (vi l3)]) (st' := [vI 0]) rfl ?_
        cases e
        exact hg_retI rfl (by decide) (fit_B (.inl rfl)) (kr _ _ rfl _ (rgn 0 rfl) A10)
      · refine hg_ifT (tgt := 48) rfl (by decide) r10 (show ¬ (v10.1 = 0) from q11) ?_
        exact t230_j48 hd rl2 rl3 A10 e kb ke kr
  · refine hg_ifT (tgt := 78) rfl (by decide) r3 (show ¬ (v3 = 0) from q4) ?_
    cases e
    exact ke l2 h rfl _ _ rl2 A
theorem t230_l15 {d : Nat} (hd : 248 ≤ d) {l1 : Int}  {Q : mmO → Prop} (rl1 : rg l1) (n : Nat) {l2 : Int} {l3 : Int}  {h : hS} {w : mmW} {r : (Int × hS) ⊕ (Int × hS)} (rl2 : rg l2) (rl3 : rg l3) (A : Abs h w) (e : lp (fun s => c230_b15 l1 s.1 s.2.1 s.2.2) n (l2, l3, h) = some r) (ke : ∀ (x_0 : Int) (x_1 : hS), r = .inl (x_0, x_1) → ∀ w', ∀ (y3 : Option hO), rg x_0 → Abs x_1 w' → hG d 230 78 [some (vr 395), some (vi l1), some (vi x_0), y3] [] w' Q) (kr : ∀ (v1 : Int) (h1 : hS), r = .inr (v1, h1) → ∀ w', rg v1 → Abs h1 w' → Q (some (.int (Int32.ofInt v1)), w')) : hG d 230 15 [some (vr 395), some (vi l1), some (vi l2), some (vi l3)] [] w Q := by
  induction n generalizing l2 l3 h w with
  | zero => cases e
  | succ n ih =>
    rcases lp_succ e with ⟨s1, e1, e2⟩ | e1
    · exact t230_b15 hd rl1 rl2 rl3 A e1 (fun s_0 s_1 s_2 q w1 rl2 rl3 A1 => by cases q; exact ih rl2 rl3 A1 e2) (fun x_0 x_1 q => by cases q) (fun v0 h0 q => by cases q)
    · exact t230_b15 hd rl1 rl2 rl3 A e1 (fun s_0 s_1 s_2 q => by cases q) (fun x_0 x_1 q => by cases q; exact ke _ _ rfl) (fun v0 h0 q => by cases q; exact kr _ _ rfl)
def c230 (l1 : Int) (h : hS) : Option (Int × hS) :=
  (c202 123 h).bind (fun v1 =>
  if v1.1 = 0 then
  some (0, v1.2)
  else
  (lp (fun s => c230_b15 l1 s.1 s.2.1 s.2.2) hF0 ((-1), (-1), v1.2)).bind (fun r12 => xs r12 (fun x12 =>
  (c188  x12.2).bind (fun h13 =>
  (some (sI h13 395 21 x12.1)).bind (fun h14 =>
  some (1, h14)))) (fun o12 => some o12)))
theorem t230 {d : Nat} (hd : 249 ≤ d) {l1 : Int} {h : hS} {w : mmW} {o : Int × hS} (A : Abs h w) (rl1 : rg l1) (e : c230 l1 h = some o) : hEv d 230 [vR 395, vI l1] w (qI o) := by
  obtain ⟨d, rfl⟩ : ∃ d1, d = d1 + 1 := ⟨d - 1, by omega⟩
  have hd : 248 ≤ d := by omega
  refine hEv_start (args := [vr 395, vi l1]) (nl := 4) rfl (Nat.le_of_ble_eq_true rfl) ?_
  show hG d 230 0 [some (vr 395), some (vi l1), none, none] [] w _
  have kr : ∀ (v1 : Int) (h1 : hS), o = (v1, h1) → ∀ w', rg v1 → Abs h1 w' → qI o (some (.int (Int32.ofInt v1)), w') := fun v1 h1 q w' r A' => by cases q; exact ⟨rfl, r, A'⟩
  unfold c230 at e
  refine hg_run 2 (pc' := 3) (ls' := [some (vr 395), some (vi l1), none, none]) (st' := [vI 123, vR 395]) rfl ?_
  obtain ⟨v1, e1, e⟩ := ob e
  refine hg_cI (as := [vR 395, vI 123]) (st' := []) rfl (fun _ _ _ _ => rfl) rfl rfl (Nat.le_of_ble_eq_true rfl) (Nat.le_of_ble_eq_true rfl) (recvV A (a := 13) (Abs_ks A (i := 23) rfl).1) (t202 (by omega) A (rgn 123 rfl) e1) (fun w1 r1 A1 => ?_)
  rcases oi e with ⟨q2, e⟩ | ⟨q2, e⟩
  · refine hg_ifF (tgt := 11) rfl (by decide) r1 (show ¬ ¬ (v1.1 = 0) from fun f => f q2) ?_
    refine hg_run 1 (pc' := 10) (ls' := [some (vr 395), some (vi l1), none, none]) (st' := [vI 0]) rfl ?_
    cases e
    exact hg_retI rfl (by decide) (fit_B (.inl rfl)) (kr _ _ rfl _ (rgn 0 rfl) A1)
  · refine hg_ifT (tgt := 11) rfl (by decide) r1 (show ¬ (v1.1 = 0) from q2) ?_
    refine hg_run 4 (pc' := 15) (ls' := [some (vr 395), some (vi l1), some (vi (-1)), some (vi (-1))]) (st' := []) rfl ?_
    obtain ⟨r12, e12, e⟩ := ob e
    refine t230_l15 hd rl1 _ (rgn (-1) rfl) (rgn (-1) rfl) A1 e12 ?_ ?_
    · intro x12_0 x12_1 qq12 w12 z12_3 q12_2 A12
      subst qq12
      have e := xs_l e
      try dsimp only at e
      refine hg_run 1 (pc' := 79) (ls' := [some (vr 395), some (vi l1), some (vi x12_0), z12_3]) (st' := [vR 395]) rfl ?_
      obtain ⟨h13, e13, e⟩ := ob e
      refine hg_cV (as := [vR 395]) (st' := []) rfl (fun _ _ _ _ => rfl) rfl rfl (Nat.le_of_ble_eq_true rfl) (Nat.le_of_ble_eq_true rfl) (recvV A12 (a := 13) (Abs_ks A12 (i := 23) rfl).1) (t188 (by omega) A12  e13) (fun w13 A13 => ?_)
      refine hg_run 2 (pc' := 84) (ls' := [some (vr 395), some (vi l1), some (vi x12_0), z12_3]) (st' := [vI x12_0, vR 395]) rfl ?_
      obtain ⟨h14, e14, e⟩ := ob e
      refine ps_395_21 rfl A13 q12_2 e14 (fun w14 A14 => ?_)
      refine hg_run 1 (pc' := 88) (ls' := [some (vr 395), some (vi l1), some (vi x12_0), z12_3]) (st' := [vI 1]) rfl ?_
      cases e
      exact hg_retI rfl (by decide) (fit_B (.inr rfl)) (kr _ _ rfl _ (rgn 1 rfl) A14)
    · intro v12 h12 qq12 w12 r12 A12
      subst qq12
      have e := xs_r e
      cases e
      exact kr _ _ rfl w12 r12 A12
def c228_j207 (s2 : Int) (l2 : Int) (h : hS) : Option (Int × hS) :=
  (c218 s2 l2 (hI h 395 24) 0 h).bind (fun v10 =>
  (some (sI v10.2 395 22 v10.1)).bind (fun h11 =>
  (c202 59 h11).bind (fun v12 =>
  (kB v12.1).bind (fun u13 =>
  some (v12.1, v12.2)))))
set_option maxRecDepth 100000 in
theorem t228_j207 {d : Nat} (hd : 249 ≤ d) {s2 : Int} {l2 : Int} {z1 : Option hO} {z3 : Option hO} {h : hS} {w : mmW} {o : Int × hS} {Q : mmO → Prop} (rs2 : rg s2) (rl2 : rg l2) (A : Abs h w) (e : c228_j207 s2 l2 h = some o) (kr : ∀ (v1 : Int) (h1 : hS), o = (v1, h1) → ∀ w', rg v1 → Abs h1 w' → Q (some (.int (Int32.ofInt v1)), w')) : hG d 228 207 [some (vr 395), z1, some (vi l2), z3] [vI s2, vR 395, vR 395] w Q := by
  unfold c228_j207 at e
  refine hg_run 2 (pc' := 209) (ls' := [some (vr 395), z1, some (vi l2), z3]) (st' := [vR 395, vI l2, vI s2, vR 395, vR 395]) rfl ?_
  refine gs_395_24 rfl A ?_
  refine hg_run 1 (pc' := 213) (ls' := [some (vr 395), z1, some (vi l2), z3]) (st' := [vI 0, vI (hI h 395 24), vI l2, vI s2, vR 395, vR 395]) rfl ?_
  obtain ⟨v10, e10, e⟩ := ob e
  refine hg_cI (as := [vR 395, vI s2, vI l2, vI (hI h 395 24), vI 0]) (st' := [vR 395]) rfl (fun _ _ _ _ => rfl) rfl rfl (Nat.le_of_ble_eq_true rfl) (Nat.le_of_ble_eq_true rfl) (recvV A (a := 13) (Abs_ks A (i := 23) rfl).1) (t218 (by omega) A rs2 rl2 (Abs_rg A 395 24) (rgn 0 rfl) e10) (fun w10 r10 A10 => ?_)
  obtain ⟨h11, e11, e⟩ := ob e
  refine ps_395_22 rfl A10 r10 e11 (fun w11 A11 => ?_)
  refine hg_run 2 (pc' := 222) (ls' := [some (vr 395), z1, some (vi l2), z3]) (st' := [vI 59, vR 395]) rfl ?_
  obtain ⟨v12, e12, e⟩ := ob e
  refine hg_cI (as := [vR 395, vI 59]) (st' := []) rfl (fun _ _ _ _ => rfl) rfl rfl (Nat.le_of_ble_eq_true rfl) (Nat.le_of_ble_eq_true rfl) (recvV A11 (a := 13) (Abs_ks A11 (i := 23) rfl).1) (t202 (by omega) A11 (rgn 59 rfl) e12) (fun w12 r12 A12 => ?_)
  obtain ⟨u13, e13, e⟩ := ob e
  cases e
  exact hg_retI rfl (by decide) (fit_B (kB_e e13)) (kr _ _ rfl _ r12 A12)
def c228_j192 (l1 : Int) (l2 : Int) (h : hS) : Option (Int × hS) :=
  if l1 = 117 then
  c228_j207 42 l2 h
  else
  c228_j207 43 l2 h
set_option maxRecDepth 100000 in
theorem t228_j192 {d : Nat} (hd : 249 ≤ d) {l1 : Int} {l2 : Int} {z3 : Option hO} {h : hS} {w : mmW} {o : Int × hS} {Q : mmO → Prop} (rl1 : rg l1) (rl2 : rg l2) (A : Abs h w) (e : c228_j192 l1 l2 h = some o) (kr : ∀ (v1 : Int) (h1 : hS), o = (v1, h1) → ∀ w', rg v1 → Abs h1 w' → Q (some (.int (Int32.ofInt v1)), w')) : hG d 228 192 [some (vr 395), some (vi l1), some (vi l2), z3] [] w Q := by
  unfold c228_j192 at e
  refine hg_run 4 (pc' := 197) (ls' := [some (vr 395), some (vi l1), some (vi l2), z3]) (st' := [vI 117, vI l1, vR 395, vR 395]) rfl ?_
  rcases oi e with ⟨q9, e⟩ | ⟨q9, e⟩
  · refine hg_icF (tgt := 205) rfl (by decide) rl1 (rgn 117 rfl) (show ¬ ¬ (l1 = 117) from fun f => f q9) ?_
    refine hg_run 2 (pc' := 207) (ls' := [some (vr 395), some (vi l1), some (vi l2), z3]) (st' := [vI 42, vR 395, vR 395]) rfl ?_
    exact t228_j207 hd (rgn 42 rfl) rl2 A e kr
  · refine hg_icT (tgt := 205) rfl (by decide) rl1 (rgn 117 rfl) (show ¬ (l1 = 117) from q9) ?_
    refine hg_run 1 (pc' := 207) (ls' := [some (vr 395), some (vi l1), some (vi l2), z3]) (st' := [vI 43, vR 395, vR 395]) rfl ?_
    exact t228_j207 hd (rgn 43 rfl) rl2 A e kr
def c228_j34 (l1 : Int) (h : hS) : Option (Int × hS) :=
  (c188  h).bind (fun h2 =>
  (c196  h2).bind (fun v3 =>
  if v3.1 = 0 then
  some (0, v3.2)
  else
  if l1 = 100 then
  (c229  v3.2).bind (fun v27 =>
  if v27.1 = 0 then
  some (0, v27.2)
  else
  (c230 0 v27.2).bind (fun v29 =>
  if v29.1 = 0 then
  some (0, v29.2)
  else
  (c218 40 (hI v3.2 395 17) (hI v27.2 395 24) (hI v29.2 395 21) v29.2).bind (fun v31 =>
  (some (sI v31.2 395 22 v31.1)).bind (fun h32 =>
  some (1, h32)))))
  else
  if l1 = 116 then
  (c230 1 v3.2).bind (fun v23 =>
  if v23.1 = 0 then
  some (0, v23.2)
  else
  (c218 41 (hI v3.2 395 17) 0 (hI v23.2 395 21) v23.2).bind (fun v25 =>
  (some (sI v25.2 395 22 v25.1)).bind (fun h26 =>
  some (1, h26))))
  else
  if l1 = 121 then
  (some (sI v3.2 395 18 0)).bind (fun h16 =>
  (g214 120 214 [] h16).bind (fun v17 =>
  if v17.1 = 0 then
  some (0, v17.2)
  else
  (c218 44 (hI v3.2 395 17) (hI v17.2 395 19) 0 v17.2).bind (fun v19 =>
  (some (sI v19.2 395 22 v19.1)).bind (fun h20 =>
  (c202 59 h20).bind (fun v21 =>
  (kB v21.1).bind (fun u22 =>
  some (v21.1, v21.2)))))))
  else
  if l1 = 118 then
  (c229  v3.2).bind (fun v14 =>
  if v14.1 = 0 then
  some (0, v14.2)
  else
  c228_j192 l1 (hI v3.2 395 17) v14.2)
  else
  c228_j192 l1 (hI v3.2 395 17) v3.2))
set_option maxRecDepth 100000 in
theorem t228_j34 {d : Nat} (hd : 249 ≤ d) {l1 : Int} {z2 : Option hO} {z3 : Option hO} {h : hS} {w : mmW} {o : Int × hS} {Q : mmO → Prop} (rl1 : rg l1) (A : Abs h w) (e : c228_j34 l1 h = some o) (kr : ∀ (v1 : Int) (h1 : hS), o = (v1, h1) → ∀ w', rg v1 → Abs h1 w' → Q (some (.int (Int32.ofInt v1)), w')) : hG d 228 34 [some (vr 395), some (vi l1), z2, z3] [] w Q := by
  unfold c228_j34 at e
  refine hg_run 1 (pc' := 35) (ls' := [some (vr 395), some (vi l1), z2, z3]) (st' := [vR 395]) rfl ?_
  obtain ⟨h2, e2, e⟩ := ob e
  refine hg_cV (as := [vR 395]) (st' := []) rfl (fun _ _ _ _ => rfl) rfl rfl (Nat.le_of_ble_eq_true rfl) (Nat.le_of_ble_eq_true rfl) (recvV A (a := 13) (Abs_ks A (i := 23) rfl).1) (t188 (by omega) A  e2) (fun w2 A2 => ?_)
  refine hg_run 1 (pc' := 39) (ls' := [some (vr 395), some (vi l1), z2, z3]) (st' := [vR 395]) rfl ?_
  obtain ⟨v3, e3, e⟩ := ob e
  refine hg_cI (as := [vR 395]) (st' := []) rfl (fun _ _ _ _ => rfl) rfl rfl (Nat.le_of_ble_eq_true rfl) (Nat.le_of_ble_eq_true rfl) (recvV A2 (a := 13) (Abs_ks A2 (i := 23) rfl).1) (t196 (by omega) A2  e3) (fun w3 r3 A3 => ?_)
  rcases oi e with ⟨q4, e⟩ | ⟨q4, e⟩
  · refine hg_ifF (tgt := 47) rfl (by decide) r3 (show ¬ ¬ (v3.1 = 0) from fun f => f q4) ?_
    refine hg_run 1 (pc' := 46) (ls' := [some (vr 395), some (vi l1), z2, z3]) (st' := [vI 0]) rfl ?_
    cases e
    exact hg_retI rfl (by decide) (fit_B (.inl rfl)) (kr _ _ rfl _ (rgn 0 rfl) A3)
  · refine hg_ifT (tgt := 47) rfl (by decide) r3 (show ¬ (v3.1 = 0) from q4) ?_
    refine hg_run 1 (pc' := 48) (ls' := [some (vr 395), some (vi l1), z2, z3]) (st' := [vR 395]) rfl ?_
    refine gs_395_17 rfl A3 ?_
    refine hg_run 3 (pc' := 55) (ls' := [some (vr 395), some (vi l1), some (vi (hI v3.2 395 17)), z3]) (st' := [vI 100, vI l1]) rfl ?_
    rcases oi e with ⟨q5, e⟩ | ⟨q5, e⟩
    · refine hg_icF (tgt := 100) rfl (by decide) rl1 (rgn 100 rfl) (show ¬ ¬ (l1 = 100) from fun f => f q5) ?_
      refine hg_run 1 (pc' := 59) (ls' := [some (vr 395), some (vi l1), some (vi (hI v3.2 395 17)), z3]) (st' := [vR 395]) rfl ?_
      obtain ⟨v27, e27, e⟩ := ob e
      refine hg_cI (as := [vR 395]) (st' := []) rfl (fun _ _ _ _ => rfl) rfl rfl (Nat.le_of_ble_eq_true rfl) (Nat.le_of_ble_eq_true rfl) (recvV A3 (a := 13) (Abs_ks A3 (i := 23) rfl).1) (t229 (by omega) A3  e27) (fun w27 r27 A27 => ?_)
      rcases oi e with ⟨q28, e⟩ | ⟨q28, e⟩
      · refine hg_ifF (tgt := 67) rfl (by decide) r27 (show ¬ ¬ (v27.1 = 0) from fun f => f q28) ?_
        refine hg_run 1 (pc' := 66) (ls' := [some (vr 395), some (vi l1), some (vi (hI v3.2 395 17)), z3]) (st' := [vI 0]) rfl ?_
        cases e
        exact hg_retI rfl (by decide) (fit_B (.inl rfl)) (kr _ _ rfl _ (rgn 0 rfl) A27)
      · refine hg_ifT (tgt := 67) rfl (by decide) r27 (show ¬ (v27.1 = 0) from q28) ?_
        refine hg_run 1 (pc' := 68) (ls' := [some (vr 395), some (vi l1), some (vi (hI v3.2 395 17)), z3]) (st' := [vR 395]) rfl ?_
        refine gs_395_24 rfl A27 ?_
        refine hg_run 3 (pc' := 74) (ls' := [some (vr 395), some (vi l1), some (vi (hI v3.2 395 17)), some (vi (hI v27.2 395 24))]) (st' := [vI 0, vR 395]) rfl ?_
        obtain ⟨v29, e29, e⟩ := ob e
        refine hg_cI (as := [vR 395, vI 0]) (st' := []) rfl (fun _ _ _ _ => rfl) rfl rfl (Nat.le_of_ble_eq_true rfl) (Nat.le_of_ble_eq_true rfl) (recvV A27 (a := 13) (Abs_ks A27 (i := 23) rfl).1) (t230 (by omega) A27 (rgn 0 rfl) e29) (fun w29 r29 A29 => ?_)
        rcases oi e with ⟨q30, e⟩ | ⟨q30, e⟩
        · refine hg_ifF (tgt := 82) rfl (by decide) r29 (show ¬ ¬ (v29.1 = 0) from fun f => f q30) ?_
          refine hg_run 1 (pc' := 81) (ls' := [some (vr 395), some (vi l1), some (vi (hI v3.2 395 17)), some (vi (hI v27.2 395 24))]) (st' := [vI 0]) rfl ?_
          cases e
          exact hg_retI rfl (by decide) (fit_B (.inl rfl)) (kr _ _ rfl _ (rgn 0 rfl) A29)
        · refine hg_ifT (tgt := 82) rfl (by decide) r29 (show ¬ (v29.1 = 0) from q30) ?_
          refine hg_run 6 (pc' := 89) (ls' := [some (vr 395), some (vi l1), some (vi (hI v3.2 395 17)), some (vi (hI v27.2 395 24))]) (st' := [vR 395, vI (hI v27.2 395 24), vI (hI v3.2 395 17), vI 40, vR 395, vR 395]) rfl ?_
          refine gs_395_21 rfl A29 ?_
          obtain ⟨v31, e31, e⟩ := ob e
          refine hg_cI (as := [vR 395, vI 40, vI (hI v3.2 395 17), vI (hI v27.2 395 24), vI (hI v29.2 395 21)]) (st' := [vR 395]) rfl (fun _ _ _ _ => rfl) rfl rfl (Nat.le_of_ble_eq_true rfl) (Nat.le_of_ble_eq_true rfl) (recvV A29 (a := 13) (Abs_ks A29 (i := 23) rfl).1) (t218 (by omega) A29 (rgn 40 rfl) (Abs_rg A3 395 17) (Abs_rg A27 395 24) (Abs_rg A29 395 21) e31) (fun w31 r31 A31 => ?_)
          obtain ⟨h32, e32, e⟩ := ob e
          refine ps_395_22 rfl A31 r31 e32 (fun w32 A32 => ?_)
          refine hg_run 1 (pc' := 99) (ls' := [some (vr 395), some (vi l1), some (vi (hI v3.2 395 17)), some (vi (hI v27.2 395 24))]) (st' := [vI 1]) rfl ?_
          cases e
          exact hg_retI rfl (by decide) (fit_B (.inr rfl)) (kr _ _ rfl _ (rgn 1 rfl) A32)
    · refine hg_icT (tgt := 100) rfl (by decide) rl1 (rgn 100 rfl) (show ¬ (l1 = 100) from q5) ?_
      refine hg_run 2 (pc' := 103) (ls' := [some (vr 395), some (vi l1), some (vi (hI v3.2 395 17)), z3]) (st' := [vI 116, vI l1]) rfl ?_
      rcases oi e with ⟨q6, e⟩ | ⟨q6, e⟩
      · refine hg_icF (tgt := 134) rfl (by decide) rl1 (rgn 116 rfl) (show ¬ ¬ (l1 = 116) from fun f => f q6) ?_
        refine hg_run 2 (pc' := 108) (ls' := [some (vr 395), some (vi l1), some (vi (hI v3.2 395 17)), z3]) (st' := [vI 1, vR 395]) rfl ?_
        obtain ⟨v23, e23, e⟩ := ob e
        refine hg_cI (as := [vR 395, vI 1]) (st' := []) rfl (fun _ _ _ _ => rfl) rfl rfl (Nat.le_of_ble_eq_true rfl) (Nat.le_of_ble_eq_true rfl) (recvV A3 (a := 13) (Abs_ks A3 (i := 23) rfl).1) (t230 (by omega) A3 (rgn 1 rfl) e23) (fun w23 r23 A23 => ?_)
        rcases oi e with ⟨q24, e⟩ | ⟨q24, e⟩
        · refine hg_ifF (tgt := 116) rfl (by decide) r23 (show ¬ ¬ (v23.1 = 0) from fun f => f q24) ?_
          refine hg_run 1 (pc' := 115) (ls' := [some (vr 395), some (vi l1), some (vi (hI v3.2 395 17)), z3]) (st' := [vI 0]) rfl ?_
          cases e
          exact hg_retI rfl (by decide) (fit_B (.inl rfl)) (kr _ _ rfl _ (rgn 0 rfl) A23)
        · refine hg_ifT (tgt := 116) rfl (by decide) r23 (show ¬ (v23.1 = 0) from q24) ?_
          refine hg_run 6 (pc' := 123) (ls' := [some (vr 395), some (vi l1), some (vi (hI v3.2 395 17)), z3]) (st' := [vR 395, vI 0, vI (hI v3.2 395 17), vI 41, vR 395, vR 395]) rfl ?_
          refine gs_395_21 rfl A23 ?_
          obtain ⟨v25, e25, e⟩ := ob e
          refine hg_cI (as := [vR 395, vI 41, vI (hI v3.2 395 17), vI 0, vI (hI v23.2 395 21)]) (st' := [vR 395]) rfl (fun _ _ _ _ => rfl) rfl rfl (Nat.le_of_ble_eq_true rfl) (Nat.le_of_ble_eq_true rfl) (recvV A23 (a := 13) (Abs_ks A23 (i := 23) rfl).1) (t218 (by omega) A23 (rgn 41 rfl) (Abs_rg A3 395 17) (rgn 0 rfl) (Abs_rg A23 395 21) e25) (fun w25 r25 A25 => ?_)
          obtain ⟨h26, e26, e⟩ := ob e
          refine ps_395_22 rfl A25 r25 e26 (fun w26 A26 => ?_)
          refine hg_run 1 (pc' := 133) (ls' := [some (vr 395), some (vi l1), some (vi (hI v3.2 395 17)), z3]) (st' := [vI 1]) rfl ?_
          cases e
          exact hg_retI rfl (by decide) (fit_B (.inr rfl)) (kr _ _ rfl _ (rgn 1 rfl) A26)
      · refine hg_icT (tgt := 134) rfl (by decide) rl1 (rgn 116 rfl) (show ¬ (l1 = 116) from q6) ?_
        refine hg_run 2 (pc' := 137) (ls' := [some (vr 395), some (vi l1), some (vi (hI v3.2 395 17)), z3]) (st' := [vI 121, vI l1]) rfl ?_
        rcases oi e with ⟨q7, e⟩ | ⟨q7, e⟩
        · refine hg_icF (tgt := 177) rfl (by decide) rl1 (rgn 121 rfl) (show ¬ ¬ (l1 = 121) from fun f => f q7) ?_
          refine hg_run 2 (pc' := 142) (ls' := [some (vr 395), some (vi l1), some (vi (hI v3.2 395 17)), z3]) (st' := [vI 0, vR 395]) rfl ?_
          obtain ⟨h16, e16, e⟩ := ob e
          refine ps_395_18 rfl A3 (rgn 0 rfl) e16 (fun w16 A16 => ?_)
          refine hg_run 1 (pc' := 146) (ls' := [some (vr 395), some (vi l1), some (vi (hI v3.2 395 17)), z3]) (st' := [vR 395]) rfl ?_
          obtain ⟨v17, e17, e⟩ := ob e
          refine hg_cI (as := [vR 395]) (st' := []) rfl (fun _ _ _ _ => rfl) rfl rfl (Nat.le_of_ble_eq_true rfl) (Nat.le_of_ble_eq_true rfl) (recvV A16 (a := 13) (Abs_ks A16 (i := 23) rfl).1) (u214 120 (by omega) 214 _ _ _ _ A16 rgl0 e17) (fun w17 r17 A17 => ?_)
          rcases oi e with ⟨q18, e⟩ | ⟨q18, e⟩
          · refine hg_ifF (tgt := 154) rfl (by decide) r17 (show ¬ ¬ (v17.1 = 0) from fun f => f q18) ?_
            refine hg_run 1 (pc' := 153) (ls' := [some (vr 395), some (vi l1), some (vi (hI v3.2 395 17)), z3]) (st' := [vI 0]) rfl ?_
            cases e
            exact hg_retI rfl (by decide) (fit_B (.inl rfl)) (kr _ _ rfl _ (rgn 0 rfl) A17)
          · refine hg_ifT (tgt := 154) rfl (by decide) r17 (show ¬ (v17.1 = 0) from q18) ?_
            refine hg_run 5 (pc' := 160) (ls' := [some (vr 395), some (vi l1), some (vi (hI v3.2 395 17)), z3]) (st' := [vR 395, vI (hI v3.2 395 17), vI 44, vR 395, vR 395]) rfl ?_
            refine gs_395_19 rfl A17 ?_
            refine hg_run 1 (pc' := 164) (ls' := [some (vr 395), some (vi l1), some (vi (hI v3.2 395 17)), z3]) (st' := [vI 0, vI (hI v17.2 395 19), vI (hI v3.2 395 17), vI 44, vR 395, vR 395]) rfl ?_
            obtain ⟨v19, e19, e⟩ := ob e
            refine hg_cI (as := [vR 395, vI 44, vI (hI v3.2 395 17), vI (hI v17.2 395 19), vI 0]) (st' := [vR 395]) rfl (fun _ _ _ _ => rfl) rfl rfl (Nat.le_of_ble_eq_true rfl) (Nat.le_of_ble_eq_true rfl) (recvV A17 (a := 13) (Abs_ks A17 (i := 23) rfl).1) (t218 (by omega) A17 (rgn 44 rfl) (Abs_rg A3 395 17) (Abs_rg A17 395 19) (rgn 0 rfl) e19) (fun w19 r19 A19 => ?_)
            obtain ⟨h20, e20, e⟩ := ob e
            refine ps_395_22 rfl A19 r19 e20 (fun w20 A20 => ?_)
            refine hg_run 2 (pc' := 173) (ls' := [some (vr 395), some (vi l1), some (vi (hI v3.2 395 17)), z3]) (st' := [vI 59, vR 395]) rfl ?_
            obtain ⟨v21, e21, e⟩ := ob e
            refine hg_cI (as := [vR 395, vI 59]) (st' := []) rfl (fun _ _ _ _ => rfl) rfl rfl (Nat.le_of_ble_eq_true rfl) (Nat.le_of_ble_eq_true rfl) (recvV A20 (a := 13) (Abs_ks A20 (i := 23) rfl).1) (t202 (by omega) A20 (rgn 59 rfl) e21) (fun w21 r21 A21 => ?_)
            obtain ⟨u22, e22, e⟩ := ob e
            cases e
            exact hg_retI rfl (by decide) (fit_B (kB_e e22)) (kr _ _ rfl _ r21 A21)
        · refine hg_icT (tgt := 177) rfl (by decide) rl1 (rgn 121 rfl) (show ¬ (l1 = 121) from q7) ?_
          refine hg_run 2 (pc' := 180) (ls' := [some (vr 395), some (vi l1), some (vi (hI v3.2 395 17)), z3]) (st' := [vI 118, vI l1]) rfl ?_
          rcases oi e with ⟨q8, e⟩ | ⟨q8, e⟩
          · refine hg_icF (tgt := 192) rfl (by decide) rl1 (rgn 118 rfl) (show ¬ ¬ (l1 = 118) from fun f => f q8) ?_
            refine hg_run 1 (pc' := 184) (ls' := [some (vr 395), some (vi l1), some (vi (hI v3.2 395 17)), z3]) (st' := [vR 395]) rfl ?_
            obtain ⟨v14, e14, e⟩ := ob e
            refine hg_cI (as := [vR 395]) (st' := []) rfl (fun _ _ _ _ => rfl) rfl rfl (Nat.le_of_ble_eq_true rfl) (Nat.le_of_ble_eq_true rfl) (recvV A3 (a := 13) (Abs_ks A3 (i := 23) rfl).1) (t229 (by omega) A3  e14) (fun w14 r14 A14 => ?_)
            rcases oi e with ⟨q15, e⟩ | ⟨q15, e⟩
            · refine hg_ifF (tgt := 192) rfl (by decide) r14 (show ¬ ¬ (v14.1 = 0) from fun f => f q15) ?_
              refine hg_run 1 (pc' := 191) (ls' := [some (vr 395), some (vi l1), some (vi (hI v3.2 395 17)), z3]) (st' := [vI 0]) rfl ?_
              cases e
              exact hg_retI rfl (by decide) (fit_B (.inl rfl)) (kr _ _ rfl _ (rgn 0 rfl) A14)
            · refine hg_ifT (tgt := 192) rfl (by decide) r14 (show ¬ (v14.1 = 0) from q15) ?_
              exact t228_j192 hd rl1 (Abs_rg A3 395 17) A14 e kr
          · refine hg_icT (tgt := 192) rfl (by decide) rl1 (rgn 118 rfl) (show ¬ (l1 = 118) from q8) ?_
            exact t228_j192 hd rl1 (Abs_rg A3 395 17) A3 e kr
def c228 (h : hS) : Option (Int × hS) :=
  if (hI h 395 3) = 100 then
  c228_j34 (hI h 395 3) h
  else
  (c191 (hI h 395 3) 116 118 h).bind (fun v33 =>
  if v33 = 0 then
  if (hI h 395 3) = 121 then
  c228_j34 (hI h 395 3) h
  else
  (c194 1 h).bind (fun v36 =>
  (kB v36.1).bind (fun u37 =>
  some (v36.1, v36.2)))
  else
  c228_j34 (hI h 395 3) h)
set_option maxRecDepth 100000 in
theorem t228 {d : Nat} (hd : 250 ≤ d)  {h : hS} {w : mmW} {o : Int × hS} (A : Abs h w)  (e : c228 h = some o) : hEv d 228 [vR 395] w (qI o) := by
  obtain ⟨d, rfl⟩ : ∃ d1, d = d1 + 1 := ⟨d - 1, by omega⟩
  have hd : 249 ≤ d := by omega
  refine hEv_start (args := [vr 395]) (nl := 4) rfl (Nat.le_of_ble_eq_true rfl) ?_
  show hG d 228 0 [some (vr 395), none, none, none] [] w _
  have kr : ∀ (v1 : Int) (h1 : hS), o = (v1, h1) → ∀ w', rg v1 → Abs h1 w' → qI o (some (.int (Int32.ofInt v1)), w') := fun v1 h1 q w' r A' => by cases q; exact ⟨rfl, r, A'⟩
  unfold c228 at e
  refine hg_run 1 (pc' := 1) (ls' := [some (vr 395), none, none, none]) (st' := [vR 395]) rfl ?_
  refine gs_395_3 rfl A ?_
  refine hg_run 3 (pc' := 8) (ls' := [some (vr 395), some (vi (hI h 395 3)), none, none]) (st' := [vI 100, vI (hI h 395 3)]) rfl ?_
  rcases oi e with ⟨q1, e⟩ | ⟨q1, e⟩
  · refine hg_icT (tgt := 34) rfl (by decide) (Abs_rg A 395 3) (rgn 100 rfl) q1 ?_
    exact t228_j34 hd (Abs_rg A 395 3) A e kr
  · refine hg_icF (tgt := 34) rfl (by decide) (Abs_rg A 395 3) (rgn 100 rfl) q1 ?_
    refine hg_run 3 (pc' := 16) (ls' := [some (vr 395), some (vi (hI h 395 3)), none, none]) (st' := [vI 118, vI 116, vI (hI h 395 3)]) rfl ?_
    obtain ⟨v33, e33, e⟩ := ob e
    refine hg_cIp (as := [vI (hI h 395 3), vI 116, vI 118]) (st' := []) rfl (fun _ _ _ _ => rfl) rfl rfl (Nat.le_of_ble_eq_true rfl) (Nat.le_of_ble_eq_true rfl) recv0 (t191 (by omega) A (Abs_rg A 395 3) (rgn 116 rfl) (rgn 118 rfl) e33) (fun r33 => ?_)
    rcases oi e with ⟨q34, e⟩ | ⟨q34, e⟩
    · refine hg_ifF (tgt := 34) rfl (by decide) r33 (show ¬ ¬ (v33 = 0) from fun f => f q34) ?_
      refine hg_run 2 (pc' := 25) (ls' := [some (vr 395), some (vi (hI h 395 3)), none, none]) (st' := [vI 121, vI (hI h 395 3)]) rfl ?_
      rcases oi e with ⟨q35, e⟩ | ⟨q35, e⟩
      · refine hg_icT (tgt := 34) rfl (by decide) (Abs_rg A 395 3) (rgn 121 rfl) q35 ?_
        exact t228_j34 hd (Abs_rg A 395 3) A e kr
      · refine hg_icF (tgt := 34) rfl (by decide) (Abs_rg A 395 3) (rgn 121 rfl) q35 ?_
        refine hg_run 2 (pc' := 30) (ls' := [some (vr 395), some (vi (hI h 395 3)), none, none]) (st' := [vI 1, vR 395]) rfl ?_
        obtain ⟨v36, e36, e⟩ := ob e
        refine hg_cI (as := [vR 395, vI 1]) (st' := []) rfl (fun _ _ _ _ => rfl) rfl rfl (Nat.le_of_ble_eq_true rfl) (Nat.le_of_ble_eq_true rfl) (recvV A (a := 13) (Abs_ks A (i := 23) rfl).1) (t194 (by omega) A (rgn 1 rfl) e36) (fun w36 r36 A36 => ?_)
        obtain ⟨u37, e37, e⟩ := ob e
        cases e
        exact hg_retI rfl (by decide) (fit_B (kB_e e37)) (kr _ _ rfl _ r36 A36)
    · refine hg_ifT (tgt := 34) rfl (by decide) r33 (show ¬ (v33 = 0) from q34) ?_
      exact t228_j34 hd (Abs_rg A 395 3) A e kr
def c227_b39 (l1 : Int) (l3 : Int) (h : hS) : Option ((Int × Int × hS) ⊕ (Int × hS)) :=
  if l1 = 0 then
  some (.inr (l1, h))
  else
  if (hI h 395 3) = 0 then
  some (.inr (l1, h))
  else
  (c228  h).bind (fun v6 =>
  if v6.1 = 0 then
  some (.inl (v6.1, l3, v6.2))
  else
  (c219 l3 (hI v6.2 395 22) v6.2).bind (fun h8 =>
  some (.inl (v6.1, (hI h8 395 22), h8))))
set_option maxRecDepth 100000 in
theorem t227_b39 {d : Nat} (hd : 250 ≤ d) {l1 : Int} {l3 : Int} {l2 : Int} {h : hS} {w : mmW} {o : (Int × Int × hS) ⊕ (Int × hS)} {Q : mmO → Prop} (rl1 : rg l1) (rl3 : rg l3) (A : Abs h w) (e : c227_b39 l1 l3 h = some o) (kb : ∀ (s_0 : Int) (s_1 : Int) (s_2 : hS), o = .inl (s_0, s_1, s_2) → ∀ w', rg s_0 → rg s_1 → Abs s_2 w' → hG d 227 39 [some (vr 395), some (vi s_0), some (vi l2), some (vi s_1)] [] w' Q) (ke : ∀ (x_0 : Int) (x_1 : hS), o = .inr (x_0, x_1) → ∀ w', ∀ (y3 : Option hO), rg x_0 → Abs x_1 w' → hG d 227 79 [some (vr 395), some (vi x_0), some (vi l2), y3] [] w' Q) : hG d 227 39 [some (vr 395), some (vi l1), some (vi l2), some (vi l3)] [] w Q := by
  unfold c227_b39 at e
  refine hg_run 1 (pc' := 40) (ls' := [some (vr 395), some (vi l1), some (vi l2), some (vi l3)]) (st' := [vI l1]) rfl ?_
  rcases oi e with ⟨q4, e⟩ | ⟨q4, e⟩
  · refine hg_ifT (tgt := 79) rfl (by decide) rl1 q4 ?_
    cases e
    exact ke l1 h rfl _ _ rl1 A
  · refine hg_ifF (tgt := 79) rfl (by decide) rl1 q4 ?_
    refine hg_run 1 (pc' := 44) (ls' := [some (vr 395), some (vi l1), some (vi l2), some (vi l3)]) (st' := [vR 395]) rfl ?_
    refine gs_395_3 rfl A ?_
    rcases oi e with ⟨q5, e⟩ | ⟨q5, e⟩
    · refine hg_ifT (tgt := 79) rfl (by decide) (Abs_rg A 395 3) q5 ?_
      cases e
      exact ke l1 h rfl _ _ rl1 A
    · refine hg_ifF (tgt := 79) rfl (by decide) (Abs_rg A 395 3) q5 ?_
      refine hg_run 1 (pc' := 51) (ls' := [some (vr 395), some (vi l1), some (vi l2), some (vi l3)]) (st' := [vR 395]) rfl ?_
      obtain ⟨v6, e6, e⟩ := ob e
      refine hg_cI (as := [vR 395]) (st' := []) rfl (fun _ _ _ _ => rfl) rfl rfl (Nat.le_of_ble_eq_true rfl) (Nat.le_of_ble_eq_true rfl) (recvV A (a := 13) (Abs_ks A (i := 23) rfl).1) (t228 (by omega) A  e6) (fun w6 r6 A6 => ?_)
      refine hg_run 2 (pc' := 56) (ls' := [some (vr 395), some (vi v6.1), some (vi l2), some (vi l3)]) (st' := [vI v6.1]) rfl ?_
      rcases oi e with ⟨q7, e⟩ | ⟨q7, e⟩
      · refine hg_ifF (tgt := 62) rfl (by decide) r6 (show ¬ ¬ (v6.1 = 0) from fun f => f q7) ?_
        refine hg_run 1 (pc' := 39) (ls' := [some (vr 395), some (vi v6.1), some (vi l2), some (vi l3)]) (st' := []) rfl ?_
        cases e
        exact kb v6.1 l3 v6.2 rfl _ r6 rl3 A6
      · refine hg_ifT (tgt := 62) rfl (by decide) r6 (show ¬ (v6.1 = 0) from q7) ?_
        refine hg_run 3 (pc' := 65) (ls' := [some (vr 395), some (vi v6.1), some (vi l2), some (vi l3)]) (st' := [vR 395, vI l3, vR 395]) rfl ?_
        refine gs_395_22 rfl A6 ?_
        obtain ⟨h8, e8, e⟩ := ob e
        refine hg_cV (as := [vR 395, vI l3, vI (hI v6.2 395 22)]) (st' := []) rfl (fun _ _ _ _ => rfl) rfl rfl (Nat.le_of_ble_eq_true rfl) (Nat.le_of_ble_eq_true rfl) (recvV A6 (a := 13) (Abs_ks A6 (i := 23) rfl).1) (t219 (by omega) A6 rl3 (Abs_rg A6 395 22) e8) (fun w8 A8 => ?_)
        refine hg_run 1 (pc' := 72) (ls' := [some (vr 395), some (vi v6.1), some (vi l2), some (vi l3)]) (st' := [vR 395]) rfl ?_
        refine gs_395_22 rfl A8 ?_
        refine hg_run 2 (pc' := 39) (ls' := [some (vr 395), some (vi v6.1), some (vi l2), some (vi (hI h8 395 22))]) (st' := []) rfl ?_
        cases e
        exact kb v6.1 (hI h8 395 22) h8 rfl _ r6 (Abs_rg A8 395 22) A8
set_option maxRecDepth 100000 in
theorem t227_l39 {d : Nat} (hd : 250 ≤ d)  {l2 : Int} {Q : mmO → Prop}  (n : Nat) {l1 : Int} {l3 : Int}  {h : hS} {w : mmW} {r : Int × hS} (rl1 : rg l1) (rl3 : rg l3) (A : Abs h w) (e : lp (fun s => c227_b39  s.1 s.2.1 s.2.2) n (l1, l3, h) = some r) (ke : ∀ (x_0 : Int) (x_1 : hS), r = (x_0, x_1) → ∀ w', ∀ (y3 : Option hO), rg x_0 → Abs x_1 w' → hG d 227 79 [some (vr 395), some (vi x_0), some (vi l2), y3] [] w' Q) : hG d 227 39 [some (vr 395), some (vi l1), some (vi l2), some (vi l3)] [] w Q := by
  induction n generalizing l1 l3 h w with
  | zero => cases e
  | succ n ih =>
    rcases lp_succ e with ⟨s1, e1, e2⟩ | e1
    · exact t227_b39 hd rl1 rl3 A e1 (fun s_0 s_1 s_2 q w1 rl1 rl3 A1 => by cases q; exact ih rl1 rl3 A1 e2) (fun x_0 x_1 q => by cases q)
    · exact t227_b39 hd rl1 rl3 A e1 (fun s_0 s_1 s_2 q => by cases q) (fun x_0 x_1 q => by cases q; exact ke _ _ rfl)
def c227 (h : hS) : Option (Int × hS) :=
  if (hI h 395 25) = 6 then
  (some (sI h 395 11 0)).bind (fun h16 =>
  (c224  h16).bind (fun h17 =>
  some ((-1), h17)))
  else
  (c184  h).bind (fun h2 =>
  (c228  h2).bind (fun v3 =>
  (lp (fun s => c227_b39  s.1 s.2.1 s.2.2) hF0 (v3.1, (hI v3.2 395 22), v3.2)).bind (fun r9 =>
  (c224  r9.2).bind (fun h10 =>
  if r9.1 = 0 then
  some ((-1), h10)
  else
  (c225 (wadd (hI h10 395 25) 1) h10).bind (fun h12 =>
  (wIs h12 401 6 (hI h12 395 25) (wadd (wmul 1200 (wadd (hI h12 395 25) 1)) (hI v3.2 395 22))).bind (fun h13 =>
  (wIs h13 402 6 (hI h13 395 25) 0).bind (fun h14 =>
  (some (sI h14 395 25 (wadd (hI h14 395 25) 1))).bind (fun h15 =>
  some ((wsub (hI h15 395 25) 1), h15)))))))))
set_option maxRecDepth 100000 in
theorem t227 {d : Nat} (hd : 251 ≤ d)  {h : hS} {w : mmW} {o : Int × hS} (A : Abs h w)  (e : c227 h = some o) : hEv d 227 [vR 395] w (qI o) := by
  obtain ⟨d, rfl⟩ : ∃ d1, d = d1 + 1 := ⟨d - 1, by omega⟩
  have hd : 250 ≤ d := by omega
  refine hEv_start (args := [vr 395]) (nl := 4) rfl (Nat.le_of_ble_eq_true rfl) ?_
  show hG d 227 0 [some (vr 395), none, none, none] [] w _
  have kr : ∀ (v1 : Int) (h1 : hS), o = (v1, h1) → ∀ w', rg v1 → Abs h1 w' → qI o (some (.int (Int32.ofInt v1)), w') := fun v1 h1 q w' r A' => by cases q; exact ⟨rfl, r, A'⟩
  unfold c227 at e
  refine hg_run 1 (pc' := 1) (ls' := [some (vr 395), none, none, none]) (st' := [vR 395]) rfl ?_
  refine gs_395_25 rfl A ?_
  refine hg_run 1 (pc' := 6) (ls' := [some (vr 395), none, none, none]) (st' := [vI 6, vI (hI h 395 25)]) rfl ?_
  rcases oi e with ⟨q1, e⟩ | ⟨q1, e⟩
  · refine hg_icF (tgt := 20) rfl (by decide) (Abs_rg A 395 25) (rgn 6 rfl) (show ¬ ¬ ((hI h 395 25) = 6) from fun f => f q1) ?_
    refine hg_run 2 (pc' := 11) (ls' := [some (vr 395), none, none, none]) (st' := [vI 0, vR 395]) rfl ?_
    obtain ⟨h16, e16, e⟩ := ob e
    refine ps_395_11 rfl A (rgn 0 rfl) e16 (fun w16 A16 => ?_)
    refine hg_run 1 (pc' := 15) (ls' := [some (vr 395), none, none, none]) (st' := [vR 395]) rfl ?_
    obtain ⟨h17, e17, e⟩ := ob e
    refine hg_cV (as := [vR 395]) (st' := []) rfl (fun _ _ _ _ => rfl) rfl rfl (Nat.le_of_ble_eq_true rfl) (Nat.le_of_ble_eq_true rfl) (recvV A16 (a := 13) (Abs_ks A16 (i := 23) rfl).1) (t224 (by omega) A16  e17) (fun w17 A17 => ?_)
    refine hg_run 1 (pc' := 19) (ls' := [some (vr 395), none, none, none]) (st' := [vI (-1)]) rfl ?_
    cases e
    exact hg_retI rfl (by decide) (fit_I _) (kr _ _ rfl _ (rgn (-1) rfl) A17)
  · refine hg_icT (tgt := 20) rfl (by decide) (Abs_rg A 395 25) (rgn 6 rfl) (show ¬ ((hI h 395 25) = 6) from q1) ?_
    refine hg_run 1 (pc' := 21) (ls' := [some (vr 395), none, none, none]) (st' := [vR 395]) rfl ?_
    obtain ⟨h2, e2, e⟩ := ob e
    refine hg_cV (as := [vR 395]) (st' := []) rfl (fun _ _ _ _ => rfl) rfl rfl (Nat.le_of_ble_eq_true rfl) (Nat.le_of_ble_eq_true rfl) (recvV A (a := 13) (Abs_ks A (i := 23) rfl).1) (t184 (by omega) A  e2) (fun w2 A2 => ?_)
    refine hg_run 1 (pc' := 25) (ls' := [some (vr 395), none, none, none]) (st' := [vR 395]) rfl ?_
    obtain ⟨v3, e3, e⟩ := ob e
    refine hg_cI (as := [vR 395]) (st' := []) rfl (fun _ _ _ _ => rfl) rfl rfl (Nat.le_of_ble_eq_true rfl) (Nat.le_of_ble_eq_true rfl) (recvV A2 (a := 13) (Abs_ks A2 (i := 23) rfl).1) (t228 (by omega) A2  e3) (fun w3 r3 A3 => ?_)
    refine hg_run 2 (pc' := 30) (ls' := [some (vr 395), some (vi v3.1), none, none]) (st' := [vR 395]) rfl ?_
    refine gs_395_22 rfl A3 ?_
    refine hg_run 2 (pc' := 35) (ls' := [some (vr 395), some (vi v3.1), some (vi (hI v3.2 395 22)), none]) (st' := [vR 395]) rfl ?_
    refine gs_395_22 rfl A3 ?_
    refine hg_run 1 (pc' := 39) (ls' := [some (vr 395), some (vi v3.1), some (vi (hI v3.2 395 22)), some (vi (hI v3.2 395 22))]) (st' := []) rfl ?_
    obtain ⟨r9, e9, e⟩ := ob e
    refine t227_l39 hd  _ r3 (Abs_rg A3 395 22) A3 e9 ?_
    intro x9_0 x9_1 qq9 w9 z9_3 q9_1 A9
    subst qq9
    try dsimp only at e
    refine hg_run 1 (pc' := 80) (ls' := [some (vr 395), some (vi x9_0), some (vi (hI v3.2 395 22)), z9_3]) (st' := [vR 395]) rfl ?_
    obtain ⟨h10, e10, e⟩ := ob e
    refine hg_cV (as := [vR 395]) (st' := []) rfl (fun _ _ _ _ => rfl) rfl rfl (Nat.le_of_ble_eq_true rfl) (Nat.le_of_ble_eq_true rfl) (recvV A9 (a := 13) (Abs_ks A9 (i := 23) rfl).1) (t224 (by omega) A9  e10) (fun w10 A10 => ?_)
    refine hg_run 1 (pc' := 84) (ls' := [some (vr 395), some (vi x9_0), some (vi (hI v3.2 395 22)), z9_3]) (st' := [vI x9_0]) rfl ?_
    rcases oi e with ⟨q11, e⟩ | ⟨q11, e⟩
    · refine hg_ifF (tgt := 89) rfl (by decide) q9_1 (show ¬ ¬ (x9_0 = 0) from fun f => f q11) ?_
      refine hg_run 1 (pc' := 88) (ls' := [some (vr 395), some (vi x9_0), some (vi (hI v3.2 395 22)), z9_3]) (st' := [vI (-1)]) rfl ?_
      cases e
      exact hg_retI rfl (by decide) (fit_I _) (kr _ _ rfl _ (rgn (-1) rfl) A10)
    · refine hg_ifT (tgt := 89) rfl (by decide) q9_1 (show ¬ (x9_0 = 0) from q11) ?_
      refine hg_run 2 (pc' := 91) (ls' := [some (vr 395), some (vi x9_0), some (vi (hI v3.2 395 22)), z9_3]) (st' := [vR 395, vR 395]) rfl ?_
      refine gs_395_25 rfl A10 ?_
      refine hg_run 2 (pc' := 96) (ls' := [some (vr 395), some (vi x9_0), some (vi (hI v3.2 395 22)), z9_3]) (st' := [vI (wadd (hI h10 395 25) 1), vR 395]) rfl ?_
      obtain ⟨h12, e12, e⟩ := ob e
      refine hg_cV (as := [vR 395, vI (wadd (hI h10 395 25) 1)]) (st' := []) rfl (fun _ _ _ _ => rfl) rfl rfl (Nat.le_of_ble_eq_true rfl) (Nat.le_of_ble_eq_true rfl) (recvV A10 (a := 13) (Abs_ks A10 (i := 23) rfl).1) (t225 (by omega) A10 (rg_add _ _) e12) (fun w12 A12 => ?_)
      refine hg_run 1 (pc' := 100) (ls' := [some (vr 395), some (vi x9_0), some (vi (hI v3.2 395 22)), z9_3]) (st' := [vR 395]) rfl ?_
      refine gs_395_31 rfl A12 ?_
      refine hg_run 1 (pc' := 104) (ls' := [some (vr 395), some (vi x9_0), some (vi (hI v3.2 395 22)), z9_3]) (st' := [vR 395, vR 401]) rfl ?_
      refine gs_395_25 rfl A12 ?_
      refine hg_run 2 (pc' := 111) (ls' := [some (vr 395), some (vi x9_0), some (vi (hI v3.2 395 22)), z9_3]) (st' := [vR 395, vI 1200, vI (hI h12 395 25), vR 401]) rfl ?_
      refine gs_395_25 rfl A12 ?_
      refine hg_run 5 (pc' := 119) (ls' := [some (vr 395), some (vi x9_0), some (vi (hI v3.2 395 22)), z9_3]) (st' := [vI (wadd (wmul 1200 (wadd (hI h12 395 25) 1)) (hI v3.2 395 22)), vI (hI h12 395 25), vR 401]) rfl ?_
      obtain ⟨h13, e13, e⟩ := ob e
      refine hg_wIs rfl A12 (Abs_ks A12 (i := 29) rfl) (by decide) (rg_add _ _) e13 (fun w13 A13 => ?_)
      refine hg_run 1 (pc' := 121) (ls' := [some (vr 395), some (vi x9_0), some (vi (hI v3.2 395 22)), z9_3]) (st' := [vR 395]) rfl ?_
      refine gs_395_32 rfl A13 ?_
      refine hg_run 1 (pc' := 125) (ls' := [some (vr 395), some (vi x9_0), some (vi (hI v3.2 395 22)), z9_3]) (st' := [vR 395, vR 402]) rfl ?_
      refine gs_395_25 rfl A13 ?_
      refine hg_run 1 (pc' := 129) (ls' := [some (vr 395), some (vi x9_0), some (vi (hI v3.2 395 22)), z9_3]) (st' := [vI 0, vI (hI h13 395 25), vR 402]) rfl ?_
      obtain ⟨h14, e14, e⟩ := ob e
      refine hg_wIs rfl A13 (Abs_ks A13 (i := 30) rfl) (by decide) (rgn 0 rfl) e14 (fun w14 A14 => ?_)
      refine hg_run 2 (pc' := 132) (ls' := [some (vr 395), some (vi x9_0), some (vi (hI v3.2 395 22)), z9_3]) (st' := [vR 395, vR 395]) rfl ?_
      refine gs_395_25 rfl A14 ?_
      refine hg_run 2 (pc' := 137) (ls' := [some (vr 395), some (vi x9_0), some (vi (hI v3.2 395 22)), z9_3]) (st' := [vI (wadd (hI h14 395 25) 1), vR 395]) rfl ?_
      obtain ⟨h15, e15, e⟩ := ob e
      refine ps_395_25 rfl A14 (rg_add _ _) e15 (fun w15 A15 => ?_)
      refine hg_run 1 (pc' := 141) (ls' := [some (vr 395), some (vi x9_0), some (vi (hI v3.2 395 22)), z9_3]) (st' := [vR 395]) rfl ?_
      refine gs_395_25 rfl A15 ?_
      refine hg_run 2 (pc' := 146) (ls' := [some (vr 395), some (vi x9_0), some (vi (hI v3.2 395 22)), z9_3]) (st' := [vI (wsub (hI h15 395 25) 1)]) rfl ?_
      cases e
      exact hg_retI rfl (by decide) (fit_I _) (kr _ _ rfl _ (rg_sub _ _) A15)
def c232 (l1 : Int) (h : hS) : Option (Int) :=
  if l1 = 0 then
  some (hI h 395 13)
  else
  if l1 = 1 then
  some (hI h 395 14)
  else
  some (-1)
theorem t232 {d : Nat} (hd : 1 ≤ d) {l1 : Int} {h : hS} {w : mmW} {o : Int} (A : Abs h w) (rl1 : rg l1) (e : c232 l1 h = some o) : hEv d 232 [vR 395, vI l1] w (qIp o w) := by
  obtain ⟨d, rfl⟩ : ∃ d1, d = d1 + 1 := ⟨d - 1, by omega⟩
  have hd : 0 ≤ d := by omega
  refine hEv_start (args := [vr 395, vi l1]) (nl := 2) rfl (Nat.le_of_ble_eq_true rfl) ?_
  show hG d 232 0 [some (vr 395), some (vi l1)] [] w _
  have kr : ∀ v1 : Int, o = v1 → rg v1 → qIp o w (some (.int (Int32.ofInt v1)), w) := fun v1 q r => by cases q; exact ⟨rfl, r⟩
  unfold c232 at e
  refine hg_run 1 (pc' := 1) (ls' := [some (vr 395), some (vi l1)]) (st' := [vI l1]) rfl ?_
  rcases oi e with ⟨q1, e⟩ | ⟨q1, e⟩
  · refine hg_ifF (tgt := 11) rfl (by decide) rl1 (show ¬ ¬ (l1 = 0) from fun f => f q1) ?_
    refine hg_run 1 (pc' := 5) (ls' := [some (vr 395), some (vi l1)]) (st' := [vR 395]) rfl ?_
    refine gs_395_13 rfl A ?_
    refine hg_run 1 (pc' := 24) (ls' := [some (vr 395), some (vi l1)]) (st' := [vI (hI h 395 13)]) rfl ?_
    cases e
    exact hg_retI rfl (by decide) (fit_I _) (kr _ rfl (Abs_rg A 395 13))
  · refine hg_ifT (tgt := 11) rfl (by decide) rl1 (show ¬ (l1 = 0) from q1) ?_
    refine hg_run 2 (pc' := 13) (ls' := [some (vr 395), some (vi l1)]) (st' := [vI 1, vI l1]) rfl ?_
    rcases oi e with ⟨q2, e⟩ | ⟨q2, e⟩
    · refine hg_icF (tgt := 23) rfl (by decide) rl1 (rgn 1 rfl) (show ¬ ¬ (l1 = 1) from fun f => f q2) ?_
      refine hg_run 1 (pc' := 17) (ls' := [some (vr 395), some (vi l1)]) (st' := [vR 395]) rfl ?_
      refine gs_395_14 rfl A ?_
      refine hg_run 1 (pc' := 24) (ls' := [some (vr 395), some (vi l1)]) (st' := [vI (hI h 395 14)]) rfl ?_
      cases e
      exact hg_retI rfl (by decide) (fit_I _) (kr _ rfl (Abs_rg A 395 14))
    · refine hg_icT (tgt := 23) rfl (by decide) rl1 (rgn 1 rfl) (show ¬ (l1 = 1) from q2) ?_
      refine hg_run 1 (pc' := 24) (ls' := [some (vr 395), some (vi l1)]) (st' := [vI (-1)]) rfl ?_
      cases e
      exact hg_retI rfl (by decide) (fit_I _) (kr _ rfl (rgn (-1) rfl))
