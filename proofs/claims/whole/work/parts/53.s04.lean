/-! read as functions: laid by wip/whole/shallow.py -/
def c142_b3 (l1 : Nat) (l3 : Nat) (l4 : Int) (h : hS) : Option ((Int × hS) ⊕ ((hS) ⊕ (Int × hS))) :=
  (gR h l1 26 0).bind (fun v1 =>
  (kT h v1 8).bind (fun u3 =>
  (c143 v1 h).bind (fun v2 =>
  if v2 ≤ l4 then
  some (.inr (.inl (h)))
  else
  (gR h l1 26 0).bind (fun v5 =>
  (kT h v5 8).bind (fun u7 =>
  (c144 v5 l4 h).bind (fun v6 =>
  (cC h v6 22).bind (fun u8 =>
  (kT h l3 18).bind (fun u10 =>
  (c147 l3 v6 h).bind (fun v9 =>
  if v9.1 = 0 then
  some (.inl ((wadd l4 1), v9.2))
  else
  (gI v9.2 v6 22 1).bind (fun v12 =>
  (c151 v9.1 v12 (-1) v9.2).bind (fun v13 =>
  (kB v13.1).bind (fun u14 =>
  some (.inr (.inr (v13.1, v13.2)))))))))))))))
theorem t142_b3 {d : Nat} (hd : 5 ≤ d) {l1 : Nat} {l3 : Nat} {l4 : Int} {l2 : Nat} {z5 : Option hO} {z6 : Option hO} {h : hS} {w : mmW} {o : (Int × hS) ⊕ ((hS) ⊕ (Int × hS))} {Q : mmO → Prop} (rl4 : rg l4) (A : Abs h w) (e : c142_b3 l1 l3 l4 h = some o) (kb : ∀ (s_0 : Int) (s_1 : hS), o = .inl (s_0, s_1) → ∀ w', ∀ (y5 y6 : Option hO), rg s_0 → Abs s_1 w' → hG d 142 3 [some (vr 48), some (vr l1), some (vr l2), some (vr l3), some (vi s_0), y5, y6] [] w' Q) (ke : ∀ (x_0 : hS), o = .inr (.inl (x_0)) → ∀ w', ∀ (y4 y5 y6 : Option hO), Abs x_0 w' → hG d 142 61 [some (vr 48), some (vr l1), some (vr l2), some (vr l3), y4, y5, y6] [] w' Q) (kr : ∀ (v1 : Int) (h1 : hS), o = .inr (.inr (v1, h1)) → ∀ w', rg v1 → Abs h1 w' → Q (some (.int (Int32.ofInt v1)), w')) : hG d 142 3 [some (vr 48), some (vr l1), some (vr l2), some (vr l3), some (vi l4), z5, z6] [] w Q := by
  unfold c142_b3 at e
  refine hg_run 2 (pc' := 6) (ls' := [some (vr 48), some (vr l1), some (vr l2), some (vr l3), some (vi l4), z5, z6]) (st' := [vR l1, vI l4]) rfl ?_
  obtain ⟨v1, e1, e⟩ := ob e
  refine gd_12_0 rfl A e1 ?_
  obtain ⟨u3, e3, e⟩ := ob e
  obtain ⟨v2, e2, e⟩ := ob e
  refine hg_cIp (as := [vR v1]) (st' := [vI l4]) rfl (fun _ _ _ _ => rfl) rfl rfl (Nat.le_of_ble_eq_true rfl) (Nat.le_of_ble_eq_true rfl) (recvV A (a := 3) (kT_e e3)) (t143 (by omega) A  e2) (fun r2 => ?_)
  rcases oi e with ⟨q4, e⟩ | ⟨q4, e⟩
  · refine hg_icT (tgt := 61) rfl (by decide) rl4 r2 q4 ?_
    cases e
    exact ke h rfl _ _ _ _  A
  · refine hg_icF (tgt := 61) rfl (by decide) rl4 r2 q4 ?_
    refine hg_run 1 (pc' := 16) (ls' := [some (vr 48), some (vr l1), some (vr l2), some (vr l3), some (vi l4), z5, z6]) (st' := [vR l1]) rfl ?_
    obtain ⟨v5, e5, e⟩ := ob e
    refine gd_12_0 rfl A e5 ?_
    refine hg_run 1 (pc' := 21) (ls' := [some (vr 48), some (vr l1), some (vr l2), some (vr l3), some (vi l4), z5, z6]) (st' := [vI l4, vR v5]) rfl ?_
    obtain ⟨u7, e7, e⟩ := ob e
    obtain ⟨v6, e6, e⟩ := ob e
    refine hg_cRp (as := [vR v5, vI l4]) (st' := []) rfl (fun _ _ _ _ => rfl) rfl rfl (Nat.le_of_ble_eq_true rfl) (Nat.le_of_ble_eq_true rfl) (recvV A (a := 3) (kT_e e7)) (t144 (by omega) A rl4 e6) ?_
    obtain ⟨u8, e8, e⟩ := ob e
    refine hg_cast rfl A (cC_e e8) ?_
    refine hg_run 3 (pc' := 32) (ls' := [some (vr 48), some (vr l1), some (vr l2), some (vr l3), some (vi l4), some (vr v6), z6]) (st' := [vR v6, vR l3]) rfl ?_
    obtain ⟨u10, e10, e⟩ := ob e
    obtain ⟨v9, e9, e⟩ := ob e
    refine hg_cI (as := [vR l3, vR v6]) (st' := []) rfl (fun _ _ _ _ => rfl) rfl rfl (Nat.le_of_ble_eq_true rfl) (Nat.le_of_ble_eq_true rfl) (recvV A (a := 8) (kT_e e10)) (t147 (by omega) A  e9) (fun w9 r9 A9 => ?_)
    refine hg_run 2 (pc' := 39) (ls' := [some (vr 48), some (vr l1), some (vr l2), some (vr l3), some (vi l4), some (vr v6), some (vi v9.1)]) (st' := [vI v9.1]) rfl ?_
    rcases oi e with ⟨q11, e⟩ | ⟨q11, e⟩
    · refine hg_ifT (tgt := 55) rfl (by decide) r9 q11 ?_
      refine hg_run 2 (pc' := 3) (ls' := [some (vr 48), some (vr l1), some (vr l2), some (vr l3), some (vi (wadd l4 1)), some (vr v6), some (vi v9.1)]) (st' := []) rfl ?_
      cases e
      exact kb (wadd l4 1) v9.2 rfl _ _ _ (rg_add _ _) A9
    · refine hg_ifF (tgt := 55) rfl (by decide) r9 q11 ?_
      refine hg_run 3 (pc' := 47) (ls' := [some (vr 48), some (vr l1), some (vr l2), some (vr l3), some (vi l4), some (vr v6), some (vi v9.1)]) (st' := [vR v6, vI v9.1, vR 48]) rfl ?_
      obtain ⟨v12, e12, e⟩ := ob e
      refine gd_10_1 rfl A9 e12 (fun r12 => ?_)
      refine hg_run 1 (pc' := 51) (ls' := [some (vr 48), some (vr l1), some (vr l2), some (vr l3), some (vi l4), some (vr v6), some (vi v9.1)]) (st' := [vI (-1), vI v12, vI v9.1, vR 48]) rfl ?_
      obtain ⟨v13, e13, e⟩ := ob e
      refine hg_cI (as := [vR 48, vI v9.1, vI v12, vI (-1)]) (st' := []) rfl (fun _ _ _ _ => rfl) rfl rfl (Nat.le_of_ble_eq_true rfl) (Nat.le_of_ble_eq_true rfl) (recvV A9 (a := 6) (Abs_ks A9 (i := 18) rfl).1) (t151 (by omega) A9 r9 r12 (rgn (-1) rfl) e13) (fun w13 r13 A13 => ?_)
      obtain ⟨u14, e14, e⟩ := ob e
      cases e
      exact hg_retI rfl (by decide) (fit_B (kB_e e14)) (kr _ _ rfl _ r13 A13)
theorem t142_l3 {d : Nat} (hd : 5 ≤ d) {l1 : Nat} {l3 : Nat} {l2 : Nat} {Q : mmO → Prop}  (n : Nat) {l4 : Int} {z5 z6 : Option hO} {h : hS} {w : mmW} {r : (hS) ⊕ (Int × hS)} (rl4 : rg l4) (A : Abs h w) (e : lp (fun s => c142_b3 l1 l3 s.1 s.2) n (l4, h) = some r) (ke : ∀ (x_0 : hS), r = .inl (x_0) → ∀ w', ∀ (y4 y5 y6 : Option hO), Abs x_0 w' → hG d 142 61 [some (vr 48), some (vr l1), some (vr l2), some (vr l3), y4, y5, y6] [] w' Q) (kr : ∀ (v1 : Int) (h1 : hS), r = .inr (v1, h1) → ∀ w', rg v1 → Abs h1 w' → Q (some (.int (Int32.ofInt v1)), w')) : hG d 142 3 [some (vr 48), some (vr l1), some (vr l2), some (vr l3), some (vi l4), z5, z6] [] w Q := by
  induction n generalizing l4 z5 z6 h w with
  | zero => cases e
  | succ n ih =>
    rcases lp_succ e with ⟨s1, e1, e2⟩ | e1
    · exact t142_b3 hd rl4 A e1 (fun s_0 s_1 q w1 y5 y6 rl4 A1 => by cases q; exact ih rl4 A1 e2) (fun x_0 q => by cases q) (fun v0 h0 q => by cases q)
    · exact t142_b3 hd rl4 A e1 (fun s_0 s_1 q => by cases q) (fun x_0 q => by cases q; exact ke _ rfl) (fun v0 h0 q => by cases q; exact kr _ _ rfl)
def c142 (l1 : Nat) (l2 : Nat) (l3 : Nat) (h : hS) : Option (Int × hS) :=
  (lp (fun s => c142_b3 l1 l3 s.1 s.2) hF0 (0, h)).bind (fun r15 => xs r15 (fun x15 =>
  (kT x15 l3 18).bind (fun u17 =>
  (c152 l3 x15).bind (fun v16 =>
  if v16 = 0 then
  (kT x15 l3 18).bind (fun u20 =>
  (c88 l3 l2 (wadd (hI x15 48 9) 1) x15).bind (fun h19 =>
  some (1, h19)))
  else
  (c151 8 (-1) (-1) x15).bind (fun v21 =>
  (kB v21.1).bind (fun u22 =>
  some (v21.1, v21.2)))))) (fun o15 => some o15))
theorem t142 {d : Nat} (hd : 6 ≤ d) {l1 : Nat} {l2 : Nat} {l3 : Nat} {h : hS} {w : mmW} {o : Int × hS} (A : Abs h w)  (e : c142 l1 l2 l3 h = some o) : hEv d 142 [vR 48, vR l1, vR l2, vR l3] w (qI o) := by
  obtain ⟨d, rfl⟩ : ∃ d1, d = d1 + 1 := ⟨d - 1, by omega⟩
  have hd : 5 ≤ d := by omega
  refine hEv_start (args := [vr 48, vr l1, vr l2, vr l3]) (nl := 7) rfl (Nat.le_of_ble_eq_true rfl) ?_
  show hG d 142 0 [some (vr 48), some (vr l1), some (vr l2), some (vr l3), none, none, none] [] w _
  have kr : ∀ (v1 : Int) (h1 : hS), o = (v1, h1) → ∀ w', rg v1 → Abs h1 w' → qI o (some (.int (Int32.ofInt v1)), w') := fun v1 h1 q w' r A' => by cases q; exact ⟨rfl, r, A'⟩
  unfold c142 at e
  refine hg_run 2 (pc' := 3) (ls' := [some (vr 48), some (vr l1), some (vr l2), some (vr l3), some (vi 0), none, none]) (st' := []) rfl ?_
  obtain ⟨r15, e15, e⟩ := ob e
  refine t142_l3 hd  _ (rgn 0 rfl) A e15 ?_ ?_
  · intro x15_0 qq15 w15 z15_4 z15_5 z15_6 A15
    subst qq15
    have e := xs_l e
    refine hg_run 1 (pc' := 62) (ls' := [some (vr 48), some (vr l1), some (vr l2), some (vr l3), z15_4, z15_5, z15_6]) (st' := [vR l3]) rfl ?_
    obtain ⟨u17, e17, e⟩ := ob e
    obtain ⟨v16, e16, e⟩ := ob e
    refine hg_cIp (as := [vR l3]) (st' := []) rfl (fun _ _ _ _ => rfl) rfl rfl (Nat.le_of_ble_eq_true rfl) (Nat.le_of_ble_eq_true rfl) (recvV A15 (a := 8) (kT_e e17)) (t152 (by omega) A15  e16) (fun r16 => ?_)
    rcases oi e with ⟨q18, e⟩ | ⟨q18, e⟩
    · refine hg_ifT (tgt := 77) rfl (by decide) r16 q18 ?_
      refine hg_run 3 (pc' := 80) (ls' := [some (vr 48), some (vr l1), some (vr l2), some (vr l3), z15_4, z15_5, z15_6]) (st' := [vR 48, vR l2, vR l3]) rfl ?_
      refine gs_48_9 rfl A15 ?_
      refine hg_run 2 (pc' := 85) (ls' := [some (vr 48), some (vr l1), some (vr l2), some (vr l3), z15_4, z15_5, z15_6]) (st' := [vI (wadd (hI x15_0 48 9) 1), vR l2, vR l3]) rfl ?_
      obtain ⟨u20, e20, e⟩ := ob e
      obtain ⟨h19, e19, e⟩ := ob e
      refine hg_cV (as := [vR l3, vR l2, vI (wadd (hI x15_0 48 9) 1)]) (st' := []) rfl (fun _ _ _ _ => rfl) rfl rfl (Nat.le_of_ble_eq_true rfl) (Nat.le_of_ble_eq_true rfl) (recvV A15 (a := 8) (kT_e e20)) (t88 (by omega) A15 (rg_add _ _) e19) (fun w19 A19 => ?_)
      refine hg_run 1 (pc' := 89) (ls' := [some (vr 48), some (vr l1), some (vr l2), some (vr l3), z15_4, z15_5, z15_6]) (st' := [vI 1]) rfl ?_
      cases e
      exact hg_retI rfl (by decide) (fit_B (.inr rfl)) (kr _ _ rfl _ (rgn 1 rfl) A19)
    · refine hg_ifF (tgt := 77) rfl (by decide) r16 q18 ?_
      refine hg_run 4 (pc' := 73) (ls' := [some (vr 48), some (vr l1), some (vr l2), some (vr l3), z15_4, z15_5, z15_6]) (st' := [vI (-1), vI (-1), vI 8, vR 48]) rfl ?_
      obtain ⟨v21, e21, e⟩ := ob e
      refine hg_cI (as := [vR 48, vI 8, vI (-1), vI (-1)]) (st' := []) rfl (fun _ _ _ _ => rfl) rfl rfl (Nat.le_of_ble_eq_true rfl) (Nat.le_of_ble_eq_true rfl) (recvV A15 (a := 6) (Abs_ks A15 (i := 18) rfl).1) (t151 (by omega) A15 (rgn 8 rfl) (rgn (-1) rfl) (rgn (-1) rfl) e21) (fun w21 r21 A21 => ?_)
      obtain ⟨u22, e22, e⟩ := ob e
      cases e
      exact hg_retI rfl (by decide) (fit_B (kB_e e22)) (kr _ _ rfl _ r21 A21)
  · intro v15 h15 qq15 w15 r15 A15
    subst qq15
    have e := xs_r e
    cases e
    exact kr _ _ rfl w15 r15 A15
def c154 (l0 : Nat) (l1 : Nat) (h : hS) : Option (hS) :=
  (gI h l1 16 1).bind (fun v1 =>
  (kB v1).bind (fun u3 =>
  (pI h l0 16 1 v1).bind (fun h2 =>
  (gR h2 l1 16 2).bind (fun v4 =>
  (pR h2 l0 16 2 v4).bind (fun h5 =>
  (gR h5 l1 16 3).bind (fun v6 =>
  (gR h5 l0 16 3).bind (fun v7 =>
  (cpI h5 v6 v7 1 0 0 40).bind (fun h8 =>
  (gR h8 l1 16 4).bind (fun v9 =>
  (gR h8 l0 16 4).bind (fun v10 =>
  (cpI h8 v9 v10 3 0 0 40).bind (fun h11 =>
  (gR h11 l1 16 5).bind (fun v12 =>
  (gR h11 l0 16 5).bind (fun v13 =>
  (cpI h11 v12 v13 1 0 0 40).bind (fun h14 =>
  some h14))))))))))))))
theorem t154 {d : Nat} (hd : 1 ≤ d) {l0 : Nat} {l1 : Nat} {h : hS} {w : mmW} {o : hS} (A : Abs h w)  (e : c154 l0 l1 h = some o) : hEv d 154 [vR l0, vR l1] w (qV o) := by
  obtain ⟨d, rfl⟩ : ∃ d1, d = d1 + 1 := ⟨d - 1, by omega⟩
  have hd : 0 ≤ d := by omega
  refine hEv_start (args := [vr l0, vr l1]) (nl := 2) rfl (Nat.le_of_ble_eq_true rfl) ?_
  show hG d 154 0 [some (vr l0), some (vr l1)] [] w _
  have kr : ∀ h1 : hS, o = h1 → ∀ w', Abs h1 w' → qV o (none, w') := fun h1 q w' A' => by cases q; exact ⟨rfl, A'⟩
  unfold c154 at e
  refine hg_run 2 (pc' := 2) (ls' := [some (vr l0), some (vr l1)]) (st' := [vR l1, vR l0]) rfl ?_
  obtain ⟨v1, e1, e⟩ := ob e
  refine gd_7_1 rfl A e1 (fun r1 => ?_)
  obtain ⟨u3, e3, e⟩ := ob e
  obtain ⟨h2, e2, e⟩ := ob e
  refine pd_7_1 rfl A r1 (kB_e e3) e2 (fun w2 A2 => ?_)
  refine hg_run 2 (pc' := 10) (ls' := [some (vr l0), some (vr l1)]) (st' := [vR l1, vR l0]) rfl ?_
  obtain ⟨v4, e4, e⟩ := ob e
  refine gd_7_2 rfl A2 e4 ?_
  obtain ⟨h5, e5, e⟩ := ob e
  refine pd_7_2 rfl A2 e5 (fun w5 A5 => ?_)
  refine hg_run 1 (pc' := 17) (ls' := [some (vr l0), some (vr l1)]) (st' := [vR l1]) rfl ?_
  obtain ⟨v6, e6, e⟩ := ob e
  refine gd_7_3 rfl A5 e6 ?_
  refine hg_run 2 (pc' := 22) (ls' := [some (vr l0), some (vr l1)]) (st' := [vR l0, vI 0, vR v6]) rfl ?_
  obtain ⟨v7, e7, e⟩ := ob e
  refine gd_7_3 rfl A5 e7 ?_
  refine hg_run 2 (pc' := 28) (ls' := [some (vr l0), some (vr l1)]) (st' := [vI 40, vI 0, vR v7, vI 0, vR v6]) rfl ?_
  obtain ⟨h8, e8, e⟩ := ob e
  refine hg_cpI (t := 0) rfl A5 (by decide) (Nat.le_of_ble_eq_true rfl) e8 (fun w8 A8 => ?_)
  refine hg_run 1 (pc' := 32) (ls' := [some (vr l0), some (vr l1)]) (st' := [vR l1]) rfl ?_
  obtain ⟨v9, e9, e⟩ := ob e
  refine gd_7_4 rfl A8 e9 ?_
  refine hg_run 2 (pc' := 37) (ls' := [some (vr l0), some (vr l1)]) (st' := [vR l0, vI 0, vR v9]) rfl ?_
  obtain ⟨v10, e10, e⟩ := ob e
  refine gd_7_4 rfl A8 e10 ?_
  refine hg_run 2 (pc' := 43) (ls' := [some (vr l0), some (vr l1)]) (st' := [vI 40, vI 0, vR v10, vI 0, vR v9]) rfl ?_
  obtain ⟨h11, e11, e⟩ := ob e
  refine hg_cpI (t := 1) rfl A8 (by decide) (Nat.le_of_ble_eq_true rfl) e11 (fun w11 A11 => ?_)
  refine hg_run 1 (pc' := 47) (ls' := [some (vr l0), some (vr l1)]) (st' := [vR l1]) rfl ?_
  obtain ⟨v12, e12, e⟩ := ob e
  refine gd_7_5 rfl A11 e12 ?_
  refine hg_run 2 (pc' := 52) (ls' := [some (vr l0), some (vr l1)]) (st' := [vR l0, vI 0, vR v12]) rfl ?_
  obtain ⟨v13, e13, e⟩ := ob e
  refine gd_7_5 rfl A11 e13 ?_
  refine hg_run 2 (pc' := 58) (ls' := [some (vr l0), some (vr l1)]) (st' := [vI 40, vI 0, vR v13, vI 0, vR v12]) rfl ?_
  obtain ⟨h14, e14, e⟩ := ob e
  refine hg_cpI (t := 0) rfl A11 (by decide) (Nat.le_of_ble_eq_true rfl) e14 (fun w14 A14 => ?_)
  cases e
  exact hg_retV rfl (kr _ rfl _ A14)
def c156_b5 (l0 : Nat) (l1 : Int) (l3 : Int) (l2 : Int) (h : hS) : Option ((Int × hS) ⊕ (hS)) :=
  if l3 ≤ l2 then
  some (.inr (h))
  else
  (wI h l0 1 l2 l1).bind (fun h3 =>
  some (.inl ((wadd l2 1), h3)))
theorem t156_b5 {d : Nat} (hd : 0 ≤ d) {l0 : Nat} {l1 : Int} {l3 : Int} {l2 : Int}  {h : hS} {w : mmW} {o : (Int × hS) ⊕ (hS)} {Q : mmO → Prop} (rl1 : rg l1) (rl3 : rg l3) (rl2 : rg l2) (A : Abs h w) (e : c156_b5 l0 l1 l3 l2 h = some o) (kb : ∀ (s_0 : Int) (s_1 : hS), o = .inl (s_0, s_1) → ∀ w', rg s_0 → Abs s_1 w' → hG d 156 5 [some (vr l0), some (vi l1), some (vi s_0), some (vi l3)] [] w' Q) (ke : ∀ (x_0 : hS), o = .inr (x_0) → ∀ w', ∀ (y2 : Option hO), Abs x_0 w' → hG d 156 20 [some (vr l0), some (vi l1), y2, some (vi l3)] [] w' Q) : hG d 156 5 [some (vr l0), some (vi l1), some (vi l2), some (vi l3)] [] w Q := by
  unfold c156_b5 at e
  refine hg_run 2 (pc' := 7) (ls' := [some (vr l0), some (vi l1), some (vi l2), some (vi l3)]) (st' := [vI l3, vI l2]) rfl ?_
  rcases oi e with ⟨q2, e⟩ | ⟨q2, e⟩
  · refine hg_icT (tgt := 20) rfl (by decide) rl2 rl3 q2 ?_
    cases e
    exact ke h rfl _ _  A
  · refine hg_icF (tgt := 20) rfl (by decide) rl2 rl3 q2 ?_
    refine hg_run 3 (pc' := 13) (ls' := [some (vr l0), some (vi l1), some (vi l2), some (vi l3)]) (st' := [vI l1, vI l2, vR l0]) rfl ?_
    obtain ⟨h3, e3, e⟩ := ob e
    refine hg_wId rfl A rl1 e3 (fun w3 A3 => ?_)
    refine hg_run 2 (pc' := 5) (ls' := [some (vr l0), some (vi l1), some (vi (wadd l2 1)), some (vi l3)]) (st' := []) rfl ?_
    cases e
    exact kb (wadd l2 1) h3 rfl _ (rg_add _ _) A3
theorem t156_l5 {d : Nat} (hd : 0 ≤ d) {l0 : Nat} {l1 : Int} {l3 : Int}  {Q : mmO → Prop} (rl1 : rg l1) (rl3 : rg l3) (n : Nat) {l2 : Int}  {h : hS} {w : mmW} {r : hS} (rl2 : rg l2) (A : Abs h w) (e : lp (fun s => c156_b5 l0 l1 l3 s.1 s.2) n (l2, h) = some r) (ke : ∀ (x_0 : hS), r = (x_0) → ∀ w', ∀ (y2 : Option hO), Abs x_0 w' → hG d 156 20 [some (vr l0), some (vi l1), y2, some (vi l3)] [] w' Q) : hG d 156 5 [some (vr l0), some (vi l1), some (vi l2), some (vi l3)] [] w Q := by
  induction n generalizing l2 h w with
  | zero => cases e
  | succ n ih =>
    rcases lp_succ e with ⟨s1, e1, e2⟩ | e1
    · exact t156_b5 hd rl1 rl3 rl2 A e1 (fun s_0 s_1 q w1 rl2 A1 => by cases q; exact ih rl2 A1 e2) (fun x_0 q => by cases q)
    · exact t156_b5 hd rl1 rl3 rl2 A e1 (fun s_0 s_1 q => by cases q) (fun x_0 q => by cases q; exact ke _ rfl)
def c156 (l0 : Nat) (l1 : Int) (h : hS) : Option (hS) :=
  (lA h l0 1).bind (fun v1 =>
  (lp (fun s => c156_b5 l0 l1 v1 s.1 s.2) hF0 (0, h)).bind (fun r4 =>
  some r4))
theorem t156 {d : Nat} (hd : 1 ≤ d) {l0 : Nat} {l1 : Int} {h : hS} {w : mmW} {o : hS} (A : Abs h w) (rl1 : rg l1) (e : c156 l0 l1 h = some o) : hEv d 156 [vR l0, vI l1] w (qV o) := by
  obtain ⟨d, rfl⟩ : ∃ d1, d = d1 + 1 := ⟨d - 1, by omega⟩
  have hd : 0 ≤ d := by omega
  refine hEv_start (args := [vr l0, vi l1]) (nl := 4) rfl (Nat.le_of_ble_eq_true rfl) ?_
  show hG d 156 0 [some (vr l0), some (vi l1), none, none] [] w _
  have kr : ∀ h1 : hS, o = h1 → ∀ w', Abs h1 w' → qV o (none, w') := fun h1 q w' A' => by cases q; exact ⟨rfl, A'⟩
  unfold c156 at e
  refine hg_run 3 (pc' := 3) (ls' := [some (vr l0), some (vi l1), some (vi 0), none]) (st' := [vR l0]) rfl ?_
  obtain ⟨v1, e1, e⟩ := ob e
  refine hg_len (t := 0) rfl A (lA_e e1).1 (lA_e e1).2 (fun r1 => ?_)
  refine hg_run 1 (pc' := 5) (ls' := [some (vr l0), some (vi l1), some (vi 0), some (vi v1)]) (st' := []) rfl ?_
  obtain ⟨r4, e4, e⟩ := ob e
  refine t156_l5 hd rl1 r1 _ (rgn 0 rfl) A e4 ?_
  intro x4_0 qq4 w4 z4_2 A4
  subst qq4
  cases e
  exact hg_retV rfl (kr _ rfl _ A4)
def c157_b4 (l2 : Int) (l3 : Nat) (h : hS) : Option ((Int × Nat × hS) ⊕ (Int × hS)) :=
  (hnul l3).bind (fun b1 =>
  if b1 = true then
  some (.inr (l2, h))
  else
  if 12 ≤ l2 then
  some (.inr (l2, h))
  else
  (wRs h 51 12 24 l2 l3).bind (fun h3 =>
  (gR h3 l3 24 1).bind (fun v4 =>
  some (.inl ((wadd l2 1), v4, h3)))))
theorem t157_b4 {d : Nat} (hd : 0 ≤ d) {l2 : Int} {l3 : Nat} {z1 : Option hO} {h : hS} {w : mmW} {o : (Int × Nat × hS) ⊕ (Int × hS)} {Q : mmO → Prop} (rl2 : rg l2) (A : Abs h w) (e : c157_b4 l2 l3 h = some o) (kb : ∀ (s_0 : Int) (s_1 : Nat) (s_2 : hS), o = .inl (s_0, s_1, s_2) → ∀ w', rg s_0 → Abs s_2 w' → hG d 157 4 [some (vr 48), z1, some (vi s_0), some (vr s_1)] [] w' Q) (ke : ∀ (x_0 : Int) (x_1 : hS), o = .inr (x_0, x_1) → ∀ w', ∀ (y3 : Option hO), rg x_0 → Abs x_1 w' → hG d 157 32 [some (vr 48), z1, some (vi x_0), y3] [] w' Q) : hG d 157 4 [some (vr 48), z1, some (vi l2), some (vr l3)] [] w Q := by
  unfold c157_b4 at e
  refine hg_run 1 (pc' := 5) (ls' := [some (vr 48), z1, some (vi l2), some (vr l3)]) (st' := [vR l3]) rfl ?_
  obtain ⟨b1, e1, e⟩ := ob e
  rcases oi e with ⟨q1, e⟩ | ⟨q1, e⟩
  · refine hg_nul (yes := true) (tgt := 32) (t2 := 32) rfl (fun _ _ _ _ => rfl) (by decide) (ebT e1 q1) rfl ?_
    cases e
    exact ke l2 h rfl _ _ rl2 A
  · refine hg_nul (yes := true) (tgt := 32) (t2 := 8) rfl (fun _ _ _ _ => rfl) (by decide) (ebF e1 q1) rfl ?_
    refine hg_run 2 (pc' := 11) (ls' := [some (vr 48), z1, some (vi l2), some (vr l3)]) (st' := [vI 12, vI l2]) rfl ?_
    rcases oi e with ⟨q2, e⟩ | ⟨q2, e⟩
    · refine hg_icT (tgt := 32) rfl (by decide) rl2 (rgn 12 rfl) q2 ?_
      cases e
      exact ke l2 h rfl _ _ rl2 A
    · refine hg_icF (tgt := 32) rfl (by decide) rl2 (rgn 12 rfl) q2 ?_
      refine hg_run 1 (pc' := 15) (ls' := [some (vr 48), z1, some (vi l2), some (vr l3)]) (st' := [vR 48]) rfl ?_
      refine gs_48_13 rfl A ?_
      refine hg_run 2 (pc' := 20) (ls' := [some (vr 48), z1, some (vi l2), some (vr l3)]) (st' := [vR l3, vI l2, vR 51]) rfl ?_
      obtain ⟨h3, e3, e⟩ := ob e
      refine hg_wRs 8 rfl A (Abs_ks A (i := 21) rfl) (by decide) (by decide) (by decide) e3 (fun w3 A3 => ?_)
      refine hg_run 2 (pc' := 25) (ls' := [some (vr 48), z1, some (vi (wadd l2 1)), some (vr l3)]) (st' := [vR l3]) rfl ?_
      obtain ⟨v4, e4, e⟩ := ob e
      refine gd_11_1 rfl A3 e4 ?_
      refine hg_run 2 (pc' := 4) (ls' := [some (vr 48), z1, some (vi (wadd l2 1)), some (vr v4)]) (st' := []) rfl ?_
      cases e
      exact kb (wadd l2 1) v4 h3 rfl _ (rg_add _ _) A3
theorem t157_l4 {d : Nat} (hd : 0 ≤ d)  {z1 : Option hO} {Q : mmO → Prop}  (n : Nat) {l2 : Int} {l3 : Nat}  {h : hS} {w : mmW} {r : Int × hS} (rl2 : rg l2) (A : Abs h w) (e : lp (fun s => c157_b4  s.1 s.2.1 s.2.2) n (l2, l3, h) = some r) (ke : ∀ (x_0 : Int) (x_1 : hS), r = (x_0, x_1) → ∀ w', ∀ (y3 : Option hO), rg x_0 → Abs x_1 w' → hG d 157 32 [some (vr 48), z1, some (vi x_0), y3] [] w' Q) : hG d 157 4 [some (vr 48), z1, some (vi l2), some (vr l3)] [] w Q := by
  induction n generalizing l2 l3 h w with
  | zero => cases e
  | succ n ih =>
    rcases lp_succ e with ⟨s1, e1, e2⟩ | e1
    · exact t157_b4 hd rl2 A e1 (fun s_0 s_1 s_2 q w1 rl2 A1 => by cases q; exact ih rl2 A1 e2) (fun x_0 x_1 q => by cases q)
    · exact t157_b4 hd rl2 A e1 (fun s_0 s_1 s_2 q => by cases q) (fun x_0 x_1 q => by cases q; exact ke _ _ rfl)
def c157 (l1 : Nat) (h : hS) : Option (Int × hS) :=
  (lp (fun s => c157_b4  s.1 s.2.1 s.2.2) hF0 (0, l1, h)).bind (fun r5 =>
  some (r5.1, r5.2))
theorem t157 {d : Nat} (hd : 1 ≤ d) {l1 : Nat} {h : hS} {w : mmW} {o : Int × hS} (A : Abs h w)  (e : c157 l1 h = some o) : hEv d 157 [vR 48, vR l1] w (qI o) := by
  obtain ⟨d, rfl⟩ : ∃ d1, d = d1 + 1 := ⟨d - 1, by omega⟩
  have hd : 0 ≤ d := by omega
  refine hEv_start (args := [vr 48, vr l1]) (nl := 4) rfl (Nat.le_of_ble_eq_true rfl) ?_
  show hG d 157 0 [some (vr 48), some (vr l1), none, none] [] w _
  have kr : ∀ (v1 : Int) (h1 : hS), o = (v1, h1) → ∀ w', rg v1 → Abs h1 w' → qI o (some (.int (Int32.ofInt v1)), w') := fun v1 h1 q w' r A' => by cases q; exact ⟨rfl, r, A'⟩
  unfold c157 at e
  refine hg_run 4 (pc' := 4) (ls' := [some (vr 48), some (vr l1), some (vi 0), some (vr l1)]) (st' := []) rfl ?_
  obtain ⟨r5, e5, e⟩ := ob e
  refine t157_l4 hd  _ (rgn 0 rfl) A e5 ?_
  intro x5_0 x5_1 qq5 w5 z5_3 q5_2 A5
  subst qq5
  try dsimp only at e
  refine hg_run 1 (pc' := 33) (ls' := [some (vr 48), some (vr l1), some (vi x5_0), z5_3]) (st' := [vI x5_0]) rfl ?_
  cases e
  exact hg_retI rfl (by decide) (fit_I _) (kr _ _ rfl _ q5_2 A5)
def c159_b2 (l1 : Int) (h : hS) (l2 : Nat) : Option ((Nat) ⊕ ((Unit) ⊕ (Nat))) :=
  (hnul l2).bind (fun b1 =>
  if b1 = true then
  some (.inr (.inl ()))
  else
  (gR h l2 24 5).bind (fun v2 =>
  (gI h l2 24 4).bind (fun v3 =>
  (c29 v2 v3 l1 h).bind (fun v4 =>
  if v4 = (-1) then
  (gR h l2 24 1).bind (fun v6 =>
  some (.inl (v6)))
  else
  some (.inr (.inr l2))))))
theorem t159_b2 {d : Nat} (hd : 1 ≤ d) {l1 : Int} {l2 : Nat} {z0 : Option hO} {h : hS} {w : mmW} {o : (Nat) ⊕ ((Unit) ⊕ (Nat))} {Q : mmO → Prop} (rl1 : rg l1) (A : Abs h w) (e : c159_b2 l1 h l2 = some o) (kb : ∀ (s_0 : Nat), o = .inl (s_0) → hG d 159 2 [z0, some (vi l1), some (vr s_0)] [] w Q) (ke : o = .inr (.inl ()) → ∀ (y2 : Option hO), hG d 159 32 [z0, some (vi l1), y2] [] w Q) (kr : ∀ v1 : Nat, o = .inr (.inr v1) → Q (some (rv v1), w)) : hG d 159 2 [z0, some (vi l1), some (vr l2)] [] w Q := by
  unfold c159_b2 at e
  refine hg_run 1 (pc' := 3) (ls' := [z0, some (vi l1), some (vr l2)]) (st' := [vR l2]) rfl ?_
  obtain ⟨b1, e1, e⟩ := ob e
  rcases oi e with ⟨q1, e⟩ | ⟨q1, e⟩
  · refine hg_nul (yes := true) (tgt := 32) (t2 := 32) rfl (fun _ _ _ _ => rfl) (by decide) (ebT e1 q1) rfl ?_
    cases e
    exact ke  rfl _ 
  · refine hg_nul (yes := true) (tgt := 32) (t2 := 6) rfl (fun _ _ _ _ => rfl) (by decide) (ebF e1 q1) rfl ?_
    refine hg_run 1 (pc' := 7) (ls' := [z0, some (vi l1), some (vr l2)]) (st' := [vR l2]) rfl ?_
    obtain ⟨v2, e2, e⟩ := ob e
    refine gd_11_5 rfl A e2 ?_
    refine hg_run 1 (pc' := 11) (ls' := [z0, some (vi l1), some (vr l2)]) (st' := [vR l2, vR v2]) rfl ?_
    obtain ⟨v3, e3, e⟩ := ob e
    refine gd_11_4 rfl A e3 (fun r3 => ?_)
    refine hg_run 1 (pc' := 15) (ls' := [z0, some (vi l1), some (vr l2)]) (st' := [vI l1, vI v3, vR v2]) rfl ?_
    obtain ⟨v4, e4, e⟩ := ob e
    refine hg_cIp (as := [vR v2, vI v3, vI l1]) (st' := []) rfl (fun _ _ _ _ => rfl) rfl rfl (Nat.le_of_ble_eq_true rfl) (Nat.le_of_ble_eq_true rfl) recv0 (t29 (by omega) A r3 rl1 e4) (fun r4 => ?_)
    refine hg_run 1 (pc' := 19) (ls' := [z0, some (vi l1), some (vr l2)]) (st' := [vI (-1), vI v4]) rfl ?_
    rcases oi e with ⟨q5, e⟩ | ⟨q5, e⟩
    · refine hg_icT (tgt := 24) rfl (by decide) r4 (rgn (-1) rfl) q5 ?_
      refine hg_run 1 (pc' := 25) (ls' := [z0, some (vi l1), some (vr l2)]) (st' := [vR l2]) rfl ?_
      obtain ⟨v6, e6, e⟩ := ob e
      refine gd_11_1 rfl A e6 ?_
      refine hg_run 2 (pc' := 2) (ls' := [z0, some (vi l1), some (vr v6)]) (st' := []) rfl ?_
      cases e
      exact kb v6 rfl 
    · refine hg_icF (tgt := 24) rfl (by decide) r4 (rgn (-1) rfl) q5 ?_
      refine hg_run 1 (pc' := 23) (ls' := [z0, some (vi l1), some (vr l2)]) (st' := [vR l2]) rfl ?_
      cases e
      exact hg_retR rfl (kr _ rfl)
theorem t159_l2 {d : Nat} (hd : 1 ≤ d) {l1 : Int} {z0 : Option hO} {h : hS} {w : mmW} {Q : mmO → Prop} (rl1 : rg l1) (n : Nat) {l2 : Nat}  {r : (Unit) ⊕ (Nat)}  (A : Abs h w) (e : lp (fun s => c159_b2 l1 h s) n (l2) = some r) (ke : r = .inl () → ∀ (y2 : Option hO), hG d 159 32 [z0, some (vi l1), y2] [] w Q) (kr : ∀ v1 : Nat, r = .inr v1 → Q (some (rv v1), w)) : hG d 159 2 [z0, some (vi l1), some (vr l2)] [] w Q := by
  induction n generalizing l2 with
  | zero => cases e
  | succ n ih =>
    rcases lp_succ e with ⟨s1, e1, e2⟩ | e1
    · exact t159_b2 hd rl1 A e1 (fun s_0 q  => by cases q; exact ih  e2) (fun  q => by cases q) (fun v0 q => by cases q)
    · exact t159_b2 hd rl1 A e1 (fun s_0 q => by cases q) (fun  q => by cases q; exact ke  rfl) (fun v0 q => by cases q; exact kr _ rfl)
def c159 (l0 : Nat) (l1 : Int) (h : hS) : Option (Nat) :=
  (lp (fun s => c159_b2 l1 h s) hF0 (l0)).bind (fun r7 => xs r7 (fun x7 =>
  some 0) (fun o7 => some o7))
theorem t159 {d : Nat} (hd : 2 ≤ d) {l0 : Nat} {l1 : Int} {h : hS} {w : mmW} {o : Nat} (A : Abs h w) (rl1 : rg l1) (e : c159 l0 l1 h = some o) : hEv d 159 [vR l0, vI l1] w (qRp o w) := by
  obtain ⟨d, rfl⟩ : ∃ d1, d = d1 + 1 := ⟨d - 1, by omega⟩
  have hd : 1 ≤ d := by omega
  refine hEv_start (args := [vr l0, vi l1]) (nl := 3) rfl (Nat.le_of_ble_eq_true rfl) ?_
  show hG d 159 0 [some (vr l0), some (vi l1), none] [] w _
  have kr : ∀ v1 : Nat, o = v1 → qRp o w (some (rv v1), w) := fun v1 q => by cases q; rfl
  unfold c159 at e
  refine hg_run 2 (pc' := 2) (ls' := [some (vr l0), some (vi l1), some (vr l0)]) (st' := []) rfl ?_
  obtain ⟨r7, e7, e⟩ := ob e
  refine t159_l2 hd rl1 _  A e7 ?_ ?_
  · intro  qq7 z7_2
    subst qq7
    have e := xs_l e
    refine hg_run 1 (pc' := 33) (ls' := [some (vr l0), some (vi l1), z7_2]) (st' := [vR 0]) rfl ?_
    cases e
    exact hg_retR rfl (kr _ rfl)
  · intro v7 qq7 
    subst qq7
    have e := xs_r e
    cases e
    exact kr _ rfl 
def c158_j90 (s0 : Int) (l5 : Int) (l7 : Nat) (h : hS) : Option (Int) :=
  if s0 = (-1) then
  some (-1)
  else
  (gR h l7 24 7).bind (fun v19 =>
  (aI h v19 1 s0).bind (fun v20 =>
  if v20 = l5 then
  some l5
  else
  some (-1)))
theorem t158_j90 {d : Nat} (hd : 2 ≤ d) {s0 : Int} {l5 : Int} {l7 : Nat} {z0 : Option hO} {z1 : Option hO} {z2 : Option hO} {z3 : Option hO} {z4 : Option hO} {z6 : Option hO} {z8 : Option hO} {h : hS} {w : mmW} {o : Int} {Q : mmO → Prop} (rs0 : rg s0) (rl5 : rg l5) (A : Abs h w) (e : c158_j90 s0 l5 l7 h = some o) (kr : ∀ v1 : Int, o = v1 → rg v1 → Q (some (.int (Int32.ofInt v1)), w)) : hG d 158 90 [z0, z1, z2, z3, z4, some (vi l5), z6, some (vr l7), z8] [vI s0] w Q := by
  unfold c158_j90 at e
  refine hg_run 3 (pc' := 95) (ls' := [z0, z1, z2, z3, z4, some (vi l5), z6, some (vr l7), some (vi s0)]) (st' := [vI (-1), vI s0]) rfl ?_
  rcases oi e with ⟨q18, e⟩ | ⟨q18, e⟩
  · refine hg_icT (tgt := 116) rfl (by decide) rs0 (rgn (-1) rfl) q18 ?_
    refine hg_run 1 (pc' := 117) (ls' := [z0, z1, z2, z3, z4, some (vi l5), z6, some (vr l7), some (vi s0)]) (st' := [vI (-1)]) rfl ?_
    cases e
    exact hg_retI rfl (by decide) (fit_I _) (kr _ rfl (rgn (-1) rfl))
  · refine hg_icF (tgt := 116) rfl (by decide) rs0 (rgn (-1) rfl) q18 ?_
    refine hg_run 1 (pc' := 100) (ls' := [z0, z1, z2, z3, z4, some (vi l5), z6, some (vr l7), some (vi s0)]) (st' := [vR l7]) rfl ?_
    obtain ⟨v19, e19, e⟩ := ob e
    refine gd_11_7 rfl A e19 ?_
    refine hg_run 1 (pc' := 105) (ls' := [z0, z1, z2, z3, z4, some (vi l5), z6, some (vr l7), some (vi s0)]) (st' := [vI s0, vR v19]) rfl ?_
    obtain ⟨v20, e20, e⟩ := ob e
    refine hg_aId 0 rfl (fun _ _ _ _ => rfl) A rfl (by decide) e20 (fun r20 => ?_)
    refine hg_run 1 (pc' := 108) (ls' := [z0, z1, z2, z3, z4, some (vi l5), z6, some (vr l7), some (vi s0)]) (st' := [vI l5, vI v20]) rfl ?_
    rcases oi e with ⟨q21, e⟩ | ⟨q21, e⟩
    · refine hg_icF (tgt := 116) rfl (by decide) r20 rl5 (show ¬ ¬ (v20 = l5) from fun f => f q21) ?_
      refine hg_run 2 (pc' := 117) (ls' := [z0, z1, z2, z3, z4, some (vi l5), z6, some (vr l7), some (vi s0)]) (st' := [vI l5]) rfl ?_
      cases e
      exact hg_retI rfl (by decide) (fit_I _) (kr _ rfl rl5)
    · refine hg_icT (tgt := 116) rfl (by decide) r20 rl5 (show ¬ (v20 = l5) from q21) ?_
      refine hg_run 1 (pc' := 117) (ls' := [z0, z1, z2, z3, z4, some (vi l5), z6, some (vr l7), some (vi s0)]) (st' := [vI (-1)]) rfl ?_
      cases e
      exact hg_retI rfl (by decide) (fit_I _) (kr _ rfl (rgn (-1) rfl))
def c158_j28 (l0 : Nat) (l1 : Nat) (l2 : Int) (l3 : Nat) (h : hS) : Option (Int) :=
  (gR h l1 24 5).bind (fun v4 =>
  (aI h v4 1 l2).bind (fun v5 =>
  (kT h l3 24).bind (fun u7 =>
  (c159 l3 v5 h).bind (fun v6 =>
  (hnul v6).bind (fun b8 =>
  if b8 = true then
  some (-1)
  else
  (gI h v6 24 0).bind (fun v9 =>
  (gI h l1 24 0).bind (fun v10 =>
  if v9 = v10 then
  some (-1)
  else
  (gI h v6 24 0).bind (fun v12 =>
  (kT h l0 18).bind (fun u14 =>
  (c47 l0 v12 h).bind (fun v13 =>
  (hnul v13).bind (fun b15 =>
  if b15 = true then
  c158_j90 (-1) v5 v13 h
  else
  (kT h v13 24).bind (fun u17 =>
  (c80 v13 v5 h).bind (fun v16 =>
  c158_j90 v16 v5 v13 h)))))))))))))
theorem t158_j28 {d : Nat} (hd : 2 ≤ d) {l0 : Nat} {l1 : Nat} {l2 : Int} {l3 : Nat} {z4 : Option hO} {z5 : Option hO} {z6 : Option hO} {z7 : Option hO} {z8 : Option hO} {h : hS} {w : mmW} {o : Int} {Q : mmO → Prop} (rl2 : rg l2) (A : Abs h w) (e : c158_j28 l0 l1 l2 l3 h = some o) (kr : ∀ v1 : Int, o = v1 → rg v1 → Q (some (.int (Int32.ofInt v1)), w)) : hG d 158 28 [some (vr l0), some (vr l1), some (vi l2), some (vr l3), z4, z5, z6, z7, z8] [] w Q := by
  unfold c158_j28 at e
  refine hg_run 1 (pc' := 29) (ls' := [some (vr l0), some (vr l1), some (vi l2), some (vr l3), z4, z5, z6, z7, z8]) (st' := [vR l1]) rfl ?_
  obtain ⟨v4, e4, e⟩ := ob e
  refine gd_11_5 rfl A e4 ?_
  refine hg_run 1 (pc' := 33) (ls' := [some (vr l0), some (vr l1), some (vi l2), some (vr l3), z4, z5, z6, z7, z8]) (st' := [vI l2, vR v4]) rfl ?_
  obtain ⟨v5, e5, e⟩ := ob e
  refine hg_aId 0 rfl (fun _ _ _ _ => rfl) A rfl (by decide) e5 (fun r5 => ?_)
  refine hg_run 3 (pc' := 39) (ls' := [some (vr l0), some (vr l1), some (vi l2), some (vr l3), z4, some (vi v5), z6, z7, z8]) (st' := [vI v5, vR l3]) rfl ?_
  obtain ⟨u7, e7, e⟩ := ob e
  obtain ⟨v6, e6, e⟩ := ob e
  refine hg_cRp (as := [vR l3, vI v5]) (st' := []) rfl (fun _ _ _ _ => rfl) rfl rfl (Nat.le_of_ble_eq_true rfl) (Nat.le_of_ble_eq_true rfl) (recvV A (a := 11) (kT_e e7)) (t159 (by omega) A r5 e6) ?_
  refine hg_run 2 (pc' := 46) (ls' := [some (vr l0), some (vr l1), some (vi l2), some (vr l3), z4, some (vi v5), some (vr v6), z7, z8]) (st' := [vR v6]) rfl ?_
  obtain ⟨b8, e8, e⟩ := ob e
  rcases oi e with ⟨q8, e⟩ | ⟨q8, e⟩
  · refine hg_nul (yes := true) (tgt := 61) (t2 := 61) rfl (fun _ _ _ _ => rfl) (by decide) (ebT e8 q8) rfl ?_
    refine hg_run 1 (pc' := 62) (ls' := [some (vr l0), some (vr l1), some (vi l2), some (vr l3), z4, some (vi v5), some (vr v6), z7, z8]) (st' := [vI (-1)]) rfl ?_
    cases e
    exact hg_retI rfl (by decide) (fit_I _) (kr _ rfl (rgn (-1) rfl))
  · refine hg_nul (yes := true) (tgt := 61) (t2 := 49) rfl (fun _ _ _ _ => rfl) (by decide) (ebF e8 q8) rfl ?_
    refine hg_run 1 (pc' := 51) (ls' := [some (vr l0), some (vr l1), some (vi l2), some (vr l3), z4, some (vi v5), some (vr v6), z7, z8]) (st' := [vR v6]) rfl ?_
    obtain ⟨v9, e9, e⟩ := ob e
    refine gd_11_0 rfl A e9 (fun r9 => ?_)
    refine hg_run 1 (pc' := 55) (ls' := [some (vr l0), some (vr l1), some (vi l2), some (vr l3), z4, some (vi v5), some (vr v6), z7, z8]) (st' := [vR l1, vI v9]) rfl ?_
    obtain ⟨v10, e10, e⟩ := ob e
    refine gd_11_0 rfl A e10 (fun r10 => ?_)
    rcases oi e with ⟨q11, e⟩ | ⟨q11, e⟩
    · refine hg_icF (tgt := 63) rfl (by decide) r9 r10 (show ¬ ¬ (v9 = v10) from fun f => f q11) ?_
      refine hg_run 1 (pc' := 62) (ls' := [some (vr l0), some (vr l1), some (vi l2), some (vr l3), z4, some (vi v5), some (vr v6), z7, z8]) (st' := [vI (-1)]) rfl ?_
      cases e
      exact hg_retI rfl (by decide) (fit_I _) (kr _ rfl (rgn (-1) rfl))
    · refine hg_icT (tgt := 63) rfl (by decide) r9 r10 (show ¬ (v9 = v10) from q11) ?_
      refine hg_run 2 (pc' := 66) (ls' := [some (vr l0), some (vr l1), some (vi l2), some (vr l3), z4, some (vi v5), some (vr v6), z7, z8]) (st' := [vR v6, vR l0]) rfl ?_
      obtain ⟨v12, e12, e⟩ := ob e
      refine gd_11_0 rfl A e12 (fun r12 => ?_)
      obtain ⟨u14, e14, e⟩ := ob e
      obtain ⟨v13, e13, e⟩ := ob e
      refine hg_cRp (as := [vR l0, vI v12]) (st' := []) rfl (fun _ _ _ _ => rfl) rfl rfl (Nat.le_of_ble_eq_true rfl) (Nat.le_of_ble_eq_true rfl) (recvV A (a := 8) (kT_e e14)) (t47 (by omega) A r12 e13) ?_
      refine hg_run 2 (pc' := 76) (ls' := [some (vr l0), some (vr l1), some (vi l2), some (vr l3), z4, some (vi v5), some (vr v6), some (vr v13), z8]) (st' := [vR v13]) rfl ?_
      obtain ⟨b15, e15, e⟩ := ob e
      rcases oi e with ⟨q15, e⟩ | ⟨q15, e⟩
      · refine hg_nul (yes := false) (tgt := 83) (t2 := 79) rfl (fun _ _ _ _ => rfl) (by decide) (ebT e15 q15) rfl ?_
        refine hg_run 2 (pc' := 90) (ls' := [some (vr l0), some (vr l1), some (vi l2), some (vr l3), z4, some (vi v5), some (vr v6), some (vr v13), z8]) (st' := [vI (-1)]) rfl ?_
        exact t158_j90 hd (rgn (-1) rfl) r5 A e kr
      · refine hg_nul (yes := false) (tgt := 83) (t2 := 83) rfl (fun _ _ _ _ => rfl) (by decide) (ebF e15 q15) rfl ?_
        refine hg_run 2 (pc' := 87) (ls' := [some (vr l0), some (vr l1), some (vi l2), some (vr l3), z4, some (vi v5), some (vr v6), some (vr v13), z8]) (st' := [vI v5, vR v13]) rfl ?_
        obtain ⟨u17, e17, e⟩ := ob e
        obtain ⟨v16, e16, e⟩ := ob e
        refine hg_cIp (as := [vR v13, vI v5]) (st' := []) rfl (fun _ _ _ _ => rfl) rfl rfl (Nat.le_of_ble_eq_true rfl) (Nat.le_of_ble_eq_true rfl) (recvV A (a := 11) (kT_e e17)) (t80 (by omega) A r5 e16) (fun r16 => ?_)
        exact t158_j90 hd r16 r5 A e kr
def c158 (l0 : Nat) (l1 : Nat) (l2 : Int) (l3 : Nat) (h : hS) : Option (Int) :=
  (gR h l1 24 7).bind (fun v1 =>
  (aI h v1 1 l2).bind (fun v2 =>
  if v2 = (-1) then
  c158_j28 l0 l1 l2 l3 h
  else
  (gI h l1 24 0).bind (fun v22 =>
  (kT h l3 24).bind (fun u24 =>
  (c150 l3 v22 h).bind (fun v23 =>
  if v23 = 0 then
  c158_j28 l0 l1 l2 l3 h
  else
  some v2)))))
theorem t158 {d : Nat} (hd : 3 ≤ d) {l0 : Nat} {l1 : Nat} {l2 : Int} {l3 : Nat} {h : hS} {w : mmW} {o : Int} (A : Abs h w) (rl2 : rg l2) (e : c158 l0 l1 l2 l3 h = some o) : hEv d 158 [vR l0, vR l1, vI l2, vR l3] w (qIp o w) := by
  obtain ⟨d, rfl⟩ : ∃ d1, d = d1 + 1 := ⟨d - 1, by omega⟩
  have hd : 2 ≤ d := by omega
  refine hEv_start (args := [vr l0, vr l1, vi l2, vr l3]) (nl := 9) rfl (Nat.le_of_ble_eq_true rfl) ?_
  show hG d 158 0 [some (vr l0), some (vr l1), some (vi l2), some (vr l3), none, none, none, none, none] [] w _
  have kr : ∀ v1 : Int, o = v1 → rg v1 → qIp o w (some (.int (Int32.ofInt v1)), w) := fun v1 q r => by cases q; exact ⟨rfl, r⟩
  unfold c158 at e
  refine hg_run 1 (pc' := 1) (ls' := [some (vr l0), some (vr l1), some (vi l2), some (vr l3), none, none, none, none, none]) (st' := [vR l1]) rfl ?_
  obtain ⟨v1, e1, e⟩ := ob e
  refine gd_11_7 rfl A e1 ?_
  refine hg_run 1 (pc' := 5) (ls' := [some (vr l0), some (vr l1), some (vi l2), some (vr l3), none, none, none, none, none]) (st' := [vI l2, vR v1]) rfl ?_
  obtain ⟨v2, e2, e⟩ := ob e
  refine hg_aId 0 rfl (fun _ _ _ _ => rfl) A rfl (by decide) e2 (fun r2 => ?_)
  refine hg_run 3 (pc' := 11) (ls' := [some (vr l0), some (vr l1), some (vi l2), some (vr l3), some (vi v2), none, none, none, none]) (st' := [vI (-1), vI v2]) rfl ?_
  rcases oi e with ⟨q3, e⟩ | ⟨q3, e⟩
  · refine hg_icT (tgt := 28) rfl (by decide) r2 (rgn (-1) rfl) q3 ?_
    exact t158_j28 hd rl2 A e kr
  · refine hg_icF (tgt := 28) rfl (by decide) r2 (rgn (-1) rfl) q3 ?_
    refine hg_run 2 (pc' := 16) (ls' := [some (vr l0), some (vr l1), some (vi l2), some (vr l3), some (vi v2), none, none, none, none]) (st' := [vR l1, vR l3]) rfl ?_
    obtain ⟨v22, e22, e⟩ := ob e
    refine gd_11_0 rfl A e22 (fun r22 => ?_)
    obtain ⟨u24, e24, e⟩ := ob e
    obtain ⟨v23, e23, e⟩ := ob e
    refine hg_cIp (as := [vR l3, vI v22]) (st' := []) rfl (fun _ _ _ _ => rfl) rfl rfl (Nat.le_of_ble_eq_true rfl) (Nat.le_of_ble_eq_true rfl) (recvV A (a := 11) (kT_e e24)) (t150 (by omega) A r22 e23) (fun r23 => ?_)
    rcases oi e with ⟨q25, e⟩ | ⟨q25, e⟩
    · refine hg_ifT (tgt := 28) rfl (by decide) r23 q25 ?_
      exact t158_j28 hd rl2 A e kr
    · refine hg_ifF (tgt := 28) rfl (by decide) r23 q25 ?_
      refine hg_run 1 (pc' := 27) (ls' := [some (vr l0), some (vr l1), some (vi l2), some (vr l3), some (vi v2), none, none, none, none]) (st' := [vI v2]) rfl ?_
      cases e
      exact hg_retI rfl (by decide) (fit_I _) (kr _ rfl r2)
def c160_j62 (l3 : Int) : Option ((Int) ⊕ ((Unit) ⊕ (Nat))) :=
  some (.inl ((wadd l3 (-1))))
theorem t160_j62 {d : Nat} (hd : 3 ≤ d) {l3 : Int} {l0 : Nat} {l1 : Nat} {l2 : Int} {z4 : Option hO} {h : hS} {w : mmW} {o : (Int) ⊕ ((Unit) ⊕ (Nat))} {Q : mmO → Prop} (rl3 : rg l3) (A : Abs h w) (e : c160_j62 l3 = some o) (kb : ∀ (s_0 : Int), o = .inl (s_0) → ∀ (y4 : Option hO), rg s_0 → hG d 160 10 [some (vr l0), some (vr l1), some (vi l2), some (vi s_0), y4] [] w Q) (ke : o = .inr (.inl ()) → ∀ (y3 y4 : Option hO), hG d 160 68 [some (vr l0), some (vr l1), some (vi l2), y3, y4] [] w Q) (kr : ∀ v1 : Nat, o = .inr (.inr v1) → Q (some (rv v1), w)) : hG d 160 62 [some (vr l0), some (vr l1), some (vi l2), some (vi l3), z4] [] w Q := by
  unfold c160_j62 at e
  refine hg_run 2 (pc' := 10) (ls' := [some (vr l0), some (vr l1), some (vi l2), some (vi (wadd l3 (-1))), z4]) (st' := []) rfl ?_
  cases e
  exact kb (wadd l3 (-1)) rfl _ (rg_add _ _)
def c160_b10 (l0 : Nat) (l1 : Nat) (l2 : Int) (h : hS) (l3 : Int) : Option ((Int) ⊕ ((Unit) ⊕ (Nat))) :=
  if l3 < 0 then
  some (.inr (.inl ()))
  else
  (gR h l0 26 0).bind (fun v5 =>
  (kT h v5 8).bind (fun u7 =>
  (c144 v5 l3 h).bind (fun v6 =>
  (cC h v6 22).bind (fun u8 =>
  (gI h v6 22 0).bind (fun v9 =>
  if v9 = 220 then
  (gI h v6 22 3).bind (fun v11 =>
  if v11 = l2 then
  (gI h v6 22 2).bind (fun v13 =>
  (kT h l1 24).bind (fun u15 =>
  (c150 l1 v13 h).bind (fun v14 =>
  if v14 = 0 then
  c160_j62 l3
  else
  some (.inr (.inr v6)))))
  else
  c160_j62 l3)
  else
  c160_j62 l3)))))
theorem t160_b10 {d : Nat} (hd : 3 ≤ d) {l0 : Nat} {l1 : Nat} {l2 : Int} {l3 : Int} {z4 : Option hO} {h : hS} {w : mmW} {o : (Int) ⊕ ((Unit) ⊕ (Nat))} {Q : mmO → Prop} (rl2 : rg l2) (rl3 : rg l3) (A : Abs h w) (e : c160_b10 l0 l1 l2 h l3 = some o) (kb : ∀ (s_0 : Int), o = .inl (s_0) → ∀ (y4 : Option hO), rg s_0 → hG d 160 10 [some (vr l0), some (vr l1), some (vi l2), some (vi s_0), y4] [] w Q) (ke : o = .inr (.inl ()) → ∀ (y3 y4 : Option hO), hG d 160 68 [some (vr l0), some (vr l1), some (vi l2), y3, y4] [] w Q) (kr : ∀ v1 : Nat, o = .inr (.inr v1) → Q (some (rv v1), w)) : hG d 160 10 [some (vr l0), some (vr l1), some (vi l2), some (vi l3), z4] [] w Q := by
  unfold c160_b10 at e
  refine hg_run 1 (pc' := 11) (ls' := [some (vr l0), some (vr l1), some (vi l2), some (vi l3), z4]) (st' := [vI l3]) rfl ?_
  rcases oi e with ⟨q4, e⟩ | ⟨q4, e⟩
  · refine hg_ifT (tgt := 68) rfl (by decide) rl3 q4 ?_
    cases e
    exact ke  rfl _ _ 
  · refine hg_ifF (tgt := 68) rfl (by decide) rl3 q4 ?_
    refine hg_run 1 (pc' := 15) (ls' := [some (vr l0), some (vr l1), some (vi l2), some (vi l3), z4]) (st' := [vR l0]) rfl ?_
    obtain ⟨v5, e5, e⟩ := ob e
    refine gd_12_0 rfl A e5 ?_
    refine hg_run 1 (pc' := 19) (ls' := [some (vr l0), some (vr l1), some (vi l2), some (vi l3), z4]) (st' := [vI l3, vR v5]) rfl ?_
    obtain ⟨u7, e7, e⟩ := ob e
    obtain ⟨v6, e6, e⟩ := ob e
    refine hg_cRp (as := [vR v5, vI l3]) (st' := []) rfl (fun _ _ _ _ => rfl) rfl rfl (Nat.le_of_ble_eq_true rfl) (Nat.le_of_ble_eq_true rfl) (recvV A (a := 3) (kT_e e7)) (t144 (by omega) A rl3 e6) ?_
    obtain ⟨u8, e8, e⟩ := ob e
    refine hg_cast rfl A (cC_e e8) ?_
    refine hg_run 2 (pc' := 29) (ls' := [some (vr l0), some (vr l1), some (vi l2), some (vi l3), some (vr v6)]) (st' := [vR v6]) rfl ?_
    obtain ⟨v9, e9, e⟩ := ob e
    refine gd_10_0 rfl A e9 (fun r9 => ?_)
    refine hg_run 1 (pc' := 35) (ls' := [some (vr l0), some (vr l1), some (vi l2), some (vi l3), some (vr v6)]) (st' := [vI 220, vI v9]) rfl ?_
    rcases oi e with ⟨q10, e⟩ | ⟨q10, e⟩
    · refine hg_icF (tgt := 62) rfl (by decide) r9 (rgn 220 rfl) (show ¬ ¬ (v9 = 220) from fun f => f q10) ?_
      refine hg_run 1 (pc' := 40) (ls' := [some (vr l0), some (vr l1), some (vi l2), some (vi l3), some (vr v6)]) (st' := [vR v6]) rfl ?_
      obtain ⟨v11, e11, e⟩ := ob e
      refine gd_10_3 rfl A e11 (fun r11 => ?_)
      refine hg_run 1 (pc' := 44) (ls' := [some (vr l0), some (vr l1), some (vi l2), some (vi l3), some (vr v6)]) (st' := [vI l2, vI v11]) rfl ?_
      rcases oi e with ⟨q12, e⟩ | ⟨q12, e⟩
      · refine hg_icF (tgt := 62) rfl (by decide) r11 rl2 (show ¬ ¬ (v11 = l2) from fun f => f q12) ?_
        refine hg_run 2 (pc' := 50) (ls' := [some (vr l0), some (vr l1), some (vi l2), some (vi l3), some (vr v6)]) (st' := [vR v6, vR l1]) rfl ?_
        obtain ⟨v13, e13, e⟩ := ob e
        refine gd_10_2 rfl A e13 (fun r13 => ?_)
        obtain ⟨u15, e15, e⟩ := ob e
        obtain ⟨v14, e14, e⟩ := ob e
        refine hg_cIp (as := [vR l1, vI v13]) (st' := []) rfl (fun _ _ _ _ => rfl) rfl rfl (Nat.le_of_ble_eq_true rfl) (Nat.le_of_ble_eq_true rfl) (recvV A (a := 11) (kT_e e15)) (t150 (by omega) A r13 e14) (fun r14 => ?_)
        rcases oi e with ⟨q16, e⟩ | ⟨q16, e⟩
        · refine hg_ifT (tgt := 62) rfl (by decide) r14 q16 ?_
          exact t160_j62 hd rl3 A e kb ke kr
        · refine hg_ifF (tgt := 62) rfl (by decide) r14 q16 ?_
          refine hg_run 1 (pc' := 61) (ls' := [some (vr l0), some (vr l1), some (vi l2), some (vi l3), some (vr v6)]) (st' := [vR v6]) rfl ?_
          cases e
          exact hg_retR rfl (kr _ rfl)
      · refine hg_icT (tgt := 62) rfl (by decide) r11 rl2 (show ¬ (v11 = l2) from q12) ?_
        exact t160_j62 hd rl3 A e kb ke kr
    · refine hg_icT (tgt := 62) rfl (by decide) r9 (rgn 220 rfl) (show ¬ (v9 = 220) from q10) ?_
      exact t160_j62 hd rl3 A e kb ke kr
theorem t160_l10 {d : Nat} (hd : 3 ≤ d) {l0 : Nat} {l1 : Nat} {l2 : Int}  {h : hS} {w : mmW} {Q : mmO → Prop} (rl2 : rg l2) (n : Nat) {l3 : Int} {z4 : Option hO} {r : (Unit) ⊕ (Nat)} (rl3 : rg l3) (A : Abs h w) (e : lp (fun s => c160_b10 l0 l1 l2 h s) n (l3) = some r) (ke : r = .inl () → ∀ (y3 y4 : Option hO), hG d 160 68 [some (vr l0), some (vr l1), some (vi l2), y3, y4] [] w Q) (kr : ∀ v1 : Nat, r = .inr v1 → Q (some (rv v1), w)) : hG d 160 10 [some (vr l0), some (vr l1), some (vi l2), some (vi l3), z4] [] w Q := by
  induction n generalizing l3 z4 with
  | zero => cases e
  | succ n ih =>
    rcases lp_succ e with ⟨s1, e1, e2⟩ | e1
    · exact t160_b10 hd rl2 rl3 A e1 (fun s_0 q y4 rl3 => by cases q; exact ih rl3 e2) (fun  q => by cases q) (fun v0 q => by cases q)
    · exact t160_b10 hd rl2 rl3 A e1 (fun s_0 q => by cases q) (fun  q => by cases q; exact ke  rfl) (fun v0 q => by cases q; exact kr _ rfl)
def c160 (l0 : Nat) (l1 : Nat) (l2 : Int) (h : hS) : Option (Nat) :=
  (gR h l0 26 0).bind (fun v1 =>
  (kT h v1 8).bind (fun u3 =>
  (c143 v1 h).bind (fun v2 =>
  (lp (fun s => c160_b10 l0 l1 l2 h s) hF0 ((wsub v2 1))).bind (fun r17 => xs r17 (fun x17 =>
  some 0) (fun o17 => some o17)))))
theorem t160 {d : Nat} (hd : 4 ≤ d) {l0 : Nat} {l1 : Nat} {l2 : Int} {h : hS} {w : mmW} {o : Nat} (A : Abs h w) (rl2 : rg l2) (e : c160 l0 l1 l2 h = some o) : hEv d 160 [vR l0, vR l1, vI l2] w (qRp o w) := by
  obtain ⟨d, rfl⟩ : ∃ d1, d = d1 + 1 := ⟨d - 1, by omega⟩
  have hd : 3 ≤ d := by omega
  refine hEv_start (args := [vr l0, vr l1, vi l2]) (nl := 5) rfl (Nat.le_of_ble_eq_true rfl) ?_
  show hG d 160 0 [some (vr l0), some (vr l1), some (vi l2), none, none] [] w _
  have kr : ∀ v1 : Nat, o = v1 → qRp o w (some (rv v1), w) := fun v1 q => by cases q; rfl
  unfold c160 at e
  refine hg_run 1 (pc' := 1) (ls' := [some (vr l0), some (vr l1), some (vi l2), none, none]) (st' := [vR l0]) rfl ?_
  obtain ⟨v1, e1, e⟩ := ob e
  refine gd_12_0 rfl A e1 ?_
  obtain ⟨u3, e3, e⟩ := ob e
  obtain ⟨v2, e2, e⟩ := ob e
  refine hg_cIp (as := [vR v1]) (st' := []) rfl (fun _ _ _ _ => rfl) rfl rfl (Nat.le_of_ble_eq_true rfl) (Nat.le_of_ble_eq_true rfl) (recvV A (a := 3) (kT_e e3)) (t143 (by omega) A  e2) (fun r2 => ?_)
  refine hg_run 3 (pc' := 10) (ls' := [some (vr l0), some (vr l1), some (vi l2), some (vi (wsub v2 1)), none]) (st' := []) rfl ?_
  obtain ⟨r17, e17, e⟩ := ob e
  refine t160_l10 hd rl2 _ (rg_sub _ _) A e17 ?_ ?_
  · intro  qq17 z17_3 z17_4
    subst qq17
    have e := xs_l e
    refine hg_run 1 (pc' := 69) (ls' := [some (vr l0), some (vr l1), some (vi l2), z17_3, z17_4]) (st' := [vR 0]) rfl ?_
    cases e
    exact hg_retR rfl (kr _ rfl)
  · intro v17 qq17 
    subst qq17
    have e := xs_r e
    cases e
    exact kr _ rfl 
def c162 (l0 : Nat) (l1 : Nat) (l2 : Nat) (h : hS) : Option (hS) :=
  (pR h l0 12 0 l1).bind (fun h1 =>
  (pR h1 l0 12 3 l2).bind (fun h2 =>
  (pI h2 l0 12 4 0).bind (fun h3 =>
  (pI h3 l0 12 5 0).bind (fun h4 =>
  (pI h4 l0 12 6 0).bind (fun h5 =>
  some h5)))))
theorem t162 {d : Nat} (hd : 1 ≤ d) {l0 : Nat} {l1 : Nat} {l2 : Nat} {h : hS} {w : mmW} {o : hS} (A : Abs h w)  (e : c162 l0 l1 l2 h = some o) : hEv d 162 [vR l0, vR l1, vR l2] w (qV o) := by
  obtain ⟨d, rfl⟩ : ∃ d1, d = d1 + 1 := ⟨d - 1, by omega⟩
  have hd : 0 ≤ d := by omega
  refine hEv_start (args := [vr l0, vr l1, vr l2]) (nl := 3) rfl (Nat.le_of_ble_eq_true rfl) ?_
  show hG d 162 0 [some (vr l0), some (vr l1), some (vr l2)] [] w _
  have kr : ∀ h1 : hS, o = h1 → ∀ w', Abs h1 w' → qV o (none, w') := fun h1 q w' A' => by cases q; exact ⟨rfl, A'⟩
  unfold c162 at e
  refine hg_run 2 (pc' := 2) (ls' := [some (vr l0), some (vr l1), some (vr l2)]) (st' := [vR l1, vR l0]) rfl ?_
  obtain ⟨h1, e1, e⟩ := ob e
  refine pd_5_0 rfl A e1 (fun w1 A1 => ?_)
  refine hg_run 2 (pc' := 7) (ls' := [some (vr l0), some (vr l1), some (vr l2)]) (st' := [vR l2, vR l0]) rfl ?_
  obtain ⟨h2, e2, e⟩ := ob e
  refine pd_5_3 rfl A1 e2 (fun w2 A2 => ?_)
  refine hg_run 2 (pc' := 12) (ls' := [some (vr l0), some (vr l1), some (vr l2)]) (st' := [vI 0, vR l0]) rfl ?_
  obtain ⟨h3, e3, e⟩ := ob e
  refine pd_5_4 rfl A2 (rgn 0 rfl) e3 (fun w3 A3 => ?_)
  refine hg_run 2 (pc' := 17) (ls' := [some (vr l0), some (vr l1), some (vr l2)]) (st' := [vI 0, vR l0]) rfl ?_
  obtain ⟨h4, e4, e⟩ := ob e
  refine pd_5_5 rfl A3 (rgn 0 rfl) e4 (fun w4 A4 => ?_)
  refine hg_run 2 (pc' := 22) (ls' := [some (vr l0), some (vr l1), some (vr l2)]) (st' := [vI 0, vR l0]) rfl ?_
  obtain ⟨h5, e5, e⟩ := ob e
  refine pd_5_6 rfl A4 (rgn 0 rfl) e5 (fun w5 A5 => ?_)
  cases e
  exact hg_retV rfl (kr _ rfl _ A5)
def c161_j67 (s0 : Int) (l4 : Int) (h : hS) : Option ((Int × Int × hS) ⊕ (hS)) :=
  some (.inl (s0, (wadd l4 1), h))
theorem t161_j67 {d : Nat} (hd : 3 ≤ d) {s0 : Int} {l4 : Int} {z1 : Option hO} {z2 : Option hO} {z3 : Option hO} {h : hS} {w : mmW} {o : (Int × Int × hS) ⊕ (hS)} {Q : mmO → Prop} (rs0 : rg s0) (rl4 : rg l4) (A : Abs h w) (e : c161_j67 s0 l4 h = some o) (kb : ∀ (s_0 : Int) (s_1 : Int) (s_2 : hS), o = .inl (s_0, s_1, s_2) → ∀ w', rg s_0 → rg s_1 → Abs s_2 w' → hG d 161 24 [some (vr 22), z1, z2, some (vi s_0), some (vi s_1)] [] w' Q) (ke : ∀ (x_0 : hS), o = .inr (x_0) → ∀ w', ∀ (y3 y4 : Option hO), Abs x_0 w' → hG d 161 74 [some (vr 22), z1, z2, y3, y4] [] w' Q) : hG d 161 67 [some (vr 22), z1, z2, z3, some (vi l4)] [vI s0] w Q := by
  unfold c161_j67 at e
  refine hg_run 3 (pc' := 24) (ls' := [some (vr 22), z1, z2, some (vi s0), some (vi (wadd l4 1))]) (st' := []) rfl ?_
  cases e
  exact kb s0 (wadd l4 1) h rfl _ rs0 (rg_add _ _) A
def c161_j66 (l4 : Int) (h : hS) : Option ((Int × Int × hS) ⊕ (hS)) :=
  c161_j67 0 l4 h
theorem t161_j66 {d : Nat} (hd : 3 ≤ d) {l4 : Int} {z1 : Option hO} {z2 : Option hO} {z3 : Option hO} {h : hS} {w : mmW} {o : (Int × Int × hS) ⊕ (hS)} {Q : mmO → Prop} (rl4 : rg l4) (A : Abs h w) (e : c161_j66 l4 h = some o) (kb : ∀ (s_0 : Int) (s_1 : Int) (s_2 : hS), o = .inl (s_0, s_1, s_2) → ∀ w', rg s_0 → rg s_1 → Abs s_2 w' → hG d 161 24 [some (vr 22), z1, z2, some (vi s_0), some (vi s_1)] [] w' Q) (ke : ∀ (x_0 : hS), o = .inr (x_0) → ∀ w', ∀ (y3 y4 : Option hO), Abs x_0 w' → hG d 161 74 [some (vr 22), z1, z2, y3, y4] [] w' Q) : hG d 161 66 [some (vr 22), z1, z2, z3, some (vi l4)] [] w Q := by
  unfold c161_j66 at e
  refine hg_run 1 (pc' := 67) (ls' := [some (vr 22), z1, z2, z3, some (vi l4)]) (st' := [vI 0]) rfl ?_
  exact t161_j67 hd (rgn 0 rfl) rl4 A e kb ke
def c161_b24 (l3 : Int) (l4 : Int) (h : hS) : Option ((Int × Int × hS) ⊕ (hS)) :=
  if 4000 ≤ l4 then
  some (.inr (h))
  else
  if l3 = 0 then
  some (.inr (h))
  else
  (kT h 24 12).bind (fun u8 =>
  (c119 24 h).bind (fun v7 =>
  (c120 24 v7.1 v7.2).bind (fun v9 =>
  if v9.1 = 0 then
  c161_j66 l4 v9.2
  else
  if (hI v9.2 22 7) = (-1) then
  c161_j67 1 l4 v9.2
  else
  c161_j66 l4 v9.2)))
theorem t161_b24 {d : Nat} (hd : 3 ≤ d) {l3 : Int} {l4 : Int} {z1 : Option hO} {z2 : Option hO} {h : hS} {w : mmW} {o : (Int × Int × hS) ⊕ (hS)} {Q : mmO → Prop} (rl3 : rg l3) (rl4 : rg l4) (A : Abs h w) (e : c161_b24 l3 l4 h = some o) (kb : ∀ (s_0 : Int) (s_1 : Int) (s_2 : hS), o = .inl (s_0, s_1, s_2) → ∀ w', rg s_0 → rg s_1 → Abs s_2 w' → hG d 161 24 [some (vr 22), z1, z2, some (vi s_0), some (vi s_1)] [] w' Q) (ke : ∀ (x_0 : hS), o = .inr (x_0) → ∀ w', ∀ (y3 y4 : Option hO), Abs x_0 w' → hG d 161 74 [some (vr 22), z1, z2, y3, y4] [] w' Q) : hG d 161 24 [some (vr 22), z1, z2, some (vi l3), some (vi l4)] [] w Q := by
  unfold c161_b24 at e
  refine hg_run 2 (pc' := 29) (ls' := [some (vr 22), z1, z2, some (vi l3), some (vi l4)]) (st' := [vI 4000, vI l4]) rfl ?_
  rcases oi e with ⟨q5, e⟩ | ⟨q5, e⟩
  · refine hg_icT (tgt := 74) rfl (by decide) rl4 (rgn 4000 rfl) q5 ?_
    cases e
    exact ke h rfl _ _ _  A
  · refine hg_icF (tgt := 74) rfl (by decide) rl4 (rgn 4000 rfl) q5 ?_
    refine hg_run 1 (pc' := 33) (ls' := [some (vr 22), z1, z2, some (vi l3), some (vi l4)]) (st' := [vI l3]) rfl ?_
    rcases oi e with ⟨q6, e⟩ | ⟨q6, e⟩
    · refine hg_ifT (tgt := 74) rfl (by decide) rl3 q6 ?_
      cases e
      exact ke h rfl _ _ _  A
    · refine hg_ifF (tgt := 74) rfl (by decide) rl3 q6 ?_
      refine hg_run 2 (pc' := 38) (ls' := [some (vr 22), z1, z2, some (vi l3), some (vi l4)]) (st' := [vR 22, vR 22]) rfl ?_
      refine gs_22_2 rfl A ?_
      refine hg_run 1 (pc' := 42) (ls' := [some (vr 22), z1, z2, some (vi l3), some (vi l4)]) (st' := [vR 22, vR 24, vR 22]) rfl ?_
      refine gs_22_2 rfl A ?_
      obtain ⟨u8, e8, e⟩ := ob e
      obtain ⟨v7, e7, e⟩ := ob e
      refine hg_cI (as := [vR 24]) (st' := [vR 24, vR 22]) rfl (fun _ _ _ _ => rfl) rfl rfl (Nat.le_of_ble_eq_true rfl) (Nat.le_of_ble_eq_true rfl) (recvV A (a := 5) (kT_e e8)) (t119 (by omega) A  e7) (fun w7 r7 A7 => ?_)
      obtain ⟨v9, e9, e⟩ := ob e
      refine hg_cI (as := [vR 22, vR 24, vI v7.1]) (st' := []) rfl (fun _ _ _ _ => rfl) rfl rfl (Nat.le_of_ble_eq_true rfl) (Nat.le_of_ble_eq_true rfl) (recvV A7 (a := 4) (Abs_ks A7 (i := 13) rfl).1) (t120 (by omega) A7 r7 e9) (fun w9 r9 A9 => ?_)
      rcases oi e with ⟨q10, e⟩ | ⟨q10, e⟩
      · refine hg_ifT (tgt := 66) rfl (by decide) r9 q10 ?_
        exact t161_j66 hd rl4 A9 e kb ke
      · refine hg_ifF (tgt := 66) rfl (by decide) r9 q10 ?_
        refine hg_run 1 (pc' := 55) (ls' := [some (vr 22), z1, z2, some (vi l3), some (vi l4)]) (st' := [vR 22]) rfl ?_
        refine gs_22_7 rfl A9 ?_
        refine hg_run 1 (pc' := 59) (ls' := [some (vr 22), z1, z2, some (vi l3), some (vi l4)]) (st' := [vI (-1), vI (hI v9.2 22 7)]) rfl ?_
        rcases oi e with ⟨q11, e⟩ | ⟨q11, e⟩
        · refine hg_icF (tgt := 66) rfl (by decide) (Abs_rg A9 22 7) (rgn (-1) rfl) (show ¬ ¬ ((hI v9.2 22 7) = (-1)) from fun f => f q11) ?_
          refine hg_run 2 (pc' := 67) (ls' := [some (vr 22), z1, z2, some (vi l3), some (vi l4)]) (st' := [vI 1]) rfl ?_
          exact t161_j67 hd (rgn 1 rfl) rl4 A9 e kb ke
        · refine hg_icT (tgt := 66) rfl (by decide) (Abs_rg A9 22 7) (rgn (-1) rfl) (show ¬ ((hI v9.2 22 7) = (-1)) from q11) ?_
          exact t161_j66 hd rl4 A9 e kb ke
theorem t161_l24 {d : Nat} (hd : 3 ≤ d)  {z1 : Option hO} {z2 : Option hO} {Q : mmO → Prop}  (n : Nat) {l3 : Int} {l4 : Int}  {h : hS} {w : mmW} {r : hS} (rl3 : rg l3) (rl4 : rg l4) (A : Abs h w) (e : lp (fun s => c161_b24  s.1 s.2.1 s.2.2) n (l3, l4, h) = some r) (ke : ∀ (x_0 : hS), r = (x_0) → ∀ w', ∀ (y3 y4 : Option hO), Abs x_0 w' → hG d 161 74 [some (vr 22), z1, z2, y3, y4] [] w' Q) : hG d 161 24 [some (vr 22), z1, z2, some (vi l3), some (vi l4)] [] w Q := by
  induction n generalizing l3 l4 h w with
  | zero => cases e
  | succ n ih =>
    rcases lp_succ e with ⟨s1, e1, e2⟩ | e1
    · exact t161_b24 hd rl3 rl4 A e1 (fun s_0 s_1 s_2 q w1 rl3 rl4 A1 => by cases q; exact ih rl3 rl4 A1 e2) (fun x_0 q => by cases q)
    · exact t161_b24 hd rl3 rl4 A e1 (fun s_0 s_1 s_2 q => by cases q) (fun x_0 q => by cases q; exact ke _ rfl)
def c161 (l1 : Nat) (l2 : Nat) (h : hS) : Option (Int × hS) :=
  (kT h 24 12).bind (fun u2 =>
  (c162 24 l1 l2 h).bind (fun h1 =>
  (some (sI h1 22 5 0)).bind (fun h3 =>
  (some (sI h3 22 7 (-1))).bind (fun h4 =>
  (lp (fun s => c161_b24  s.1 s.2.1 s.2.2) hF0 (1, 0, h4)).bind (fun r12 =>
  (c124  r12).bind (fun v13 =>
  (some (sI v13.2 22 8 v13.1)).bind (fun h14 =>
  if (hI h14 22 7) = (-1) then
  some (1, h14)
  else
  some (0, h14))))))))
theorem t161 {d : Nat} (hd : 4 ≤ d) {l1 : Nat} {l2 : Nat} {h : hS} {w : mmW} {o : Int × hS} (A : Abs h w)  (e : c161 l1 l2 h = some o) : hEv d 161 [vR 22, vR l1, vR l2] w (qI o) := by
  obtain ⟨d, rfl⟩ : ∃ d1, d = d1 + 1 := ⟨d - 1, by omega⟩
  have hd : 3 ≤ d := by omega
  refine hEv_start (args := [vr 22, vr l1, vr l2]) (nl := 5) rfl (Nat.le_of_ble_eq_true rfl) ?_
  show hG d 161 0 [some (vr 22), some (vr l1), some (vr l2), none, none] [] w _
  have kr : ∀ (v1 : Int) (h1 : hS), o = (v1, h1) → ∀ w', rg v1 → Abs h1 w' → qI o (some (.int (Int32.ofInt v1)), w') := fun v1 h1 q w' r A' => by cases q; exact ⟨rfl, r, A'⟩
  unfold c161 at e
  refine hg_run 1 (pc' := 1) (ls' := [some (vr 22), some (vr l1), some (vr l2), none, none]) (st' := [vR 22]) rfl ?_
  refine gs_22_2 rfl A ?_
  refine hg_run 2 (pc' := 6) (ls' := [some (vr 22), some (vr l1), some (vr l2), none, none]) (st' := [vR l2, vR l1, vR 24]) rfl ?_
  obtain ⟨u2, e2, e⟩ := ob e
  obtain ⟨h1, e1, e⟩ := ob e
  refine hg_cV (as := [vR 24, vR l1, vR l2]) (st' := []) rfl (fun _ _ _ _ => rfl) rfl rfl (Nat.le_of_ble_eq_true rfl) (Nat.le_of_ble_eq_true rfl) (recvV A (a := 5) (kT_e e2)) (t162 (by omega) A  e1) (fun w1 A1 => ?_)
  refine hg_run 2 (pc' := 11) (ls' := [some (vr 22), some (vr l1), some (vr l2), none, none]) (st' := [vI 0, vR 22]) rfl ?_
  obtain ⟨h3, e3, e⟩ := ob e
  refine ps_22_5 rfl A1 (rgn 0 rfl) e3 (fun w3 A3 => ?_)
  refine hg_run 2 (pc' := 16) (ls' := [some (vr 22), some (vr l1), some (vr l2), none, none]) (st' := [vI (-1), vR 22]) rfl ?_
  obtain ⟨h4, e4, e⟩ := ob e
  refine ps_22_7 rfl A3 (rgn (-1) rfl) e4 (fun w4 A4 => ?_)
  refine hg_run 4 (pc' := 24) (ls' := [some (vr 22), some (vr l1), some (vr l2), some (vi 1), some (vi 0)]) (st' := []) rfl ?_
  obtain ⟨r12, e12, e⟩ := ob e
  refine t161_l24 hd  _ (rgn 1 rfl) (rgn 0 rfl) A4 e12 ?_
  intro x12_0 qq12 w12 z12_3 z12_4 A12
  subst qq12
  refine hg_run 2 (pc' := 76) (ls' := [some (vr 22), some (vr l1), some (vr l2), z12_3, z12_4]) (st' := [vR 22, vR 22]) rfl ?_
  obtain ⟨v13, e13, e⟩ := ob e
  refine hg_cI (as := [vR 22]) (st' := [vR 22]) rfl (fun _ _ _ _ => rfl) rfl rfl (Nat.le_of_ble_eq_true rfl) (Nat.le_of_ble_eq_true rfl) (recvV A12 (a := 4) (Abs_ks A12 (i := 13) rfl).1) (t124 (by omega) A12  e13) (fun w13 r13 A13 => ?_)
  obtain ⟨h14, e14, e⟩ := ob e
  refine ps_22_8 rfl A13 r13 e14 (fun w14 A14 => ?_)
  refine hg_run 1 (pc' := 83) (ls' := [some (vr 22), some (vr l1), some (vr l2), z12_3, z12_4]) (st' := [vR 22]) rfl ?_
  refine gs_22_7 rfl A14 ?_
  refine hg_run 1 (pc' := 87) (ls' := [some (vr 22), some (vr l1), some (vr l2), z12_3, z12_4]) (st' := [vI (-1), vI (hI h14 22 7)]) rfl ?_
  rcases oi e with ⟨q15, e⟩ | ⟨q15, e⟩
  · refine hg_icF (tgt := 94) rfl (by decide) (Abs_rg A14 22 7) (rgn (-1) rfl) (show ¬ ¬ ((hI h14 22 7) = (-1)) from fun f => f q15) ?_
    refine hg_run 2 (pc' := 95) (ls' := [some (vr 22), some (vr l1), some (vr l2), z12_3, z12_4]) (st' := [vI 1]) rfl ?_
    cases e
    exact hg_retI rfl (by decide) (fit_B (.inr rfl)) (kr _ _ rfl _ (rgn 1 rfl) A14)
  · refine hg_icT (tgt := 94) rfl (by decide) (Abs_rg A14 22 7) (rgn (-1) rfl) (show ¬ ((hI h14 22 7) = (-1)) from q15) ?_
    refine hg_run 1 (pc' := 95) (ls' := [some (vr 22), some (vr l1), some (vr l2), z12_3, z12_4]) (st' := [vI 0]) rfl ?_
    cases e
    exact hg_retI rfl (by decide) (fit_B (.inl rfl)) (kr _ _ rfl _ (rgn 0 rfl) A14)
def c163_j63 (l4 : Int) (h : hS) : Option ((Int × hS) ⊕ (hS)) :=
  some (.inl ((wadd l4 1), h))
theorem t163_j63 {d : Nat} (hd : 0 ≤ d) {l4 : Int} {l1 : Nat} {l2 : Nat} {l3 : Nat} {z5 : Option hO} {h : hS} {w : mmW} {o : (Int × hS) ⊕ (hS)} {Q : mmO → Prop} (rl4 : rg l4) (A : Abs h w) (e : c163_j63 l4 h = some o) (kb : ∀ (s_0 : Int) (s_1 : hS), o = .inl (s_0, s_1) → ∀ w', ∀ (y5 : Option hO), rg s_0 → Abs s_1 w' → hG d 163 12 [some (vr 48), some (vr l1), some (vr l2), some (vr l3), some (vi s_0), y5] [] w' Q) (ke : ∀ (x_0 : hS), o = .inr (x_0) → ∀ w', ∀ (y4 y5 : Option hO), Abs x_0 w' → hG d 163 69 [some (vr 48), some (vr l1), some (vr l2), some (vr l3), y4, y5] [] w' Q) : hG d 163 63 [some (vr 48), some (vr l1), some (vr l2), some (vr l3), some (vi l4), z5] [] w Q := by
  unfold c163_j63 at e
  refine hg_run 2 (pc' := 12) (ls' := [some (vr 48), some (vr l1), some (vr l2), some (vr l3), some (vi (wadd l4 1)), z5]) (st' := []) rfl ?_
  cases e
  exact kb (wadd l4 1) h rfl _ _ (rg_add _ _) A
def c163_b12 (l1 : Nat) (l2 : Nat) (l3 : Nat) (l4 : Int) (h : hS) : Option ((Int × hS) ⊕ (hS)) :=
  (gI h l3 24 4).bind (fun v3 =>
  if v3 ≤ l4 then
  some (.inr (h))
  else
  (gR h l3 24 5).bind (fun v5 =>
  (aI h v5 1 l4).bind (fun v6 =>
  (aIs h 52 40 v6).bind (fun v7 =>
  if v7 = (-1) then
  (gR h l2 16 4).bind (fun v9 =>
  (wI h v9 3 v6 (wbol 1)).bind (fun h10 =>
  (gR h10 l2 16 5).bind (fun v11 =>
  (gR h10 l1 16 3).bind (fun v12 =>
  (aI h10 v12 1 v6).bind (fun v13 =>
  (wI h10 v11 1 v6 v13).bind (fun h14 =>
  c163_j63 l4 h14))))))
  else
  c163_j63 l4 h))))
theorem t163_b12 {d : Nat} (hd : 0 ≤ d) {l1 : Nat} {l2 : Nat} {l3 : Nat} {l4 : Int} {z5 : Option hO} {h : hS} {w : mmW} {o : (Int × hS) ⊕ (hS)} {Q : mmO → Prop} (rl4 : rg l4) (A : Abs h w) (e : c163_b12 l1 l2 l3 l4 h = some o) (kb : ∀ (s_0 : Int) (s_1 : hS), o = .inl (s_0, s_1) → ∀ w', ∀ (y5 : Option hO), rg s_0 → Abs s_1 w' → hG d 163 12 [some (vr 48), some (vr l1), some (vr l2), some (vr l3), some (vi s_0), y5] [] w' Q) (ke : ∀ (x_0 : hS), o = .inr (x_0) → ∀ w', ∀ (y4 y5 : Option hO), Abs x_0 w' → hG d 163 69 [some (vr 48), some (vr l1), some (vr l2), some (vr l3), y4, y5] [] w' Q) : hG d 163 12 [some (vr 48), some (vr l1), some (vr l2), some (vr l3), some (vi l4), z5] [] w Q := by
  unfold c163_b12 at e
  refine hg_run 2 (pc' := 15) (ls' := [some (vr 48), some (vr l1), some (vr l2), some (vr l3), some (vi l4), z5]) (st' := [vR l3, vI l4]) rfl ?_
  obtain ⟨v3, e3, e⟩ := ob e
  refine gd_11_4 rfl A e3 (fun r3 => ?_)
  rcases oi e with ⟨q4, e⟩ | ⟨q4, e⟩
  · refine hg_icT (tgt := 69) rfl (by decide) rl4 r3 q4 ?_
    cases e
    exact ke h rfl _ _ _  A
  · refine hg_icF (tgt := 69) rfl (by decide) rl4 r3 q4 ?_
    refine hg_run 1 (pc' := 22) (ls' := [some (vr 48), some (vr l1), some (vr l2), some (vr l3), some (vi l4), z5]) (st' := [vR l3]) rfl ?_
    obtain ⟨v5, e5, e⟩ := ob e
    refine gd_11_5 rfl A e5 ?_
    refine hg_run 1 (pc' := 27) (ls' := [some (vr 48), some (vr l1), some (vr l2), some (vr l3), some (vi l4), z5]) (st' := [vI l4, vR v5]) rfl ?_
    obtain ⟨v6, e6, e⟩ := ob e
    refine hg_aId 0 rfl (fun _ _ _ _ => rfl) A rfl (by decide) e6 (fun r6 => ?_)
    refine hg_run 2 (pc' := 31) (ls' := [some (vr 48), some (vr l1), some (vr l2), some (vr l3), some (vi l4), some (vi v6)]) (st' := [vR 48]) rfl ?_
    refine gs_48_14 rfl A ?_
    refine hg_run 1 (pc' := 36) (ls' := [some (vr 48), some (vr l1), some (vr l2), some (vr l3), some (vi l4), some (vi v6)]) (st' := [vI v6, vR 52]) rfl ?_
    obtain ⟨v7, e7, e⟩ := ob e
    refine hg_aIs 0 rfl (fun _ _ _ _ => rfl) A (Abs_ks A (i := 22) rfl) rfl (by decide) e7 (fun r7 => ?_)
    refine hg_run 1 (pc' := 38) (ls' := [some (vr 48), some (vr l1), some (vr l2), some (vr l3), some (vi l4), some (vi v6)]) (st' := [vI (-1), vI v7]) rfl ?_
    rcases oi e with ⟨q8, e⟩ | ⟨q8, e⟩
    · refine hg_icF (tgt := 63) rfl (by decide) r7 (rgn (-1) rfl) (show ¬ ¬ (v7 = (-1)) from fun f => f q8) ?_
      refine hg_run 1 (pc' := 42) (ls' := [some (vr 48), some (vr l1), some (vr l2), some (vr l3), some (vi l4), some (vi v6)]) (st' := [vR l2]) rfl ?_
      obtain ⟨v9, e9, e⟩ := ob e
      refine gd_7_4 rfl A e9 ?_
      refine hg_run 2 (pc' := 48) (ls' := [some (vr 48), some (vr l1), some (vr l2), some (vr l3), some (vi l4), some (vi v6)]) (st' := [vI 1, vI v6, vR v9]) rfl ?_
      obtain ⟨h10, e10, e⟩ := ob e
      refine hg_wBd rfl A e10 (fun w10 A10 => ?_)
      refine hg_run 1 (pc' := 50) (ls' := [some (vr 48), some (vr l1), some (vr l2), some (vr l3), some (vi l4), some (vi v6)]) (st' := [vR l2]) rfl ?_
      obtain ⟨v11, e11, e⟩ := ob e
      refine gd_7_5 rfl A10 e11 ?_
      refine hg_run 2 (pc' := 56) (ls' := [some (vr 48), some (vr l1), some (vr l2), some (vr l3), some (vi l4), some (vi v6)]) (st' := [vR l1, vI v6, vR v11]) rfl ?_
      obtain ⟨v12, e12, e⟩ := ob e
      refine gd_7_3 rfl A10 e12 ?_
      refine hg_run 1 (pc' := 61) (ls' := [some (vr 48), some (vr l1), some (vr l2), some (vr l3), some (vi l4), some (vi v6)]) (st' := [vI v6, vR v12, vI v6, vR v11]) rfl ?_
      obtain ⟨v13, e13, e⟩ := ob e
      refine hg_aId 0 rfl (fun _ _ _ _ => rfl) A10 rfl (by decide) e13 (fun r13 => ?_)
      obtain ⟨h14, e14, e⟩ := ob e
      refine hg_wId rfl A10 r13 e14 (fun w14 A14 => ?_)
      exact t163_j63 hd rl4 A14 e kb ke
    · refine hg_icT (tgt := 63) rfl (by decide) r7 (rgn (-1) rfl) (show ¬ (v7 = (-1)) from q8) ?_
      exact t163_j63 hd rl4 A e kb ke
theorem t163_l12 {d : Nat} (hd : 0 ≤ d) {l1 : Nat} {l2 : Nat} {l3 : Nat}  {Q : mmO → Prop}  (n : Nat) {l4 : Int} {z5 : Option hO} {h : hS} {w : mmW} {r : hS} (rl4 : rg l4) (A : Abs h w) (e : lp (fun s => c163_b12 l1 l2 l3 s.1 s.2) n (l4, h) = some r) (ke : ∀ (x_0 : hS), r = (x_0) → ∀ w', ∀ (y4 y5 : Option hO), Abs x_0 w' → hG d 163 69 [some (vr 48), some (vr l1), some (vr l2), some (vr l3), y4, y5] [] w' Q) : hG d 163 12 [some (vr 48), some (vr l1), some (vr l2), some (vr l3), some (vi l4), z5] [] w Q := by
  induction n generalizing l4 z5 h w with
  | zero => cases e
  | succ n ih =>
    rcases lp_succ e with ⟨s1, e1, e2⟩ | e1
    · exact t163_b12 hd rl4 A e1 (fun s_0 s_1 q w1 y5 rl4 A1 => by cases q; exact ih rl4 A1 e2) (fun x_0 q => by cases q)
    · exact t163_b12 hd rl4 A e1 (fun s_0 s_1 q => by cases q) (fun x_0 q => by cases q; exact ke _ rfl)
def c163_b5 (l1 : Nat) (l2 : Nat) (l3 : Nat) (h : hS) : Option ((Nat × hS) ⊕ (hS)) :=
  (hnul l3).bind (fun b2 =>
  if b2 = true then
  some (.inr (h))
  else
  (lp (fun s => c163_b12 l1 l2 l3 s.1 s.2) hF0 (0, h)).bind (fun r15 =>
  (gR r15 l3 24 1).bind (fun v16 =>
  some (.inl (v16, r15)))))
theorem t163_b5 {d : Nat} (hd : 0 ≤ d) {l1 : Nat} {l2 : Nat} {l3 : Nat} {z4 : Option hO} {z5 : Option hO} {h : hS} {w : mmW} {o : (Nat × hS) ⊕ (hS)} {Q : mmO → Prop}  (A : Abs h w) (e : c163_b5 l1 l2 l3 h = some o) (kb : ∀ (s_0 : Nat) (s_1 : hS), o = .inl (s_0, s_1) → ∀ w', ∀ (y4 y5 : Option hO), Abs s_1 w' → hG d 163 5 [some (vr 48), some (vr l1), some (vr l2), some (vr s_0), y4, y5] [] w' Q) (ke : ∀ (x_0 : hS), o = .inr (x_0) → ∀ w', ∀ (y3 y4 y5 : Option hO), Abs x_0 w' → hG d 163 77 [some (vr 48), some (vr l1), some (vr l2), y3, y4, y5] [] w' Q) : hG d 163 5 [some (vr 48), some (vr l1), some (vr l2), some (vr l3), z4, z5] [] w Q := by
  unfold c163_b5 at e
  refine hg_run 1 (pc' := 6) (ls' := [some (vr 48), some (vr l1), some (vr l2), some (vr l3), z4, z5]) (st' := [vR l3]) rfl ?_
  obtain ⟨b2, e2, e⟩ := ob e
  rcases oi e with ⟨q2, e⟩ | ⟨q2, e⟩
  · refine hg_nul (yes := true) (tgt := 77) (t2 := 77) rfl (fun _ _ _ _ => rfl) (by decide) (ebT e2 q2) rfl ?_
    cases e
    exact ke h rfl _ _ _ _  A
  · refine hg_nul (yes := true) (tgt := 77) (t2 := 9) rfl (fun _ _ _ _ => rfl) (by decide) (ebF e2 q2) rfl ?_
    refine hg_run 2 (pc' := 12) (ls' := [some (vr 48), some (vr l1), some (vr l2), some (vr l3), some (vi 0), z5]) (st' := []) rfl ?_
    obtain ⟨r15, e15, e⟩ := ob e
    refine t163_l12 hd  _ (rgn 0 rfl) A e15 ?_
    intro x15_0 qq15 w15 z15_4 z15_5 A15
    subst qq15
    refine hg_run 1 (pc' := 70) (ls' := [some (vr 48), some (vr l1), some (vr l2), some (vr l3), z15_4, z15_5]) (st' := [vR l3]) rfl ?_
    obtain ⟨v16, e16, e⟩ := ob e
    refine gd_11_1 rfl A15 e16 ?_
    refine hg_run 2 (pc' := 5) (ls' := [some (vr 48), some (vr l1), some (vr l2), some (vr v16), z15_4, z15_5]) (st' := []) rfl ?_
    cases e
    exact kb v16 r15 rfl _ _ _  A15
theorem t163_l5 {d : Nat} (hd : 0 ≤ d) {l1 : Nat} {l2 : Nat}  {Q : mmO → Prop}  (n : Nat) {l3 : Nat} {z4 z5 : Option hO} {h : hS} {w : mmW} {r : hS}  (A : Abs h w) (e : lp (fun s => c163_b5 l1 l2 s.1 s.2) n (l3, h) = some r) (ke : ∀ (x_0 : hS), r = (x_0) → ∀ w', ∀ (y3 y4 y5 : Option hO), Abs x_0 w' → hG d 163 77 [some (vr 48), some (vr l1), some (vr l2), y3, y4, y5] [] w' Q) : hG d 163 5 [some (vr 48), some (vr l1), some (vr l2), some (vr l3), z4, z5] [] w Q := by
  induction n generalizing l3 z4 z5 h w with
  | zero => cases e
  | succ n ih =>
    rcases lp_succ e with ⟨s1, e1, e2⟩ | e1
    · exact t163_b5 hd  A e1 (fun s_0 s_1 q w1 y4 y5 A1 => by cases q; exact ih  A1 e2) (fun x_0 q => by cases q)
    · exact t163_b5 hd  A e1 (fun s_0 s_1 q => by cases q) (fun x_0 q => by cases q; exact ke _ rfl)
def c163 (l1 : Nat) (l2 : Nat) (h : hS) : Option (hS) :=
  (gR h l1 16 2).bind (fun v1 =>
  (lp (fun s => c163_b5 l1 l2 s.1 s.2) hF0 (v1, h)).bind (fun r17 =>
  some r17))
theorem t163 {d : Nat} (hd : 1 ≤ d) {l1 : Nat} {l2 : Nat} {h : hS} {w : mmW} {o : hS} (A : Abs h w)  (e : c163 l1 l2 h = some o) : hEv d 163 [vR 48, vR l1, vR l2] w (qV o) := by
  obtain ⟨d, rfl⟩ : ∃ d1, d = d1 + 1 := ⟨d - 1, by omega⟩
  have hd : 0 ≤ d := by omega
  refine hEv_start (args := [vr 48, vr l1, vr l2]) (nl := 6) rfl (Nat.le_of_ble_eq_true rfl) ?_
  show hG d 163 0 [some (vr 48), some (vr l1), some (vr l2), none, none, none] [] w _
  have kr : ∀ h1 : hS, o = h1 → ∀ w', Abs h1 w' → qV o (none, w') := fun h1 q w' A' => by cases q; exact ⟨rfl, A'⟩
  unfold c163 at e
  refine hg_run 1 (pc' := 1) (ls' := [some (vr 48), some (vr l1), some (vr l2), none, none, none]) (st' := [vR l1]) rfl ?_
  obtain ⟨v1, e1, e⟩ := ob e
  refine gd_7_2 rfl A e1 ?_
  refine hg_run 1 (pc' := 5) (ls' := [some (vr 48), some (vr l1), some (vr l2), some (vr v1), none, none]) (st' := []) rfl ?_
  obtain ⟨r17, e17, e⟩ := ob e
  refine t163_l5 hd  _  A e17 ?_
  intro x17_0 qq17 w17 z17_3 z17_4 z17_5 A17
  subst qq17
  cases e
  exact hg_retV rfl (kr _ rfl _ A17)
def c155_j184 (l7 : Int) (h : hS) : Option ((Int × hS) ⊕ ((hS) ⊕ (Int × hS))) :=
  some (.inl ((wadd l7 1), h))
set_option maxRecDepth 100000 in
theorem t155_j184 {d : Nat} (hd : 4 ≤ d) {l7 : Int} {l1 : Nat} {l2 : Nat} {l3 : Nat} {l4 : Nat} {l5 : Int} {l6 : Nat} {z8 : Option hO} {z9 : Option hO} {z10 : Option hO} {h : hS} {w : mmW} {o : (Int × hS) ⊕ ((hS) ⊕ (Int × hS))} {Q : mmO → Prop} (rl7 : rg l7) (A : Abs h w) (e : c155_j184 l7 h = some o) (kb : ∀ (s_0 : Int) (s_1 : hS), o = .inl (s_0, s_1) → ∀ w', ∀ (y8 y9 y10 : Option hO), rg s_0 → Abs s_1 w' → hG d 155 38 [some (vr 48), some (vr l1), some (vr l2), some (vr l3), some (vr l4), some (vi l5), some (vr l6), some (vi s_0), y8, y9, y10] [] w' Q) (ke : ∀ (x_0 : hS), o = .inr (.inl (x_0)) → ∀ w', ∀ (y7 y8 y9 y10 : Option hO), Abs x_0 w' → hG d 155 190 [some (vr 48), some (vr l1), some (vr l2), some (vr l3), some (vr l4), some (vi l5), some (vr l6), y7, y8, y9, y10] [] w' Q) (kr : ∀ (v1 : Int) (h1 : hS), o = .inr (.inr (v1, h1)) → ∀ w', rg v1 → Abs h1 w' → Q (some (.int (Int32.ofInt v1)), w')) : hG d 155 184 [some (vr 48), some (vr l1), some (vr l2), some (vr l3), some (vr l4), some (vi l5), some (vr l6), some (vi l7), z8, z9, z10] [] w Q := by
  unfold c155_j184 at e
  refine hg_run 2 (pc' := 38) (ls' := [some (vr 48), some (vr l1), some (vr l2), some (vr l3), some (vr l4), some (vi l5), some (vr l6), some (vi (wadd l7 1)), z8, z9, z10]) (st' := []) rfl ?_
  cases e
  exact kb (wadd l7 1) h rfl _ _ _ _ (rg_add _ _) A
def c155_j119 (l1 : Nat) (l3 : Nat) (l4 : Nat) (l7 : Int) (l8 : Int) (h : hS) : Option ((Int × hS) ⊕ ((hS) ⊕ (Int × hS))) :=
  (gR h l4 16 2).bind (fun v19 =>
  (kT h l1 26).bind (fun u21 =>
  (c160 l1 v19 l8 h).bind (fun v20 =>
  (hnul v20).bind (fun b22 =>
  if b22 = true then
  c155_j184 l7 h
  else
  (gR h v20 22 5).bind (fun v23 =>
  (c161 l3 v23 h).bind (fun v24 =>
  if v24.1 = 0 then
  (gI v24.2 v20 22 1).bind (fun v28 =>
  (gI v24.2 l3 16 0).bind (fun v29 =>
  (c151 9 v28 v29 v24.2).bind (fun v30 =>
  (kB v30.1).bind (fun u31 =>
  some (.inr (.inr (v30.1, v30.2)))))))
  else
  (gR v24.2 l4 16 3).bind (fun v26 =>
  (wI v24.2 v26 1 l8 (hI v24.2 22 8)).bind (fun h27 =>
  c155_j184 l7 h27))))))))
set_option maxRecDepth 100000 in
theorem t155_j119 {d : Nat} (hd : 4 ≤ d) {l1 : Nat} {l3 : Nat} {l4 : Nat} {l7 : Int} {l8 : Int} {l2 : Nat} {l5 : Int} {l6 : Nat} {z9 : Option hO} {z10 : Option hO} {h : hS} {w : mmW} {o : (Int × hS) ⊕ ((hS) ⊕ (Int × hS))} {Q : mmO → Prop} (rl7 : rg l7) (rl8 : rg l8) (A : Abs h w) (e : c155_j119 l1 l3 l4 l7 l8 h = some o) (kb : ∀ (s_0 : Int) (s_1 : hS), o = .inl (s_0, s_1) → ∀ w', ∀ (y8 y9 y10 : Option hO), rg s_0 → Abs s_1 w' → hG d 155 38 [some (vr 48), some (vr l1), some (vr l2), some (vr l3), some (vr l4), some (vi l5), some (vr l6), some (vi s_0), y8, y9, y10] [] w' Q) (ke : ∀ (x_0 : hS), o = .inr (.inl (x_0)) → ∀ w', ∀ (y7 y8 y9 y10 : Option hO), Abs x_0 w' → hG d 155 190 [some (vr 48), some (vr l1), some (vr l2), some (vr l3), some (vr l4), some (vi l5), some (vr l6), y7, y8, y9, y10] [] w' Q) (kr : ∀ (v1 : Int) (h1 : hS), o = .inr (.inr (v1, h1)) → ∀ w', rg v1 → Abs h1 w' → Q (some (.int (Int32.ofInt v1)), w')) : hG d 155 119 [some (vr 48), some (vr l1), some (vr l2), some (vr l3), some (vr l4), some (vi l5), some (vr l6), some (vi l7), some (vi l8), z9, z10] [] w Q := by
  unfold c155_j119 at e
  refine hg_run 2 (pc' := 122) (ls' := [some (vr 48), some (vr l1), some (vr l2), some (vr l3), some (vr l4), some (vi l5), some (vr l6), some (vi l7), some (vi l8), z9, z10]) (st' := [vR l4, vR l1]) rfl ?_
  obtain ⟨v19, e19, e⟩ := ob e
  refine gd_7_2 rfl A e19 ?_
  refine hg_run 1 (pc' := 127) (ls' := [some (vr 48), some (vr l1), some (vr l2), some (vr l3), some (vr l4), some (vi l5), some (vr l6), some (vi l7), some (vi l8), z9, z10]) (st' := [vI l8, vR v19, vR l1]) rfl ?_
  obtain ⟨u21, e21, e⟩ := ob e
  obtain ⟨v20, e20, e⟩ := ob e
  refine hg_cRp (as := [vR l1, vR v19, vI l8]) (st' := []) rfl (fun _ _ _ _ => rfl) rfl rfl (Nat.le_of_ble_eq_true rfl) (Nat.le_of_ble_eq_true rfl) (recvV A (a := 12) (kT_e e21)) (t160 (by omega) A rl8 e20) ?_
  refine hg_run 2 (pc' := 134) (ls' := [some (vr 48), some (vr l1), some (vr l2), some (vr l3), some (vr l4), some (vi l5), some (vr l6), some (vi l7), some (vi l8), z9, some (vr v20)]) (st' := [vR v20]) rfl ?_
  obtain ⟨b22, e22, e⟩ := ob e
  rcases oi e with ⟨q22, e⟩ | ⟨q22, e⟩
  · refine hg_nul (yes := true) (tgt := 184) (t2 := 184) rfl (fun _ _ _ _ => rfl) (by decide) (ebT e22 q22) rfl ?_
    exact t155_j184 hd rl7 A e kb ke kr
  · refine hg_nul (yes := true) (tgt := 184) (t2 := 137) rfl (fun _ _ _ _ => rfl) (by decide) (ebF e22 q22) rfl ?_
    refine hg_run 1 (pc' := 138) (ls' := [some (vr 48), some (vr l1), some (vr l2), some (vr l3), some (vr l4), some (vi l5), some (vr l6), some (vi l7), some (vi l8), z9, some (vr v20)]) (st' := [vR 48]) rfl ?_
    refine gs_48_1 rfl A ?_
    refine hg_run 2 (pc' := 144) (ls' := [some (vr 48), some (vr l1), some (vr l2), some (vr l3), some (vr l4), some (vi l5), some (vr l6), some (vi l7), some (vi l8), z9, some (vr v20)]) (st' := [vR v20, vR l3, vR 22]) rfl ?_
    obtain ⟨v23, e23, e⟩ := ob e
    refine gd_10_5 rfl A e23 ?_
    obtain ⟨v24, e24, e⟩ := ob e
    refine hg_cI (as := [vR 22, vR l3, vR v23]) (st' := []) rfl (fun _ _ _ _ => rfl) rfl rfl (Nat.le_of_ble_eq_true rfl) (Nat.le_of_ble_eq_true rfl) (recvV A (a := 4) (Abs_ks A (i := 13) rfl).1) (t161 (by omega) A  e24) (fun w24 r24 A24 => ?_)
    rcases oi e with ⟨q25, e⟩ | ⟨q25, e⟩
    · refine hg_ifF (tgt := 169) rfl (by decide) r24 (show ¬ ¬ (v24.1 = 0) from fun f => f q25) ?_
      refine hg_run 3 (pc' := 158) (ls' := [some (vr 48), some (vr l1), some (vr l2), some (vr l3), some (vr l4), some (vi l5), some (vr l6), some (vi l7), some (vi l8), z9, some (vr v20)]) (st' := [vR v20, vI 9, vR 48]) rfl ?_
      obtain ⟨v28, e28, e⟩ := ob e
      refine gd_10_1 rfl A24 e28 (fun r28 => ?_)
      refine hg_run 1 (pc' := 162) (ls' := [some (vr 48), some (vr l1), some (vr l2), some (vr l3), some (vr l4), some (vi l5), some (vr l6), some (vi l7), some (vi l8), z9, some (vr v20)]) (st' := [vR l3, vI v28, vI 9, vR 48]) rfl ?_
      obtain ⟨v29, e29, e⟩ := ob e
      refine gd_7_0 rfl A24 e29 (fun r29 => ?_)
      obtain ⟨v30, e30, e⟩ := ob e
      refine hg_cI (as := [vR 48, vI 9, vI v28, vI v29]) (st' := []) rfl (fun _ _ _ _ => rfl) rfl rfl (Nat.le_of_ble_eq_true rfl) (Nat.le_of_ble_eq_true rfl) (recvV A24 (a := 6) (Abs_ks A24 (i := 18) rfl).1) (t151 (by omega) A24 (rgn 9 rfl) r28 r29 e30) (fun w30 r30 A30 => ?_)
      obtain ⟨u31, e31, e⟩ := ob e
      cases e
      exact hg_retI rfl (by decide) (fit_B (kB_e e31)) (kr _ _ rfl _ r30 A30)
    · refine hg_ifT (tgt := 169) rfl (by decide) r24 (show ¬ (v24.1 = 0) from q25) ?_
      refine hg_run 1 (pc' := 171) (ls' := [some (vr 48), some (vr l1), some (vr l2), some (vr l3), some (vr l4), some (vi l5), some (vr l6), some (vi l7), some (vi l8), z9, some (vr v20)]) (st' := [vR l4]) rfl ?_
      obtain ⟨v26, e26, e⟩ := ob e
      refine gd_7_3 rfl A24 e26 ?_
      refine hg_run 2 (pc' := 177) (ls' := [some (vr 48), some (vr l1), some (vr l2), some (vr l3), some (vr l4), some (vi l5), some (vr l6), some (vi l7), some (vi l8), z9, some (vr v20)]) (st' := [vR 48, vI l8, vR v26]) rfl ?_
      refine gs_48_1 rfl A24 ?_
      refine gs_22_8 rfl A24 ?_
      obtain ⟨h27, e27, e⟩ := ob e
      refine hg_wId rfl A24 (Abs_rg A24 22 8) e27 (fun w27 A27 => ?_)
      exact t155_j184 hd rl7 A27 e kb ke kr
def c155_j103 (s0 : Nat) (s1 : Int) (s2 : Int) (l1 : Nat) (l3 : Nat) (l4 : Nat) (l7 : Int) (l8 : Int) (l9 : Int) (h : hS) : Option ((Int × hS) ⊕ ((hS) ⊕ (Int × hS))) :=
  (wI h s0 1 s1 s2).bind (fun h17 =>
  if l9 = (-1) then
  c155_j119 l1 l3 l4 l7 l8 h17
  else
  (wIs h17 52 40 l9 l8).bind (fun h32 =>
  c155_j119 l1 l3 l4 l7 l8 h32))
set_option maxRecDepth 100000 in
theorem t155_j103 {d : Nat} (hd : 4 ≤ d) {s0 : Nat} {s1 : Int} {s2 : Int} {l1 : Nat} {l3 : Nat} {l4 : Nat} {l7 : Int} {l8 : Int} {l9 : Int} {l2 : Nat} {l5 : Int} {l6 : Nat} {z10 : Option hO} {h : hS} {w : mmW} {o : (Int × hS) ⊕ ((hS) ⊕ (Int × hS))} {Q : mmO → Prop} (rs1 : rg s1) (rs2 : rg s2) (rl7 : rg l7) (rl8 : rg l8) (rl9 : rg l9) (A : Abs h w) (e : c155_j103 s0 s1 s2 l1 l3 l4 l7 l8 l9 h = some o) (kb : ∀ (s_0 : Int) (s_1 : hS), o = .inl (s_0, s_1) → ∀ w', ∀ (y8 y9 y10 : Option hO), rg s_0 → Abs s_1 w' → hG d 155 38 [some (vr 48), some (vr l1), some (vr l2), some (vr l3), some (vr l4), some (vi l5), some (vr l6), some (vi s_0), y8, y9, y10] [] w' Q) (ke : ∀ (x_0 : hS), o = .inr (.inl (x_0)) → ∀ w', ∀ (y7 y8 y9 y10 : Option hO), Abs x_0 w' → hG d 155 190 [some (vr 48), some (vr l1), some (vr l2), some (vr l3), some (vr l4), some (vi l5), some (vr l6), y7, y8, y9, y10] [] w' Q) (kr : ∀ (v1 : Int) (h1 : hS), o = .inr (.inr (v1, h1)) → ∀ w', rg v1 → Abs h1 w' → Q (some (.int (Int32.ofInt v1)), w')) : hG d 155 103 [some (vr 48), some (vr l1), some (vr l2), some (vr l3), some (vr l4), some (vi l5), some (vr l6), some (vi l7), some (vi l8), some (vi l9), z10] [vI s2, vI s1, vR s0] w Q := by
  unfold c155_j103 at e
  obtain ⟨h17, e17, e⟩ := ob e
  refine hg_wId rfl A rs2 e17 (fun w17 A17 => ?_)
  refine hg_run 2 (pc' := 107) (ls' := [some (vr 48), some (vr l1), some (vr l2), some (vr l3), some (vr l4), some (vi l5), some (vr l6), some (vi l7), some (vi l8), some (vi l9), z10]) (st' := [vI (-1), vI l9]) rfl ?_
  rcases oi e with ⟨q18, e⟩ | ⟨q18, e⟩
  · refine hg_icT (tgt := 119) rfl (by decide) rl9 (rgn (-1) rfl) q18 ?_
    exact t155_j119 hd rl7 rl8 A17 e kb ke kr
  · refine hg_icF (tgt := 119) rfl (by decide) rl9 (rgn (-1) rfl) q18 ?_
    refine hg_run 1 (pc' := 111) (ls' := [some (vr 48), some (vr l1), some (vr l2), some (vr l3), some (vr l4), some (vi l5), some (vr l6), some (vi l7), some (vi l8), some (vi l9), z10]) (st' := [vR 48]) rfl ?_
    refine gs_48_14 rfl A17 ?_
    refine hg_run 2 (pc' := 118) (ls' := [some (vr 48), some (vr l1), some (vr l2), some (vr l3), some (vr l4), some (vi l5), some (vr l6), some (vi l7), some (vi l8), some (vi l9), z10]) (st' := [vI l8, vI l9, vR 52]) rfl ?_
    obtain ⟨h32, e32, e⟩ := ob e
    refine hg_wIs rfl A17 (Abs_ks A17 (i := 22) rfl) (by decide) rl8 e32 (fun w32 A32 => ?_)
    exact t155_j119 hd rl7 rl8 A32 e kb ke kr
def c155_b38 (l1 : Nat) (l2 : Nat) (l3 : Nat) (l4 : Nat) (l6 : Nat) (l7 : Int) (h : hS) : Option ((Int × hS) ⊕ ((hS) ⊕ (Int × hS))) :=
  (gI h l6 24 4).bind (fun v6 =>
  if v6 ≤ l7 then
  some (.inr (.inl (h)))
  else
  (gR h l6 24 5).bind (fun v8 =>
  (aI h v8 1 l7).bind (fun v9 =>
  (gR h l3 16 2).bind (fun v10 =>
  (kT h l2 18).bind (fun u12 =>
  (c158 l2 l6 l7 v10 h).bind (fun v11 =>
  (gR h l4 16 3).bind (fun v13 =>
  if v11 = (-1) then
  (gR h l6 24 6).bind (fun v33 =>
  (aI h v33 1 l7).bind (fun v34 =>
  c155_j103 v13 v9 v34 l1 l3 l4 l7 v9 v11 h))
  else
  (gR h l3 16 3).bind (fun v15 =>
  (aI h v15 1 v11).bind (fun v16 =>
  c155_j103 v13 v9 v16 l1 l3 l4 l7 v9 v11 h)))))))))
set_option maxRecDepth 100000 in
theorem t155_b38 {d : Nat} (hd : 4 ≤ d) {l1 : Nat} {l2 : Nat} {l3 : Nat} {l4 : Nat} {l6 : Nat} {l7 : Int} {l5 : Int} {z8 : Option hO} {z9 : Option hO} {z10 : Option hO} {h : hS} {w : mmW} {o : (Int × hS) ⊕ ((hS) ⊕ (Int × hS))} {Q : mmO → Prop} (rl7 : rg l7) (A : Abs h w) (e : c155_b38 l1 l2 l3 l4 l6 l7 h = some o) (kb : ∀ (s_0 : Int) (s_1 : hS), o = .inl (s_0, s_1) → ∀ w', ∀ (y8 y9 y10 : Option hO), rg s_0 → Abs s_1 w' → hG d 155 38 [some (vr 48), some (vr l1), some (vr l2), some (vr l3), some (vr l4), some (vi l5), some (vr l6), some (vi s_0), y8, y9, y10] [] w' Q) (ke : ∀ (x_0 : hS), o = .inr (.inl (x_0)) → ∀ w', ∀ (y7 y8 y9 y10 : Option hO), Abs x_0 w' → hG d 155 190 [some (vr 48), some (vr l1), some (vr l2), some (vr l3), some (vr l4), some (vi l5), some (vr l6), y7, y8, y9, y10] [] w' Q) (kr : ∀ (v1 : Int) (h1 : hS), o = .inr (.inr (v1, h1)) → ∀ w', rg v1 → Abs h1 w' → Q (some (.int (Int32.ofInt v1)), w')) : hG d 155 38 [some (vr 48), some (vr l1), some (vr l2), some (vr l3), some (vr l4), some (vi l5), some (vr l6), some (vi l7), z8, z9, z10] [] w Q := by
  unfold c155_b38 at e
  refine hg_run 2 (pc' := 42) (ls' := [some (vr 48), some (vr l1), some (vr l2), some (vr l3), some (vr l4), some (vi l5), some (vr l6), some (vi l7), z8, z9, z10]) (st' := [vR l6, vI l7]) rfl ?_
  obtain ⟨v6, e6, e⟩ := ob e
  refine gd_11_4 rfl A e6 (fun r6 => ?_)
  rcases oi e with ⟨q7, e⟩ | ⟨q7, e⟩
  · refine hg_icT (tgt := 190) rfl (by decide) rl7 r6 q7 ?_
    cases e
    exact ke h rfl _ _ _ _ _  A
  · refine hg_icF (tgt := 190) rfl (by decide) rl7 r6 q7 ?_
    refine hg_run 1 (pc' := 50) (ls' := [some (vr 48), some (vr l1), some (vr l2), some (vr l3), some (vr l4), some (vi l5), some (vr l6), some (vi l7), z8, z9, z10]) (st' := [vR l6]) rfl ?_
    obtain ⟨v8, e8, e⟩ := ob e
    refine gd_11_5 rfl A e8 ?_
    refine hg_run 1 (pc' := 55) (ls' := [some (vr 48), some (vr l1), some (vr l2), some (vr l3), some (vr l4), some (vi l5), some (vr l6), some (vi l7), z8, z9, z10]) (st' := [vI l7, vR v8]) rfl ?_
    obtain ⟨v9, e9, e⟩ := ob e
    refine hg_aId 0 rfl (fun _ _ _ _ => rfl) A rfl (by decide) e9 (fun r9 => ?_)
    refine hg_run 5 (pc' := 64) (ls' := [some (vr 48), some (vr l1), some (vr l2), some (vr l3), some (vr l4), some (vi l5), some (vr l6), some (vi l7), some (vi v9), z9, z10]) (st' := [vR l3, vI l7, vR l6, vR l2]) rfl ?_
    obtain ⟨v10, e10, e⟩ := ob e
    refine gd_7_2 rfl A e10 ?_
    obtain ⟨u12, e12, e⟩ := ob e
    obtain ⟨v11, e11, e⟩ := ob e
    refine hg_cIp (as := [vR l2, vR l6, vI l7, vR v10]) (st' := []) rfl (fun _ _ _ _ => rfl) rfl rfl (Nat.le_of_ble_eq_true rfl) (Nat.le_of_ble_eq_true rfl) (recvV A (a := 8) (kT_e e12)) (t158 (by omega) A rl7 e11) (fun r11 => ?_)
    refine hg_run 2 (pc' := 74) (ls' := [some (vr 48), some (vr l1), some (vr l2), some (vr l3), some (vr l4), some (vi l5), some (vr l6), some (vi l7), some (vi v9), some (vi v11), z10]) (st' := [vR l4]) rfl ?_
    obtain ⟨v13, e13, e⟩ := ob e
    refine gd_7_3 rfl A e13 ?_
    refine hg_run 3 (pc' := 82) (ls' := [some (vr 48), some (vr l1), some (vr l2), some (vr l3), some (vr l4), some (vi l5), some (vr l6), some (vi l7), some (vi v9), some (vi v11), z10]) (st' := [vI (-1), vI v11, vI v9, vR v13]) rfl ?_
    rcases oi e with ⟨q14, e⟩ | ⟨q14, e⟩
    · refine hg_icF (tgt := 96) rfl (by decide) r11 (rgn (-1) rfl) (show ¬ ¬ (v11 = (-1)) from fun f => f q14) ?_
      refine hg_run 1 (pc' := 87) (ls' := [some (vr 48), some (vr l1), some (vr l2), some (vr l3), some (vr l4), some (vi l5), some (vr l6), some (vi l7), some (vi v9), some (vi v11), z10]) (st' := [vR l6, vI v9, vR v13]) rfl ?_
      obtain ⟨v33, e33, e⟩ := ob e
      refine gd_11_6 rfl A e33 ?_
      refine hg_run 1 (pc' := 92) (ls' := [some (vr 48), some (vr l1), some (vr l2), some (vr l3), some (vr l4), some (vi l5), some (vr l6), some (vi l7), some (vi v9), some (vi v11), z10]) (st' := [vI l7, vR v33, vI v9, vR v13]) rfl ?_
      obtain ⟨v34, e34, e⟩ := ob e
      refine hg_aId 0 rfl (fun _ _ _ _ => rfl) A rfl (by decide) e34 (fun r34 => ?_)
      refine hg_run 1 (pc' := 103) (ls' := [some (vr 48), some (vr l1), some (vr l2), some (vr l3), some (vr l4), some (vi l5), some (vr l6), some (vi l7), some (vi v9), some (vi v11), z10]) (st' := [vI v34, vI v9, vR v13]) rfl ?_
      exact t155_j103 hd r9 r34 rl7 r9 r11 A e kb ke kr
    · refine hg_icT (tgt := 96) rfl (by decide) r11 (rgn (-1) rfl) (show ¬ (v11 = (-1)) from q14) ?_
      refine hg_run 1 (pc' := 97) (ls' := [some (vr 48), some (vr l1), some (vr l2), some (vr l3), some (vr l4), some (vi l5), some (vr l6), some (vi l7), some (vi v9), some (vi v11), z10]) (st' := [vR l3, vI v9, vR v13]) rfl ?_
      obtain ⟨v15, e15, e⟩ := ob e
      refine gd_7_3 rfl A e15 ?_
      refine hg_run 1 (pc' := 102) (ls' := [some (vr 48), some (vr l1), some (vr l2), some (vr l3), some (vr l4), some (vi l5), some (vr l6), some (vi l7), some (vi v9), some (vi v11), z10]) (st' := [vI v11, vR v15, vI v9, vR v13]) rfl ?_
      obtain ⟨v16, e16, e⟩ := ob e
      refine hg_aId 0 rfl (fun _ _ _ _ => rfl) A rfl (by decide) e16 (fun r16 => ?_)
      exact t155_j103 hd r9 r16 rl7 r9 r11 A e kb ke kr
set_option maxRecDepth 100000 in
theorem t155_l38 {d : Nat} (hd : 4 ≤ d) {l1 : Nat} {l2 : Nat} {l3 : Nat} {l4 : Nat} {l6 : Nat} {l5 : Int} {Q : mmO → Prop}  (n : Nat) {l7 : Int} {z8 z9 z10 : Option hO} {h : hS} {w : mmW} {r : (hS) ⊕ (Int × hS)} (rl7 : rg l7) (A : Abs h w) (e : lp (fun s => c155_b38 l1 l2 l3 l4 l6 s.1 s.2) n (l7, h) = some r) (ke : ∀ (x_0 : hS), r = .inl (x_0) → ∀ w', ∀ (y7 y8 y9 y10 : Option hO), Abs x_0 w' → hG d 155 190 [some (vr 48), some (vr l1), some (vr l2), some (vr l3), some (vr l4), some (vi l5), some (vr l6), y7, y8, y9, y10] [] w' Q) (kr : ∀ (v1 : Int) (h1 : hS), r = .inr (v1, h1) → ∀ w', rg v1 → Abs h1 w' → Q (some (.int (Int32.ofInt v1)), w')) : hG d 155 38 [some (vr 48), some (vr l1), some (vr l2), some (vr l3), some (vr l4), some (vi l5), some (vr l6), some (vi l7), z8, z9, z10] [] w Q := by
  induction n generalizing l7 z8 z9 z10 h w with
  | zero => cases e
  | succ n ih =>
    rcases lp_succ e with ⟨s1, e1, e2⟩ | e1
    · exact t155_b38 hd rl7 A e1 (fun s_0 s_1 q w1 y8 y9 y10 rl7 A1 => by cases q; exact ih rl7 A1 e2) (fun x_0 q => by cases q) (fun v0 h0 q => by cases q)
    · exact t155_b38 hd rl7 A e1 (fun s_0 s_1 q => by cases q) (fun x_0 q => by cases q; exact ke _ rfl) (fun v0 h0 q => by cases q; exact kr _ _ rfl)
def c155_b21 (l1 : Nat) (l2 : Nat) (l3 : Nat) (l4 : Nat) (l5 : Int) (h : hS) : Option ((Int × hS) ⊕ ((hS) ⊕ (Int × hS))) :=
  if l5 < 0 then
  some (.inr (.inl (h)))
  else
  (aRs h 51 12 l5).bind (fun v5 =>
  (lp (fun s => c155_b38 l1 l2 l3 l4 v5 s.1 s.2) hF0 (0, h)).bind (fun r35 => xs r35 (fun x35 =>
  some (.inl ((wadd l5 (-1)), x35))) (fun o35 => some (.inr (.inr o35)))))
set_option maxRecDepth 100000 in
theorem t155_b21 {d : Nat} (hd : 4 ≤ d) {l1 : Nat} {l2 : Nat} {l3 : Nat} {l4 : Nat} {l5 : Int} {z6 : Option hO} {z7 : Option hO} {z8 : Option hO} {z9 : Option hO} {z10 : Option hO} {h : hS} {w : mmW} {o : (Int × hS) ⊕ ((hS) ⊕ (Int × hS))} {Q : mmO → Prop} (rl5 : rg l5) (A : Abs h w) (e : c155_b21 l1 l2 l3 l4 l5 h = some o) (kb : ∀ (s_0 : Int) (s_1 : hS), o = .inl (s_0, s_1) → ∀ w', ∀ (y6 y7 y8 y9 y10 : Option hO), rg s_0 → Abs s_1 w' → hG d 155 21 [some (vr 48), some (vr l1), some (vr l2), some (vr l3), some (vr l4), some (vi s_0), y6, y7, y8, y9, y10] [] w' Q) (ke : ∀ (x_0 : hS), o = .inr (.inl (x_0)) → ∀ w', ∀ (y5 y6 y7 y8 y9 y10 : Option hO), Abs x_0 w' → hG d 155 196 [some (vr 48), some (vr l1), some (vr l2), some (vr l3), some (vr l4), y5, y6, y7, y8, y9, y10] [] w' Q) (kr : ∀ (v1 : Int) (h1 : hS), o = .inr (.inr (v1, h1)) → ∀ w', rg v1 → Abs h1 w' → Q (some (.int (Int32.ofInt v1)), w')) : hG d 155 21 [some (vr 48), some (vr l1), some (vr l2), some (vr l3), some (vr l4), some (vi l5), z6, z7, z8, z9, z10] [] w Q := by
  unfold c155_b21 at e
  refine hg_run 1 (pc' := 23) (ls' := [some (vr 48), some (vr l1), some (vr l2), some (vr l3), some (vr l4), some (vi l5), z6, z7, z8, z9, z10]) (st' := [vI l5]) rfl ?_
  rcases oi e with ⟨q4, e⟩ | ⟨q4, e⟩
  · refine hg_ifT (tgt := 196) rfl (by decide) rl5 q4 ?_
    cases e
    exact ke h rfl _ _ _ _ _ _ _  A
  · refine hg_ifF (tgt := 196) rfl (by decide) rl5 q4 ?_
    refine hg_run 1 (pc' := 27) (ls' := [some (vr 48), some (vr l1), some (vr l2), some (vr l3), some (vr l4), some (vi l5), z6, z7, z8, z9, z10]) (st' := [vR 48]) rfl ?_
    refine gs_48_13 rfl A ?_
    refine hg_run 1 (pc' := 32) (ls' := [some (vr 48), some (vr l1), some (vr l2), some (vr l3), some (vr l4), some (vi l5), z6, z7, z8, z9, z10]) (st' := [vI l5, vR 51]) rfl ?_
    obtain ⟨v5, e5, e⟩ := ob e
    refine hg_aRs 8 rfl (fun _ _ _ _ => rfl) A (Abs_ks A (i := 21) rfl) rfl (by decide) e5 ?_
    refine hg_run 3 (pc' := 38) (ls' := [some (vr 48), some (vr l1), some (vr l2), some (vr l3), some (vr l4), some (vi l5), some (vr v5), some (vi 0), z8, z9, z10]) (st' := []) rfl ?_
    obtain ⟨r35, e35, e⟩ := ob e
    refine t155_l38 hd  _ (rgn 0 rfl) A e35 ?_ ?_
    · intro x35_0 qq35 w35 z35_7 z35_8 z35_9 z35_10 A35
      subst qq35
      have e := xs_l e
      refine hg_run 2 (pc' := 21) (ls' := [some (vr 48), some (vr l1), some (vr l2), some (vr l3), some (vr l4), some (vi (wadd l5 (-1))), some (vr v5), z35_7, z35_8, z35_9, z35_10]) (st' := []) rfl ?_
      cases e
      exact kb (wadd l5 (-1)) x35_0 rfl _ _ _ _ _ _ (rg_add _ _) A35
    · intro v35 h35 qq35 w35 r35 A35
      subst qq35
      have e := xs_r e
      cases e
      exact kr _ _ rfl w35 r35 A35
set_option maxRecDepth 100000 in
theorem t155_l21 {d : Nat} (hd : 4 ≤ d) {l1 : Nat} {l2 : Nat} {l3 : Nat} {l4 : Nat}  {Q : mmO → Prop}  (n : Nat) {l5 : Int} {z6 z7 z8 z9 z10 : Option hO} {h : hS} {w : mmW} {r : (hS) ⊕ (Int × hS)} (rl5 : rg l5) (A : Abs h w) (e : lp (fun s => c155_b21 l1 l2 l3 l4 s.1 s.2) n (l5, h) = some r) (ke : ∀ (x_0 : hS), r = .inl (x_0) → ∀ w', ∀ (y5 y6 y7 y8 y9 y10 : Option hO), Abs x_0 w' → hG d 155 196 [some (vr 48), some (vr l1), some (vr l2), some (vr l3), some (vr l4), y5, y6, y7, y8, y9, y10] [] w' Q) (kr : ∀ (v1 : Int) (h1 : hS), r = .inr (v1, h1) → ∀ w', rg v1 → Abs h1 w' → Q (some (.int (Int32.ofInt v1)), w')) : hG d 155 21 [some (vr 48), some (vr l1), some (vr l2), some (vr l3), some (vr l4), some (vi l5), z6, z7, z8, z9, z10] [] w Q := by
  induction n generalizing l5 z6 z7 z8 z9 z10 h w with
  | zero => cases e
  | succ n ih =>
    rcases lp_succ e with ⟨s1, e1, e2⟩ | e1
    · exact t155_b21 hd rl5 A e1 (fun s_0 s_1 q w1 y6 y7 y8 y9 y10 rl5 A1 => by cases q; exact ih rl5 A1 e2) (fun x_0 q => by cases q) (fun v0 h0 q => by cases q)
    · exact t155_b21 hd rl5 A e1 (fun s_0 s_1 q => by cases q) (fun x_0 q => by cases q; exact ke _ rfl) (fun v0 h0 q => by cases q; exact kr _ _ rfl)
def c155 (l1 : Nat) (l2 : Nat) (l3 : Nat) (l4 : Nat) (h : hS) : Option (Int × hS) :=
  (c156 52 (-1) h).bind (fun h1 =>
  (gR h1 l4 16 2).bind (fun v2 =>
  (c157 v2 h1).bind (fun v3 =>
  (lp (fun s => c155_b21 l1 l2 l3 l4 s.1 s.2) hF0 ((wsub v3.1 1), v3.2)).bind (fun r36 => xs r36 (fun x36 =>
  (c163 l3 l4 x36).bind (fun h37 =>
  some (1, h37))) (fun o36 => some o36)))))
set_option maxRecDepth 100000 in
theorem t155 {d : Nat} (hd : 5 ≤ d) {l1 : Nat} {l2 : Nat} {l3 : Nat} {l4 : Nat} {h : hS} {w : mmW} {o : Int × hS} (A : Abs h w)  (e : c155 l1 l2 l3 l4 h = some o) : hEv d 155 [vR 48, vR l1, vR l2, vR l3, vR l4] w (qI o) := by
  obtain ⟨d, rfl⟩ : ∃ d1, d = d1 + 1 := ⟨d - 1, by omega⟩
  have hd : 4 ≤ d := by omega
  refine hEv_start (args := [vr 48, vr l1, vr l2, vr l3, vr l4]) (nl := 11) rfl (Nat.le_of_ble_eq_true rfl) ?_
  show hG d 155 0 [some (vr 48), some (vr l1), some (vr l2), some (vr l3), some (vr l4), none, none, none, none, none, none] [] w _
  have kr : ∀ (v1 : Int) (h1 : hS), o = (v1, h1) → ∀ w', rg v1 → Abs h1 w' → qI o (some (.int (Int32.ofInt v1)), w') := fun v1 h1 q w' r A' => by cases q; exact ⟨rfl, r, A'⟩
  unfold c155 at e
  refine hg_run 1 (pc' := 1) (ls' := [some (vr 48), some (vr l1), some (vr l2), some (vr l3), some (vr l4), none, none, none, none, none, none]) (st' := [vR 48]) rfl ?_
  refine gs_48_14 rfl A ?_
  refine hg_run 1 (pc' := 5) (ls' := [some (vr 48), some (vr l1), some (vr l2), some (vr l3), some (vr l4), none, none, none, none, none, none]) (st' := [vI (-1), vR 52]) rfl ?_
  obtain ⟨h1, e1, e⟩ := ob e
  refine hg_cV (as := [vR 52, vI (-1)]) (st' := []) rfl (fun _ _ _ _ => rfl) rfl rfl (Nat.le_of_ble_eq_true rfl) (Nat.le_of_ble_eq_true rfl) recv0 (t156 (by omega) A (rgn (-1) rfl) e1) (fun w1 A1 => ?_)
  refine hg_run 2 (pc' := 11) (ls' := [some (vr 48), some (vr l1), some (vr l2), some (vr l3), some (vr l4), none, none, none, none, none, none]) (st' := [vR l4, vR 48]) rfl ?_
  obtain ⟨v2, e2, e⟩ := ob e
  refine gd_7_2 rfl A1 e2 ?_
  obtain ⟨v3, e3, e⟩ := ob e
  refine hg_cI (as := [vR 48, vR v2]) (st' := []) rfl (fun _ _ _ _ => rfl) rfl rfl (Nat.le_of_ble_eq_true rfl) (Nat.le_of_ble_eq_true rfl) (recvV A1 (a := 6) (Abs_ks A1 (i := 18) rfl).1) (t157 (by omega) A1  e3) (fun w3 r3 A3 => ?_)
  refine hg_run 3 (pc' := 21) (ls' := [some (vr 48), some (vr l1), some (vr l2), some (vr l3), some (vr l4), some (vi (wsub v3.1 1)), none, none, none, none, none]) (st' := []) rfl ?_
  obtain ⟨r36, e36, e⟩ := ob e
  refine t155_l21 hd  _ (rg_sub _ _) A3 e36 ?_ ?_
  · intro x36_0 qq36 w36 z36_5 z36_6 z36_7 z36_8 z36_9 z36_10 A36
    subst qq36
    have e := xs_l e
    refine hg_run 3 (pc' := 200) (ls' := [some (vr 48), some (vr l1), some (vr l2), some (vr l3), some (vr l4), z36_5, z36_6, z36_7, z36_8, z36_9, z36_10]) (st' := [vR l4, vR l3, vR 48]) rfl ?_
    obtain ⟨h37, e37, e⟩ := ob e
    refine hg_cV (as := [vR 48, vR l3, vR l4]) (st' := []) rfl (fun _ _ _ _ => rfl) rfl rfl (Nat.le_of_ble_eq_true rfl) (Nat.le_of_ble_eq_true rfl) (recvV A36 (a := 6) (Abs_ks A36 (i := 18) rfl).1) (t163 (by omega) A36  e37) (fun w37 A37 => ?_)
    refine hg_run 1 (pc' := 204) (ls' := [some (vr 48), some (vr l1), some (vr l2), some (vr l3), some (vr l4), z36_5, z36_6, z36_7, z36_8, z36_9, z36_10]) (st' := [vI 1]) rfl ?_
    cases e
    exact hg_retI rfl (by decide) (fit_B (.inr rfl)) (kr _ _ rfl _ (rgn 1 rfl) A37)
  · intro v36 h36 qq36 w36 r36 A36
    subst qq36
    have e := xs_r e
    cases e
    exact kr _ _ rfl w36 r36 A36
def c153_j106 (l3 : Int) (h : hS) : Option ((Int × hS) ⊕ ((hS) ⊕ (Int × hS))) :=
  some (.inl ((wadd l3 1), h))
theorem t153_j106 {d : Nat} (hd : 5 ≤ d) {l3 : Int} {l1 : Nat} {l2 : Nat} {z4 : Option hO} {z5 : Option hO} {z6 : Option hO} {h : hS} {w : mmW} {o : (Int × hS) ⊕ ((hS) ⊕ (Int × hS))} {Q : mmO → Prop} (rl3 : rg l3) (A : Abs h w) (e : c153_j106 l3 h = some o) (kb : ∀ (s_0 : Int) (s_1 : hS), o = .inl (s_0, s_1) → ∀ w', ∀ (y4 y5 y6 : Option hO), rg s_0 → Abs s_1 w' → hG d 153 2 [some (vr 48), some (vr l1), some (vr l2), some (vi s_0), y4, y5, y6] [] w' Q) (ke : ∀ (x_0 : hS), o = .inr (.inl (x_0)) → ∀ w', ∀ (y3 y4 y5 y6 : Option hO), Abs x_0 w' → hG d 153 112 [some (vr 48), some (vr l1), some (vr l2), y3, y4, y5, y6] [] w' Q) (kr : ∀ (v1 : Int) (h1 : hS), o = .inr (.inr (v1, h1)) → ∀ w', rg v1 → Abs h1 w' → Q (some (.int (Int32.ofInt v1)), w')) : hG d 153 106 [some (vr 48), some (vr l1), some (vr l2), some (vi l3), z4, z5, z6] [] w Q := by
  unfold c153_j106 at e
  refine hg_run 2 (pc' := 2) (ls' := [some (vr 48), some (vr l1), some (vr l2), some (vi (wadd l3 1)), z4, z5, z6]) (st' := []) rfl ?_
  cases e
  exact kb (wadd l3 1) h rfl _ _ _ _ (rg_add _ _) A
def c153_b2 (l1 : Nat) (l2 : Nat) (l3 : Int) (h : hS) : Option ((Int × hS) ⊕ ((hS) ⊕ (Int × hS))) :=
  if 40 ≤ l3 then
  some (.inr (.inl (h)))
  else
  (aRs h 19 40 l3).bind (fun v2 =>
  (aRs h 49 40 l3).bind (fun v3 =>
  (kT h v3 16).bind (fun u5 =>
  (c154 v3 v2 h).bind (fun h4 =>
  (gI h4 v2 16 1).bind (fun v6 =>
  if v6 = 0 then
  c153_j106 l3 h4
  else
  (gR h4 v2 16 2).bind (fun v8 =>
  (gI h4 v8 24 0).bind (fun v9 =>
  (kT h4 l2 18).bind (fun u11 =>
  (c47 l2 v9 h4).bind (fun v10 =>
  (hnul v10).bind (fun b12 =>
  if b12 = true then
  (pI h4 v3 16 1 0).bind (fun h18 =>
  c153_j106 l3 h18)
  else
  (pR h4 v3 16 2 v10).bind (fun h13 =>
  (gI h13 v10 24 2).bind (fun v14 =>
  if v14 = (wadd (hI h13 48 9) 1) then
  (c155 l1 l2 v2 v3 h13).bind (fun v16 =>
  if v16.1 = 0 then
  some (.inr (.inr (0, v16.2)))
  else
  c153_j106 l3 v16.2)
  else
  c153_j106 l3 h13))))))))))))
theorem t153_b2 {d : Nat} (hd : 5 ≤ d) {l1 : Nat} {l2 : Nat} {l3 : Int} {z4 : Option hO} {z5 : Option hO} {z6 : Option hO} {h : hS} {w : mmW} {o : (Int × hS) ⊕ ((hS) ⊕ (Int × hS))} {Q : mmO → Prop} (rl3 : rg l3) (A : Abs h w) (e : c153_b2 l1 l2 l3 h = some o) (kb : ∀ (s_0 : Int) (s_1 : hS), o = .inl (s_0, s_1) → ∀ w', ∀ (y4 y5 y6 : Option hO), rg s_0 → Abs s_1 w' → hG d 153 2 [some (vr 48), some (vr l1), some (vr l2), some (vi s_0), y4, y5, y6] [] w' Q) (ke : ∀ (x_0 : hS), o = .inr (.inl (x_0)) → ∀ w', ∀ (y3 y4 y5 y6 : Option hO), Abs x_0 w' → hG d 153 112 [some (vr 48), some (vr l1), some (vr l2), y3, y4, y5, y6] [] w' Q) (kr : ∀ (v1 : Int) (h1 : hS), o = .inr (.inr (v1, h1)) → ∀ w', rg v1 → Abs h1 w' → Q (some (.int (Int32.ofInt v1)), w')) : hG d 153 2 [some (vr 48), some (vr l1), some (vr l2), some (vi l3), z4, z5, z6] [] w Q := by
  unfold c153_b2 at e
  refine hg_run 2 (pc' := 5) (ls' := [some (vr 48), some (vr l1), some (vr l2), some (vi l3), z4, z5, z6]) (st' := [vI 40, vI l3]) rfl ?_
  rcases oi e with ⟨q1, e⟩ | ⟨q1, e⟩
  · refine hg_icT (tgt := 112) rfl (by decide) rl3 (rgn 40 rfl) q1 ?_
    cases e
    exact ke h rfl _ _ _ _ _  A
  · refine hg_icF (tgt := 112) rfl (by decide) rl3 (rgn 40 rfl) q1 ?_
    refine hg_run 1 (pc' := 9) (ls' := [some (vr 48), some (vr l1), some (vr l2), some (vi l3), z4, z5, z6]) (st' := [vR 48]) rfl ?_
    refine gs_48_0 rfl A ?_
    refine hg_run 1 (pc' := 13) (ls' := [some (vr 48), some (vr l1), some (vr l2), some (vi l3), z4, z5, z6]) (st' := [vI l3, vR 19]) rfl ?_
    obtain ⟨v2, e2, e⟩ := ob e
    refine hg_aRs 4 rfl (fun _ _ _ _ => rfl) A (Abs_ks A (i := 10) rfl) rfl (by decide) e2 ?_
    refine hg_run 2 (pc' := 17) (ls' := [some (vr 48), some (vr l1), some (vr l2), some (vi l3), some (vr v2), z5, z6]) (st' := [vR 48]) rfl ?_
    refine gs_48_2 rfl A ?_
    refine hg_run 1 (pc' := 21) (ls' := [some (vr 48), some (vr l1), some (vr l2), some (vi l3), some (vr v2), z5, z6]) (st' := [vI l3, vR 49]) rfl ?_
    obtain ⟨v3, e3, e⟩ := ob e
    refine hg_aRs 4 rfl (fun _ _ _ _ => rfl) A (Abs_ks A (i := 19) rfl) rfl (by decide) e3 ?_
    refine hg_run 3 (pc' := 28) (ls' := [some (vr 48), some (vr l1), some (vr l2), some (vi l3), some (vr v2), some (vr v3), z6]) (st' := [vR v2, vR v3]) rfl ?_
    obtain ⟨u5, e5, e⟩ := ob e
    obtain ⟨h4, e4, e⟩ := ob e
    refine hg_cV (as := [vR v3, vR v2]) (st' := []) rfl (fun _ _ _ _ => rfl) rfl rfl (Nat.le_of_ble_eq_true rfl) (Nat.le_of_ble_eq_true rfl) (recvV A (a := 7) (kT_e e5)) (t154 (by omega) A  e4) (fun w4 A4 => ?_)
    refine hg_run 1 (pc' := 33) (ls' := [some (vr 48), some (vr l1), some (vr l2), some (vi l3), some (vr v2), some (vr v3), z6]) (st' := [vR v2]) rfl ?_
    obtain ⟨v6, e6, e⟩ := ob e
    refine gd_7_1 rfl A4 e6 (fun r6 => ?_)
    rcases oi e with ⟨q7, e⟩ | ⟨q7, e⟩
    · refine hg_ifF (tgt := 42) rfl (by decide) r6 (show ¬ ¬ (v6 = 0) from fun f => f q7) ?_
      refine hg_run 1 (pc' := 106) (ls' := [some (vr 48), some (vr l1), some (vr l2), some (vi l3), some (vr v2), some (vr v3), z6]) (st' := []) rfl ?_
      exact t153_j106 hd rl3 A4 e kb ke kr
    · refine hg_ifT (tgt := 42) rfl (by decide) r6 (show ¬ (v6 = 0) from q7) ?_
      refine hg_run 2 (pc' := 45) (ls' := [some (vr 48), some (vr l1), some (vr l2), some (vi l3), some (vr v2), some (vr v3), z6]) (st' := [vR v2, vR l2]) rfl ?_
      obtain ⟨v8, e8, e⟩ := ob e
      refine gd_7_2 rfl A4 e8 ?_
      obtain ⟨v9, e9, e⟩ := ob e
      refine gd_11_0 rfl A4 e9 (fun r9 => ?_)
      obtain ⟨u11, e11, e⟩ := ob e
      obtain ⟨v10, e10, e⟩ := ob e
      refine hg_cRp (as := [vR l2, vI v9]) (st' := []) rfl (fun _ _ _ _ => rfl) rfl rfl (Nat.le_of_ble_eq_true rfl) (Nat.le_of_ble_eq_true rfl) (recvV A4 (a := 8) (kT_e e11)) (t47 (by omega) A4 r9 e10) ?_
      refine hg_run 2 (pc' := 58) (ls' := [some (vr 48), some (vr l1), some (vr l2), some (vi l3), some (vr v2), some (vr v3), some (vr v10)]) (st' := [vR v10]) rfl ?_
      obtain ⟨b12, e12, e⟩ := ob e
      rcases oi e with ⟨q12, e⟩ | ⟨q12, e⟩
      · refine hg_nul (yes := false) (tgt := 70) (t2 := 61) rfl (fun _ _ _ _ => rfl) (by decide) (ebT e12 q12) rfl ?_
        refine hg_run 2 (pc' := 64) (ls' := [some (vr 48), some (vr l1), some (vr l2), some (vi l3), some (vr v2), some (vr v3), some (vr v10)]) (st' := [vI 0, vR v3]) rfl ?_
        obtain ⟨h18, e18, e⟩ := ob e
        refine pd_7_1 rfl A4 (rgn 0 rfl) (.inl rfl) e18 (fun w18 A18 => ?_)
        refine hg_run 1 (pc' := 106) (ls' := [some (vr 48), some (vr l1), some (vr l2), some (vi l3), some (vr v2), some (vr v3), some (vr v10)]) (st' := []) rfl ?_
        exact t153_j106 hd rl3 A18 e kb ke kr
      · refine hg_nul (yes := false) (tgt := 70) (t2 := 70) rfl (fun _ _ _ _ => rfl) (by decide) (ebF e12 q12) rfl ?_
        refine hg_run 2 (pc' := 74) (ls' := [some (vr 48), some (vr l1), some (vr l2), some (vi l3), some (vr v2), some (vr v3), some (vr v10)]) (st' := [vR v10, vR v3]) rfl ?_
        obtain ⟨h13, e13, e⟩ := ob e
        refine pd_7_2 rfl A4 e13 (fun w13 A13 => ?_)
        refine hg_run 1 (pc' := 79) (ls' := [some (vr 48), some (vr l1), some (vr l2), some (vi l3), some (vr v2), some (vr v3), some (vr v10)]) (st' := [vR v10]) rfl ?_
        obtain ⟨v14, e14, e⟩ := ob e
        refine gd_11_2 rfl A13 e14 (fun r14 => ?_)
        refine hg_run 1 (pc' := 83) (ls' := [some (vr 48), some (vr l1), some (vr l2), some (vi l3), some (vr v2), some (vr v3), some (vr v10)]) (st' := [vR 48, vI v14]) rfl ?_
        refine gs_48_9 rfl A13 ?_
        refine hg_run 2 (pc' := 88) (ls' := [some (vr 48), some (vr l1), some (vr l2), some (vi l3), some (vr v2), some (vr v3), some (vr v10)]) (st' := [vI (wadd (hI h13 48 9) 1), vI v14]) rfl ?_
        rcases oi e with ⟨q15, e⟩ | ⟨q15, e⟩
        · refine hg_icF (tgt := 106) rfl (by decide) r14 (rg_add _ _) (show ¬ ¬ (v14 = (wadd (hI h13 48 9) 1)) from fun f => f q15) ?_
          refine hg_run 5 (pc' := 98) (ls' := [some (vr 48), some (vr l1), some (vr l2), some (vi l3), some (vr v2), some (vr v3), some (vr v10)]) (st' := [vR v3, vR v2, vR l2, vR l1, vR 48]) rfl ?_
          obtain ⟨v16, e16, e⟩ := ob e
          refine hg_cI (as := [vR 48, vR l1, vR l2, vR v2, vR v3]) (st' := []) rfl (fun _ _ _ _ => rfl) rfl rfl (Nat.le_of_ble_eq_true rfl) (Nat.le_of_ble_eq_true rfl) (recvV A13 (a := 6) (Abs_ks A13 (i := 18) rfl).1) (t155 (by omega) A13  e16) (fun w16 r16 A16 => ?_)
          rcases oi e with ⟨q17, e⟩ | ⟨q17, e⟩
          · refine hg_ifF (tgt := 106) rfl (by decide) r16 (show ¬ ¬ (v16.1 = 0) from fun f => f q17) ?_
            refine hg_run 1 (pc' := 105) (ls' := [some (vr 48), some (vr l1), some (vr l2), some (vi l3), some (vr v2), some (vr v3), some (vr v10)]) (st' := [vI 0]) rfl ?_
            cases e
            exact hg_retI rfl (by decide) (fit_B (.inl rfl)) (kr _ _ rfl _ (rgn 0 rfl) A16)
          · refine hg_ifT (tgt := 106) rfl (by decide) r16 (show ¬ (v16.1 = 0) from q17) ?_
            exact t153_j106 hd rl3 A16 e kb ke kr
        · refine hg_icT (tgt := 106) rfl (by decide) r14 (rg_add _ _) (show ¬ (v14 = (wadd (hI h13 48 9) 1)) from q15) ?_
          exact t153_j106 hd rl3 A13 e kb ke kr
theorem t153_l2 {d : Nat} (hd : 5 ≤ d) {l1 : Nat} {l2 : Nat}  {Q : mmO → Prop}  (n : Nat) {l3 : Int} {z4 z5 z6 : Option hO} {h : hS} {w : mmW} {r : (hS) ⊕ (Int × hS)} (rl3 : rg l3) (A : Abs h w) (e : lp (fun s => c153_b2 l1 l2 s.1 s.2) n (l3, h) = some r) (ke : ∀ (x_0 : hS), r = .inl (x_0) → ∀ w', ∀ (y3 y4 y5 y6 : Option hO), Abs x_0 w' → hG d 153 112 [some (vr 48), some (vr l1), some (vr l2), y3, y4, y5, y6] [] w' Q) (kr : ∀ (v1 : Int) (h1 : hS), r = .inr (v1, h1) → ∀ w', rg v1 → Abs h1 w' → Q (some (.int (Int32.ofInt v1)), w')) : hG d 153 2 [some (vr 48), some (vr l1), some (vr l2), some (vi l3), z4, z5, z6] [] w Q := by
  induction n generalizing l3 z4 z5 z6 h w with
  | zero => cases e
  | succ n ih =>
    rcases lp_succ e with ⟨s1, e1, e2⟩ | e1
    · exact t153_b2 hd rl3 A e1 (fun s_0 s_1 q w1 y4 y5 y6 rl3 A1 => by cases q; exact ih rl3 A1 e2) (fun x_0 q => by cases q) (fun v0 h0 q => by cases q)
    · exact t153_b2 hd rl3 A e1 (fun s_0 s_1 q => by cases q) (fun x_0 q => by cases q; exact ke _ rfl) (fun v0 h0 q => by cases q; exact kr _ _ rfl)
def c153 (l1 : Nat) (l2 : Nat) (h : hS) : Option (Int × hS) :=
  (lp (fun s => c153_b2 l1 l2 s.1 s.2) hF0 (0, h)).bind (fun r19 => xs r19 (fun x19 =>
  some (1, x19)) (fun o19 => some o19))
theorem t153 {d : Nat} (hd : 6 ≤ d) {l1 : Nat} {l2 : Nat} {h : hS} {w : mmW} {o : Int × hS} (A : Abs h w)  (e : c153 l1 l2 h = some o) : hEv d 153 [vR 48, vR l1, vR l2] w (qI o) := by
  obtain ⟨d, rfl⟩ : ∃ d1, d = d1 + 1 := ⟨d - 1, by omega⟩
  have hd : 5 ≤ d := by omega
  refine hEv_start (args := [vr 48, vr l1, vr l2]) (nl := 7) rfl (Nat.le_of_ble_eq_true rfl) ?_
  show hG d 153 0 [some (vr 48), some (vr l1), some (vr l2), none, none, none, none] [] w _
  have kr : ∀ (v1 : Int) (h1 : hS), o = (v1, h1) → ∀ w', rg v1 → Abs h1 w' → qI o (some (.int (Int32.ofInt v1)), w') := fun v1 h1 q w' r A' => by cases q; exact ⟨rfl, r, A'⟩
  unfold c153 at e
  refine hg_run 2 (pc' := 2) (ls' := [some (vr 48), some (vr l1), some (vr l2), some (vi 0), none, none, none]) (st' := []) rfl ?_
  obtain ⟨r19, e19, e⟩ := ob e
  refine t153_l2 hd  _ (rgn 0 rfl) A e19 ?_ ?_
  · intro x19_0 qq19 w19 z19_3 z19_4 z19_5 z19_6 A19
    subst qq19
    have e := xs_l e
    refine hg_run 1 (pc' := 113) (ls' := [some (vr 48), some (vr l1), some (vr l2), z19_3, z19_4, z19_5, z19_6]) (st' := [vI 1]) rfl ?_
    cases e
    exact hg_retI rfl (by decide) (fit_B (.inr rfl)) (kr _ _ rfl _ (rgn 1 rfl) A19)
  · intro v19 h19 qq19 w19 r19 A19
    subst qq19
    have e := xs_r e
    cases e
    exact kr _ _ rfl w19 r19 A19
def c164_j128 (l4 : Int) (h : hS) : Option ((Int × hS) ⊕ ((hS) ⊕ (Int × hS))) :=
  some (.inl ((wadd l4 1), h))
theorem t164_j128 {d : Nat} (hd : 4 ≤ d) {l4 : Int} {l1 : Nat} {l2 : Int} {l3 : Nat} {z5 : Option hO} {z6 : Option hO} {h : hS} {w : mmW} {o : (Int × hS) ⊕ ((hS) ⊕ (Int × hS))} {Q : mmO → Prop} (rl4 : rg l4) (A : Abs h w) (e : c164_j128 l4 h = some o) (kb : ∀ (s_0 : Int) (s_1 : hS), o = .inl (s_0, s_1) → ∀ w', ∀ (y5 y6 : Option hO), rg s_0 → Abs s_1 w' → hG d 164 28 [some (vr 48), some (vr l1), some (vi l2), some (vr l3), some (vi s_0), y5, y6] [] w' Q) (ke : ∀ (x_0 : hS), o = .inr (.inl (x_0)) → ∀ w', ∀ (y4 y5 y6 : Option hO), Abs x_0 w' → hG d 164 134 [some (vr 48), some (vr l1), some (vi l2), some (vr l3), y4, y5, y6] [] w' Q) (kr : ∀ (v1 : Int) (h1 : hS), o = .inr (.inr (v1, h1)) → ∀ w', rg v1 → Abs h1 w' → Q (some (.int (Int32.ofInt v1)), w')) : hG d 164 128 [some (vr 48), some (vr l1), some (vi l2), some (vr l3), some (vi l4), z5, z6] [] w Q := by
  unfold c164_j128 at e
  refine hg_run 2 (pc' := 28) (ls' := [some (vr 48), some (vr l1), some (vi l2), some (vr l3), some (vi (wadd l4 1)), z5, z6]) (st' := []) rfl ?_
  cases e
  exact kb (wadd l4 1) h rfl _ _ _ (rg_add _ _) A
def c164_j115 (l3 : Nat) (l4 : Int) (h : hS) : Option ((Int × hS) ⊕ ((hS) ⊕ (Int × hS))) :=
  (gI h l3 22 1).bind (fun v19 =>
  (c151 10 v19 l4 h).bind (fun v20 =>
  (kB v20.1).bind (fun u21 =>
  some (.inr (.inr (v20.1, v20.2))))))
theorem t164_j115 {d : Nat} (hd : 4 ≤ d) {l3 : Nat} {l4 : Int} {z1 : Option hO} {z2 : Option hO} {z5 : Option hO} {z6 : Option hO} {h : hS} {w : mmW} {o : (Int × hS) ⊕ ((hS) ⊕ (Int × hS))} {Q : mmO → Prop} (rl4 : rg l4) (A : Abs h w) (e : c164_j115 l3 l4 h = some o) (kb : ∀ (s_0 : Int) (s_1 : hS), o = .inl (s_0, s_1) → ∀ w', ∀ (y5 y6 : Option hO), rg s_0 → Abs s_1 w' → hG d 164 28 [some (vr 48), z1, z2, some (vr l3), some (vi s_0), y5, y6] [] w' Q) (ke : ∀ (x_0 : hS), o = .inr (.inl (x_0)) → ∀ w', ∀ (y4 y5 y6 : Option hO), Abs x_0 w' → hG d 164 134 [some (vr 48), z1, z2, some (vr l3), y4, y5, y6] [] w' Q) (kr : ∀ (v1 : Int) (h1 : hS), o = .inr (.inr (v1, h1)) → ∀ w', rg v1 → Abs h1 w' → Q (some (.int (Int32.ofInt v1)), w')) : hG d 164 115 [some (vr 48), z1, z2, some (vr l3), some (vi l4), z5, z6] [] w Q := by
  unfold c164_j115 at e
  refine hg_run 3 (pc' := 119) (ls' := [some (vr 48), z1, z2, some (vr l3), some (vi l4), z5, z6]) (st' := [vR l3, vI 10, vR 48]) rfl ?_
  obtain ⟨v19, e19, e⟩ := ob e
  refine gd_10_1 rfl A e19 (fun r19 => ?_)
  refine hg_run 1 (pc' := 124) (ls' := [some (vr 48), z1, z2, some (vr l3), some (vi l4), z5, z6]) (st' := [vI l4, vI v19, vI 10, vR 48]) rfl ?_
  obtain ⟨v20, e20, e⟩ := ob e
  refine hg_cI (as := [vR 48, vI 10, vI v19, vI l4]) (st' := []) rfl (fun _ _ _ _ => rfl) rfl rfl (Nat.le_of_ble_eq_true rfl) (Nat.le_of_ble_eq_true rfl) (recvV A (a := 6) (Abs_ks A (i := 18) rfl).1) (t151 (by omega) A (rgn 10 rfl) r19 rl4 e20) (fun w20 r20 A20 => ?_)
  obtain ⟨u21, e21, e⟩ := ob e
  cases e
  exact hg_retI rfl (by decide) (fit_B (kB_e e21)) (kr _ _ rfl _ r20 A20)
def c164_j82 (s0 : Int) (l3 : Nat) (l4 : Int) (l5 : Nat) (h : hS) : Option ((Int × hS) ⊕ ((hS) ⊕ (Int × hS))) :=
  if s0 = 0 then
  c164_j128 l4 h
  else
  (gR h l3 22 5).bind (fun v16 =>
  (c161 l5 v16 h).bind (fun v17 =>
  if v17.1 = 0 then
  c164_j115 l3 l4 v17.2
  else
  if (hI v17.2 22 8) = 0 then
  c164_j115 l3 l4 v17.2
  else
  c164_j128 l4 v17.2))
theorem t164_j82 {d : Nat} (hd : 4 ≤ d) {s0 : Int} {l3 : Nat} {l4 : Int} {l5 : Nat} {l1 : Nat} {l2 : Int} {z6 : Option hO} {h : hS} {w : mmW} {o : (Int × hS) ⊕ ((hS) ⊕ (Int × hS))} {Q : mmO → Prop} (rs0 : rg s0) (rl4 : rg l4) (A : Abs h w) (e : c164_j82 s0 l3 l4 l5 h = some o) (kb : ∀ (s_0 : Int) (s_1 : hS), o = .inl (s_0, s_1) → ∀ w', ∀ (y5 y6 : Option hO), rg s_0 → Abs s_1 w' → hG d 164 28 [some (vr 48), some (vr l1), some (vi l2), some (vr l3), some (vi s_0), y5, y6] [] w' Q) (ke : ∀ (x_0 : hS), o = .inr (.inl (x_0)) → ∀ w', ∀ (y4 y5 y6 : Option hO), Abs x_0 w' → hG d 164 134 [some (vr 48), some (vr l1), some (vi l2), some (vr l3), y4, y5, y6] [] w' Q) (kr : ∀ (v1 : Int) (h1 : hS), o = .inr (.inr (v1, h1)) → ∀ w', rg v1 → Abs h1 w' → Q (some (.int (Int32.ofInt v1)), w')) : hG d 164 82 [some (vr 48), some (vr l1), some (vi l2), some (vr l3), some (vi l4), some (vr l5), z6] [vI s0] w Q := by
  unfold c164_j82 at e
  refine hg_run 2 (pc' := 86) (ls' := [some (vr 48), some (vr l1), some (vi l2), some (vr l3), some (vi l4), some (vr l5), some (vi s0)]) (st' := [vI s0]) rfl ?_
  rcases oi e with ⟨q15, e⟩ | ⟨q15, e⟩
  · refine hg_ifT (tgt := 128) rfl (by decide) rs0 q15 ?_
    exact t164_j128 hd rl4 A e kb ke kr
  · refine hg_ifF (tgt := 128) rfl (by decide) rs0 q15 ?_
    refine hg_run 1 (pc' := 90) (ls' := [some (vr 48), some (vr l1), some (vi l2), some (vr l3), some (vi l4), some (vr l5), some (vi s0)]) (st' := [vR 48]) rfl ?_
    refine gs_48_1 rfl A ?_
    refine hg_run 2 (pc' := 96) (ls' := [some (vr 48), some (vr l1), some (vi l2), some (vr l3), some (vi l4), some (vr l5), some (vi s0)]) (st' := [vR l3, vR l5, vR 22]) rfl ?_
    obtain ⟨v16, e16, e⟩ := ob e
    refine gd_10_5 rfl A e16 ?_
    obtain ⟨v17, e17, e⟩ := ob e
    refine hg_cI (as := [vR 22, vR l5, vR v16]) (st' := []) rfl (fun _ _ _ _ => rfl) rfl rfl (Nat.le_of_ble_eq_true rfl) (Nat.le_of_ble_eq_true rfl) (recvV A (a := 4) (Abs_ks A (i := 13) rfl).1) (t161 (by omega) A  e17) (fun w17 r17 A17 => ?_)
    rcases oi e with ⟨q18, e⟩ | ⟨q18, e⟩
    · refine hg_ifT (tgt := 115) rfl (by decide) r17 q18 ?_
      exact t164_j115 hd rl4 A17 e kb ke kr
    · refine hg_ifF (tgt := 115) rfl (by decide) r17 q18 ?_
      refine hg_run 1 (pc' := 106) (ls' := [some (vr 48), some (vr l1), some (vi l2), some (vr l3), some (vi l4), some (vr l5), some (vi s0)]) (st' := [vR 48]) rfl ?_
      refine gs_48_1 rfl A17 ?_
      refine gs_22_8 rfl A17 ?_
      rcases oi e with ⟨q22, e⟩ | ⟨q22, e⟩
      · refine hg_ifF (tgt := 128) rfl (by decide) (Abs_rg A17 22 8) (show ¬ ¬ ((hI v17.2 22 8) = 0) from fun f => f q22) ?_
        exact t164_j115 hd rl4 A17 e kb ke kr
      · refine hg_ifT (tgt := 128) rfl (by decide) (Abs_rg A17 22 8) (show ¬ ((hI v17.2 22 8) = 0) from q22) ?_
        exact t164_j128 hd rl4 A17 e kb ke kr
def c164_j81 (l3 : Nat) (l4 : Int) (l5 : Nat) (h : hS) : Option ((Int × hS) ⊕ ((hS) ⊕ (Int × hS))) :=
  c164_j82 0 l3 l4 l5 h
theorem t164_j81 {d : Nat} (hd : 4 ≤ d) {l3 : Nat} {l4 : Int} {l5 : Nat} {l1 : Nat} {l2 : Int} {z6 : Option hO} {h : hS} {w : mmW} {o : (Int × hS) ⊕ ((hS) ⊕ (Int × hS))} {Q : mmO → Prop} (rl4 : rg l4) (A : Abs h w) (e : c164_j81 l3 l4 l5 h = some o) (kb : ∀ (s_0 : Int) (s_1 : hS), o = .inl (s_0, s_1) → ∀ w', ∀ (y5 y6 : Option hO), rg s_0 → Abs s_1 w' → hG d 164 28 [some (vr 48), some (vr l1), some (vi l2), some (vr l3), some (vi s_0), y5, y6] [] w' Q) (ke : ∀ (x_0 : hS), o = .inr (.inl (x_0)) → ∀ w', ∀ (y4 y5 y6 : Option hO), Abs x_0 w' → hG d 164 134 [some (vr 48), some (vr l1), some (vi l2), some (vr l3), y4, y5, y6] [] w' Q) (kr : ∀ (v1 : Int) (h1 : hS), o = .inr (.inr (v1, h1)) → ∀ w', rg v1 → Abs h1 w' → Q (some (.int (Int32.ofInt v1)), w')) : hG d 164 81 [some (vr 48), some (vr l1), some (vi l2), some (vr l3), some (vi l4), some (vr l5), z6] [] w Q := by
  unfold c164_j81 at e
  refine hg_run 1 (pc' := 82) (ls' := [some (vr 48), some (vr l1), some (vi l2), some (vr l3), some (vi l4), some (vr l5), z6]) (st' := [vI 0]) rfl ?_
  exact t164_j82 hd (rgn 0 rfl) rl4 A e kb ke kr
def c164_b28 (l3 : Nat) (l4 : Int) (h : hS) : Option ((Int × hS) ⊕ ((hS) ⊕ (Int × hS))) :=
  (gI h l3 22 0).bind (fun v9 =>
  if v9 = 221 then
  if 40 ≤ l4 then
  some (.inr (.inl (h)))
  else
  (aRs h 49 40 l4).bind (fun v12 =>
  (gI h v12 16 1).bind (fun v13 =>
  if v13 = 0 then
  c164_j81 l3 l4 v12 h
  else
  (gR h v12 16 2).bind (fun v23 =>
  (gI h l3 22 2).bind (fun v24 =>
  (kT h v23 24).bind (fun u26 =>
  (c150 v23 v24 h).bind (fun v25 =>
  if v25 = 0 then
  c164_j81 l3 l4 v12 h
  else
  c164_j82 1 l3 l4 v12 h))))))
  else
  some (.inr (.inl (h))))
theorem t164_b28 {d : Nat} (hd : 4 ≤ d) {l3 : Nat} {l4 : Int} {l1 : Nat} {l2 : Int} {z5 : Option hO} {z6 : Option hO} {h : hS} {w : mmW} {o : (Int × hS) ⊕ ((hS) ⊕ (Int × hS))} {Q : mmO → Prop} (rl4 : rg l4) (A : Abs h w) (e : c164_b28 l3 l4 h = some o) (kb : ∀ (s_0 : Int) (s_1 : hS), o = .inl (s_0, s_1) → ∀ w', ∀ (y5 y6 : Option hO), rg s_0 → Abs s_1 w' → hG d 164 28 [some (vr 48), some (vr l1), some (vi l2), some (vr l3), some (vi s_0), y5, y6] [] w' Q) (ke : ∀ (x_0 : hS), o = .inr (.inl (x_0)) → ∀ w', ∀ (y4 y5 y6 : Option hO), Abs x_0 w' → hG d 164 134 [some (vr 48), some (vr l1), some (vi l2), some (vr l3), y4, y5, y6] [] w' Q) (kr : ∀ (v1 : Int) (h1 : hS), o = .inr (.inr (v1, h1)) → ∀ w', rg v1 → Abs h1 w' → Q (some (.int (Int32.ofInt v1)), w')) : hG d 164 28 [some (vr 48), some (vr l1), some (vi l2), some (vr l3), some (vi l4), z5, z6] [] w Q := by
  unfold c164_b28 at e
  refine hg_run 1 (pc' := 29) (ls' := [some (vr 48), some (vr l1), some (vi l2), some (vr l3), some (vi l4), z5, z6]) (st' := [vR l3]) rfl ?_
  obtain ⟨v9, e9, e⟩ := ob e
  refine gd_10_0 rfl A e9 (fun r9 => ?_)
  refine hg_run 1 (pc' := 35) (ls' := [some (vr 48), some (vr l1), some (vi l2), some (vr l3), some (vi l4), z5, z6]) (st' := [vI 221, vI v9]) rfl ?_
  rcases oi e with ⟨q10, e⟩ | ⟨q10, e⟩
  · refine hg_icF (tgt := 134) rfl (by decide) r9 (rgn 221 rfl) (show ¬ ¬ (v9 = 221) from fun f => f q10) ?_
    refine hg_run 2 (pc' := 42) (ls' := [some (vr 48), some (vr l1), some (vi l2), some (vr l3), some (vi l4), z5, z6]) (st' := [vI 40, vI l4]) rfl ?_
    rcases oi e with ⟨q11, e⟩ | ⟨q11, e⟩
    · refine hg_icT (tgt := 134) rfl (by decide) rl4 (rgn 40 rfl) q11 ?_
      cases e
      exact ke h rfl _ _ _ _  A
    · refine hg_icF (tgt := 134) rfl (by decide) rl4 (rgn 40 rfl) q11 ?_
      refine hg_run 1 (pc' := 46) (ls' := [some (vr 48), some (vr l1), some (vi l2), some (vr l3), some (vi l4), z5, z6]) (st' := [vR 48]) rfl ?_
      refine gs_48_2 rfl A ?_
      refine hg_run 1 (pc' := 51) (ls' := [some (vr 48), some (vr l1), some (vi l2), some (vr l3), some (vi l4), z5, z6]) (st' := [vI l4, vR 49]) rfl ?_
      obtain ⟨v12, e12, e⟩ := ob e
      refine hg_aRs 4 rfl (fun _ _ _ _ => rfl) A (Abs_ks A (i := 19) rfl) rfl (by decide) e12 ?_
      refine hg_run 2 (pc' := 56) (ls' := [some (vr 48), some (vr l1), some (vi l2), some (vr l3), some (vi l4), some (vr v12), z6]) (st' := [vR v12]) rfl ?_
      obtain ⟨v13, e13, e⟩ := ob e
      refine gd_7_1 rfl A e13 (fun r13 => ?_)
      rcases oi e with ⟨q14, e⟩ | ⟨q14, e⟩
      · refine hg_ifT (tgt := 81) rfl (by decide) r13 q14 ?_
        exact t164_j81 hd rl4 A e kb ke kr
      · refine hg_ifF (tgt := 81) rfl (by decide) r13 q14 ?_
        refine hg_run 1 (pc' := 64) (ls' := [some (vr 48), some (vr l1), some (vi l2), some (vr l3), some (vi l4), some (vr v12), z6]) (st' := [vR v12]) rfl ?_
        obtain ⟨v23, e23, e⟩ := ob e
        refine gd_7_2 rfl A e23 ?_
        refine hg_run 1 (pc' := 68) (ls' := [some (vr 48), some (vr l1), some (vi l2), some (vr l3), some (vi l4), some (vr v12), z6]) (st' := [vR l3, vR v23]) rfl ?_
        obtain ⟨v24, e24, e⟩ := ob e
        refine gd_10_2 rfl A e24 (fun r24 => ?_)
        obtain ⟨u26, e26, e⟩ := ob e
        obtain ⟨v25, e25, e⟩ := ob e
        refine hg_cIp (as := [vR v23, vI v24]) (st' := []) rfl (fun _ _ _ _ => rfl) rfl rfl (Nat.le_of_ble_eq_true rfl) (Nat.le_of_ble_eq_true rfl) (recvV A (a := 11) (kT_e e26)) (t150 (by omega) A r24 e25) (fun r25 => ?_)
        rcases oi e with ⟨q27, e⟩ | ⟨q27, e⟩
        · refine hg_ifT (tgt := 81) rfl (by decide) r25 q27 ?_
          exact t164_j81 hd rl4 A e kb ke kr
        · refine hg_ifF (tgt := 81) rfl (by decide) r25 q27 ?_
          refine hg_run 2 (pc' := 82) (ls' := [some (vr 48), some (vr l1), some (vi l2), some (vr l3), some (vi l4), some (vr v12), z6]) (st' := [vI 1]) rfl ?_
          exact t164_j82 hd (rgn 1 rfl) rl4 A e kb ke kr
  · refine hg_icT (tgt := 134) rfl (by decide) r9 (rgn 221 rfl) (show ¬ (v9 = 221) from q10) ?_
    cases e
    exact ke h rfl _ _ _ _  A
theorem t164_l28 {d : Nat} (hd : 4 ≤ d) {l3 : Nat} {l1 : Nat} {l2 : Int} {Q : mmO → Prop}  (n : Nat) {l4 : Int} {z5 z6 : Option hO} {h : hS} {w : mmW} {r : (hS) ⊕ (Int × hS)} (rl4 : rg l4) (A : Abs h w) (e : lp (fun s => c164_b28 l3 s.1 s.2) n (l4, h) = some r) (ke : ∀ (x_0 : hS), r = .inl (x_0) → ∀ w', ∀ (y4 y5 y6 : Option hO), Abs x_0 w' → hG d 164 134 [some (vr 48), some (vr l1), some (vi l2), some (vr l3), y4, y5, y6] [] w' Q) (kr : ∀ (v1 : Int) (h1 : hS), r = .inr (v1, h1) → ∀ w', rg v1 → Abs h1 w' → Q (some (.int (Int32.ofInt v1)), w')) : hG d 164 28 [some (vr 48), some (vr l1), some (vi l2), some (vr l3), some (vi l4), z5, z6] [] w Q := by
  induction n generalizing l4 z5 z6 h w with
  | zero => cases e
  | succ n ih =>
    rcases lp_succ e with ⟨s1, e1, e2⟩ | e1
    · exact t164_b28 hd rl4 A e1 (fun s_0 s_1 q w1 y5 y6 rl4 A1 => by cases q; exact ih rl4 A1 e2) (fun x_0 q => by cases q) (fun v0 h0 q => by cases q)
    · exact t164_b28 hd rl4 A e1 (fun s_0 s_1 q => by cases q) (fun x_0 q => by cases q; exact ke _ rfl) (fun v0 h0 q => by cases q; exact kr _ _ rfl)
def c164_b2 (l1 : Nat) (l2 : Int) (h : hS) : Option ((Int × hS) ⊕ ((hS) ⊕ (Int × hS))) :=
  (gR h l1 26 0).bind (fun v1 =>
  (kT h v1 8).bind (fun u3 =>
  (c143 v1 h).bind (fun v2 =>
  if v2 ≤ l2 then
  some (.inr (.inl (h)))
  else
  (gR h l1 26 0).bind (fun v5 =>
  (kT h v5 8).bind (fun u7 =>
  (c144 v5 l2 h).bind (fun v6 =>
  (cC h v6 22).bind (fun u8 =>
  (lp (fun s => c164_b28 v6 s.1 s.2) hF0 (0, h)).bind (fun r28 => xs r28 (fun x28 =>
  some (.inl ((wadd l2 1), x28))) (fun o28 => some (.inr (.inr o28)))))))))))
theorem t164_b2 {d : Nat} (hd : 4 ≤ d) {l1 : Nat} {l2 : Int} {z3 : Option hO} {z4 : Option hO} {z5 : Option hO} {z6 : Option hO} {h : hS} {w : mmW} {o : (Int × hS) ⊕ ((hS) ⊕ (Int × hS))} {Q : mmO → Prop} (rl2 : rg l2) (A : Abs h w) (e : c164_b2 l1 l2 h = some o) (kb : ∀ (s_0 : Int) (s_1 : hS), o = .inl (s_0, s_1) → ∀ w', ∀ (y3 y4 y5 y6 : Option hO), rg s_0 → Abs s_1 w' → hG d 164 2 [some (vr 48), some (vr l1), some (vi s_0), y3, y4, y5, y6] [] w' Q) (ke : ∀ (x_0 : hS), o = .inr (.inl (x_0)) → ∀ w', ∀ (y2 y3 y4 y5 y6 : Option hO), Abs x_0 w' → hG d 164 140 [some (vr 48), some (vr l1), y2, y3, y4, y5, y6] [] w' Q) (kr : ∀ (v1 : Int) (h1 : hS), o = .inr (.inr (v1, h1)) → ∀ w', rg v1 → Abs h1 w' → Q (some (.int (Int32.ofInt v1)), w')) : hG d 164 2 [some (vr 48), some (vr l1), some (vi l2), z3, z4, z5, z6] [] w Q := by
  unfold c164_b2 at e
  refine hg_run 2 (pc' := 4) (ls' := [some (vr 48), some (vr l1), some (vi l2), z3, z4, z5, z6]) (st' := [vR l1, vI l2]) rfl ?_
  obtain ⟨v1, e1, e⟩ := ob e
  refine gd_12_0 rfl A e1 ?_
  obtain ⟨u3, e3, e⟩ := ob e
  obtain ⟨v2, e2, e⟩ := ob e
  refine hg_cIp (as := [vR v1]) (st' := [vI l2]) rfl (fun _ _ _ _ => rfl) rfl rfl (Nat.le_of_ble_eq_true rfl) (Nat.le_of_ble_eq_true rfl) (recvV A (a := 3) (kT_e e3)) (t143 (by omega) A  e2) (fun r2 => ?_)
  rcases oi e with ⟨q4, e⟩ | ⟨q4, e⟩
  · refine hg_icT (tgt := 140) rfl (by decide) rl2 r2 q4 ?_
    cases e
    exact ke h rfl _ _ _ _ _ _  A
  · refine hg_icF (tgt := 140) rfl (by decide) rl2 r2 q4 ?_
    refine hg_run 1 (pc' := 14) (ls' := [some (vr 48), some (vr l1), some (vi l2), z3, z4, z5, z6]) (st' := [vR l1]) rfl ?_
    obtain ⟨v5, e5, e⟩ := ob e
    refine gd_12_0 rfl A e5 ?_
    refine hg_run 1 (pc' := 18) (ls' := [some (vr 48), some (vr l1), some (vi l2), z3, z4, z5, z6]) (st' := [vI l2, vR v5]) rfl ?_
    obtain ⟨u7, e7, e⟩ := ob e
    obtain ⟨v6, e6, e⟩ := ob e
    refine hg_cRp (as := [vR v5, vI l2]) (st' := []) rfl (fun _ _ _ _ => rfl) rfl rfl (Nat.le_of_ble_eq_true rfl) (Nat.le_of_ble_eq_true rfl) (recvV A (a := 3) (kT_e e7)) (t144 (by omega) A rl2 e6) ?_
    obtain ⟨u8, e8, e⟩ := ob e
    refine hg_cast rfl A (cC_e e8) ?_
    refine hg_run 3 (pc' := 28) (ls' := [some (vr 48), some (vr l1), some (vi l2), some (vr v6), some (vi 0), z5, z6]) (st' := []) rfl ?_
    obtain ⟨r28, e28, e⟩ := ob e
    refine t164_l28 hd  _ (rgn 0 rfl) A e28 ?_ ?_
    · intro x28_0 qq28 w28 z28_4 z28_5 z28_6 A28
      subst qq28
      have e := xs_l e
      refine hg_run 2 (pc' := 2) (ls' := [some (vr 48), some (vr l1), some (vi (wadd l2 1)), some (vr v6), z28_4, z28_5, z28_6]) (st' := []) rfl ?_
      cases e
      exact kb (wadd l2 1) x28_0 rfl _ _ _ _ _ (rg_add _ _) A28
    · intro v28 h28 qq28 w28 r28 A28
      subst qq28
      have e := xs_r e
      cases e
      exact kr _ _ rfl w28 r28 A28
theorem t164_l2 {d : Nat} (hd : 4 ≤ d) {l1 : Nat}  {Q : mmO → Prop}  (n : Nat) {l2 : Int} {z3 z4 z5 z6 : Option hO} {h : hS} {w : mmW} {r : (hS) ⊕ (Int × hS)} (rl2 : rg l2) (A : Abs h w) (e : lp (fun s => c164_b2 l1 s.1 s.2) n (l2, h) = some r) (ke : ∀ (x_0 : hS), r = .inl (x_0) → ∀ w', ∀ (y2 y3 y4 y5 y6 : Option hO), Abs x_0 w' → hG d 164 140 [some (vr 48), some (vr l1), y2, y3, y4, y5, y6] [] w' Q) (kr : ∀ (v1 : Int) (h1 : hS), r = .inr (v1, h1) → ∀ w', rg v1 → Abs h1 w' → Q (some (.int (Int32.ofInt v1)), w')) : hG d 164 2 [some (vr 48), some (vr l1), some (vi l2), z3, z4, z5, z6] [] w Q := by
  induction n generalizing l2 z3 z4 z5 z6 h w with
  | zero => cases e
  | succ n ih =>
    rcases lp_succ e with ⟨s1, e1, e2⟩ | e1
    · exact t164_b2 hd rl2 A e1 (fun s_0 s_1 q w1 y3 y4 y5 y6 rl2 A1 => by cases q; exact ih rl2 A1 e2) (fun x_0 q => by cases q) (fun v0 h0 q => by cases q)
    · exact t164_b2 hd rl2 A e1 (fun s_0 s_1 q => by cases q) (fun x_0 q => by cases q; exact ke _ rfl) (fun v0 h0 q => by cases q; exact kr _ _ rfl)
def c164 (l1 : Nat) (h : hS) : Option (Int × hS) :=
  (lp (fun s => c164_b2 l1 s.1 s.2) hF0 (0, h)).bind (fun r29 => xs r29 (fun x29 =>
  some (1, x29)) (fun o29 => some o29))
theorem t164 {d : Nat} (hd : 5 ≤ d) {l1 : Nat} {h : hS} {w : mmW} {o : Int × hS} (A : Abs h w)  (e : c164 l1 h = some o) : hEv d 164 [vR 48, vR l1] w (qI o) := by
  obtain ⟨d, rfl⟩ : ∃ d1, d = d1 + 1 := ⟨d - 1, by omega⟩
  have hd : 4 ≤ d := by omega
  refine hEv_start (args := [vr 48, vr l1]) (nl := 7) rfl (Nat.le_of_ble_eq_true rfl) ?_
  show hG d 164 0 [some (vr 48), some (vr l1), none, none, none, none, none] [] w _
  have kr : ∀ (v1 : Int) (h1 : hS), o = (v1, h1) → ∀ w', rg v1 → Abs h1 w' → qI o (some (.int (Int32.ofInt v1)), w') := fun v1 h1 q w' r A' => by cases q; exact ⟨rfl, r, A'⟩
  unfold c164 at e
  refine hg_run 2 (pc' := 2) (ls' := [some (vr 48), some (vr l1), some (vi 0), none, none, none, none]) (st' := []) rfl ?_
  obtain ⟨r29, e29, e⟩ := ob e
  refine t164_l2 hd  _ (rgn 0 rfl) A e29 ?_ ?_
  · intro x29_0 qq29 w29 z29_2 z29_3 z29_4 z29_5 z29_6 A29
    subst qq29
    have e := xs_l e
    refine hg_run 1 (pc' := 141) (ls' := [some (vr 48), some (vr l1), z29_2, z29_3, z29_4, z29_5, z29_6]) (st' := [vI 1]) rfl ?_
    cases e
    exact hg_retI rfl (by decide) (fit_B (.inr rfl)) (kr _ _ rfl _ (rgn 1 rfl) A29)
  · intro v29 h29 qq29 w29 r29 A29
    subst qq29
    have e := xs_r e
    cases e
    exact kr _ _ rfl w29 r29 A29
def c139_j86 (l1 : Nat) (l3 : Nat) (h : hS) : Option (Nat × hS) :=
  (pI h l3 26 1 4).bind (fun h8 =>
  some (l1, h8))
set_option maxRecDepth 100000 in
theorem t139_j86 {d : Nat} (hd : 6 ≤ d) {l1 : Nat} {l3 : Nat} {z2 : Option hO} {z4 : Option hO} {z5 : Option hO} {h : hS} {w : mmW} {o : Nat × hS} {Q : mmO → Prop}  (A : Abs h w) (e : c139_j86 l1 l3 h = some o) (kr : ∀ (v1 : Nat) (h1 : hS), o = (v1, h1) → ∀ w', Abs h1 w' → Q (some (rv v1), w')) : hG d 139 86 [some (vr 48), some (vr l1), z2, some (vr l3), z4, z5] [] w Q := by
  unfold c139_j86 at e
  refine hg_run 2 (pc' := 88) (ls' := [some (vr 48), some (vr l1), z2, some (vr l3), z4, z5]) (st' := [vI 4, vR l3]) rfl ?_
  obtain ⟨h8, e8, e⟩ := ob e
  refine pd_12_1 rfl A (rgn 4 rfl) e8 (fun w8 A8 => ?_)
  refine hg_run 1 (pc' := 92) (ls' := [some (vr 48), some (vr l1), z2, some (vr l3), z4, z5]) (st' := [vR l1]) rfl ?_
  cases e
  exact hg_retR rfl (kr _ _ rfl _ A8)
def c139_b96 (l5 : Int) (h : hS) : Option ((Int × hS) ⊕ (hS)) :=
  if 40 ≤ l5 then
  some (.inr (h))
  else
  (aRs h 19 40 l5).bind (fun v14 =>
  (aRs h 49 40 l5).bind (fun v15 =>
  (kT h v14 16).bind (fun u17 =>
  (c154 v14 v15 h).bind (fun h16 =>
  some (.inl ((wadd l5 1), h16))))))
set_option maxRecDepth 100000 in
theorem t139_b96 {d : Nat} (hd : 6 ≤ d) {l5 : Int} {l1 : Nat} {z2 : Option hO} {l3 : Nat} {l4 : Nat} {h : hS} {w : mmW} {o : (Int × hS) ⊕ (hS)} {Q : mmO → Prop} (rl5 : rg l5) (A : Abs h w) (e : c139_b96 l5 h = some o) (kb : ∀ (s_0 : Int) (s_1 : hS), o = .inl (s_0, s_1) → ∀ w', rg s_0 → Abs s_1 w' → hG d 139 96 [some (vr 48), some (vr l1), z2, some (vr l3), some (vr l4), some (vi s_0)] [] w' Q) (ke : ∀ (x_0 : hS), o = .inr (x_0) → ∀ w', ∀ (y5 : Option hO), Abs x_0 w' → hG d 139 126 [some (vr 48), some (vr l1), z2, some (vr l3), some (vr l4), y5] [] w' Q) : hG d 139 96 [some (vr 48), some (vr l1), z2, some (vr l3), some (vr l4), some (vi l5)] [] w Q := by
  unfold c139_b96 at e
  refine hg_run 2 (pc' := 100) (ls' := [some (vr 48), some (vr l1), z2, some (vr l3), some (vr l4), some (vi l5)]) (st' := [vI 40, vI l5]) rfl ?_
  rcases oi e with ⟨q13, e⟩ | ⟨q13, e⟩
  · refine hg_icT (tgt := 126) rfl (by decide) rl5 (rgn 40 rfl) q13 ?_
    cases e
    exact ke h rfl _ _  A
  · refine hg_icF (tgt := 126) rfl (by decide) rl5 (rgn 40 rfl) q13 ?_
    refine hg_run 1 (pc' := 104) (ls' := [some (vr 48), some (vr l1), z2, some (vr l3), some (vr l4), some (vi l5)]) (st' := [vR 48]) rfl ?_
    refine gs_48_0 rfl A ?_
    refine hg_run 1 (pc' := 109) (ls' := [some (vr 48), some (vr l1), z2, some (vr l3), some (vr l4), some (vi l5)]) (st' := [vI l5, vR 19]) rfl ?_
    obtain ⟨v14, e14, e⟩ := ob e
    refine hg_aRs 4 rfl (fun _ _ _ _ => rfl) A (Abs_ks A (i := 10) rfl) rfl (by decide) e14 ?_
    refine hg_run 1 (pc' := 111) (ls' := [some (vr 48), some (vr l1), z2, some (vr l3), some (vr l4), some (vi l5)]) (st' := [vR 48, vR v14]) rfl ?_
    refine gs_48_2 rfl A ?_
    refine hg_run 1 (pc' := 116) (ls' := [some (vr 48), some (vr l1), z2, some (vr l3), some (vr l4), some (vi l5)]) (st' := [vI l5, vR 49, vR v14]) rfl ?_
    obtain ⟨v15, e15, e⟩ := ob e
    refine hg_aRs 4 rfl (fun _ _ _ _ => rfl) A (Abs_ks A (i := 19) rfl) rfl (by decide) e15 ?_
    obtain ⟨u17, e17, e⟩ := ob e
    obtain ⟨h16, e16, e⟩ := ob e
    refine hg_cV (as := [vR v14, vR v15]) (st' := []) rfl (fun _ _ _ _ => rfl) rfl rfl (Nat.le_of_ble_eq_true rfl) (Nat.le_of_ble_eq_true rfl) (recvV A (a := 7) (kT_e e17)) (t154 (by omega) A  e16) (fun w16 A16 => ?_)
    refine hg_run 2 (pc' := 96) (ls' := [some (vr 48), some (vr l1), z2, some (vr l3), some (vr l4), some (vi (wadd l5 1))]) (st' := []) rfl ?_
    cases e
    exact kb (wadd l5 1) h16 rfl _ (rg_add _ _) A16
set_option maxRecDepth 100000 in
theorem t139_l96 {d : Nat} (hd : 6 ≤ d)  {l1 : Nat} {z2 : Option hO} {l3 : Nat} {l4 : Nat} {Q : mmO → Prop}  (n : Nat) {l5 : Int}  {h : hS} {w : mmW} {r : hS} (rl5 : rg l5) (A : Abs h w) (e : lp (fun s => c139_b96  s.1 s.2) n (l5, h) = some r) (ke : ∀ (x_0 : hS), r = (x_0) → ∀ w', ∀ (y5 : Option hO), Abs x_0 w' → hG d 139 126 [some (vr 48), some (vr l1), z2, some (vr l3), some (vr l4), y5] [] w' Q) : hG d 139 96 [some (vr 48), some (vr l1), z2, some (vr l3), some (vr l4), some (vi l5)] [] w Q := by
  induction n generalizing l5 h w with
  | zero => cases e
  | succ n ih =>
    rcases lp_succ e with ⟨s1, e1, e2⟩ | e1
    · exact t139_b96 hd rl5 A e1 (fun s_0 s_1 q w1 rl5 A1 => by cases q; exact ih rl5 A1 e2) (fun x_0 q => by cases q)
    · exact t139_b96 hd rl5 A e1 (fun s_0 s_1 q => by cases q) (fun x_0 q => by cases q; exact ke _ rfl)
def c139 (l1 : Nat) (l2 : Int) (h : hS) : Option (Nat × hS) :=
  (hnul (hR h 48 5)).bind (fun b1 =>
  if b1 = true then
  some (l1, h)
  else
  if l2 = 0 then
  (some (sR h 48 5 0)).bind (fun h3 =>
  (kT h3 l1 18).bind (fun u5 =>
  (c140 l1 h3).bind (fun v4 =>
  (c142 (hR h 48 5) l1 v4.1 v4.2).bind (fun v6 =>
  if v6.1 = 0 then
  c139_j86 l1 (hR h 48 5) v6.2
  else
  (c153 (hR h 48 5) v4.1 v6.2).bind (fun v9 =>
  if v9.1 = 0 then
  c139_j86 l1 (hR h 48 5) v9.2
  else
  (c164 (hR h 48 5) v9.2).bind (fun v11 =>
  if v11.1 = 0 then
  c139_j86 l1 (hR h 48 5) v11.2
  else
  (lp (fun s => c139_b96  s.1 s.2) hF0 (0, v11.2)).bind (fun r18 =>
  (some (sI r18 48 9 (wadd (hI r18 48 9) 1))).bind (fun h19 =>
  (pI h19 (hR h 48 5) 26 1 2).bind (fun h20 =>
  (some (sR h20 48 7 (hR h 48 5))).bind (fun h21 =>
  (some (sR h21 48 8 l1)).bind (fun h22 =>
  some (v4.1, h22))))))))))))
  else
  (some (sI h 48 6 (wadd (hI h 48 6) 1))).bind (fun h23 =>
  if (hI h23 48 6) < 8 then
  some (l1, h23)
  else
  (pI h23 (hR h 48 5) 26 1 3).bind (fun h25 =>
  (some (sR h25 48 5 0)).bind (fun h26 =>
  some (l1, h26)))))
set_option maxRecDepth 100000 in
theorem t139 {d : Nat} (hd : 7 ≤ d) {l1 : Nat} {l2 : Int} {h : hS} {w : mmW} {o : Nat × hS} (A : Abs h w) (rl2 : rg l2) (e : c139 l1 l2 h = some o) : hEv d 139 [vR 48, vR l1, vI l2] w (qR o) := by
  obtain ⟨d, rfl⟩ : ∃ d1, d = d1 + 1 := ⟨d - 1, by omega⟩
  have hd : 6 ≤ d := by omega
  refine hEv_start (args := [vr 48, vr l1, vi l2]) (nl := 6) rfl (Nat.le_of_ble_eq_true rfl) ?_
  show hG d 139 0 [some (vr 48), some (vr l1), some (vi l2), none, none, none] [] w _
  have kr : ∀ (v1 : Nat) (h1 : hS), o = (v1, h1) → ∀ w', Abs h1 w' → qR o (some (rv v1), w') := fun v1 h1 q w' A' => by cases q; exact ⟨rfl, A'⟩
  unfold c139 at e
  refine hg_run 1 (pc' := 1) (ls' := [some (vr 48), some (vr l1), some (vi l2), none, none, none]) (st' := [vR 48]) rfl ?_
  refine gs_48_5 rfl A ?_
  refine hg_run 2 (pc' := 6) (ls' := [some (vr 48), some (vr l1), some (vi l2), some (vr (hR h 48 5)), none, none]) (st' := [vR (hR h 48 5)]) rfl ?_
  obtain ⟨b1, e1, e⟩ := ob e
  rcases oi e with ⟨q1, e⟩ | ⟨q1, e⟩
  · refine hg_nul (yes := false) (tgt := 11) (t2 := 9) rfl (fun _ _ _ _ => rfl) (by decide) (ebT e1 q1) rfl ?_
    refine hg_run 1 (pc' := 10) (ls' := [some (vr 48), some (vr l1), some (vi l2), some (vr (hR h 48 5)), none, none]) (st' := [vR l1]) rfl ?_
    cases e
    exact hg_retR rfl (kr _ _ rfl _ A)
  · refine hg_nul (yes := false) (tgt := 11) (t2 := 11) rfl (fun _ _ _ _ => rfl) (by decide) (ebF e1 q1) rfl ?_
    refine hg_run 1 (pc' := 12) (ls' := [some (vr 48), some (vr l1), some (vi l2), some (vr (hR h 48 5)), none, none]) (st' := [vI l2]) rfl ?_
    rcases oi e with ⟨q2, e⟩ | ⟨q2, e⟩
    · refine hg_ifT (tgt := 46) rfl (by decide) rl2 q2 ?_
      refine hg_run 2 (pc' := 48) (ls' := [some (vr 48), some (vr l1), some (vi l2), some (vr (hR h 48 5)), none, none]) (st' := [vR 0, vR 48]) rfl ?_
      obtain ⟨h3, e3, e⟩ := ob e
      refine ps_48_5 rfl A e3 (fun w3 A3 => ?_)
      refine hg_run 1 (pc' := 52) (ls' := [some (vr 48), some (vr l1), some (vi l2), some (vr (hR h 48 5)), none, none]) (st' := [vR l1]) rfl ?_
      obtain ⟨u5, e5, e⟩ := ob e
      obtain ⟨v4, e4, e⟩ := ob e
      refine hg_cR (as := [vR l1]) (st' := []) rfl (fun _ _ _ _ => rfl) rfl rfl (Nat.le_of_ble_eq_true rfl) (Nat.le_of_ble_eq_true rfl) (recvV A3 (a := 8) (kT_e e5)) (t140 (by omega) A3  e4) (fun w4 A4 => ?_)
      refine hg_run 5 (pc' := 62) (ls' := [some (vr 48), some (vr l1), some (vi l2), some (vr (hR h 48 5)), some (vr v4.1), none]) (st' := [vR v4.1, vR l1, vR (hR h 48 5), vR 48]) rfl ?_
      obtain ⟨v6, e6, e⟩ := ob e
      refine hg_cI (as := [vR 48, vR (hR h 48 5), vR l1, vR v4.1]) (st' := []) rfl (fun _ _ _ _ => rfl) rfl rfl (Nat.le_of_ble_eq_true rfl) (Nat.le_of_ble_eq_true rfl) (recvV A4 (a := 6) (Abs_ks A4 (i := 18) rfl).1) (t142 (by omega) A4  e6) (fun w6 r6 A6 => ?_)
      rcases oi e with ⟨q7, e⟩ | ⟨q7, e⟩
      · refine hg_ifT (tgt := 86) rfl (by decide) r6 q7 ?_
        exact t139_j86 hd  A6 e kr
      · refine hg_ifF (tgt := 86) rfl (by decide) r6 q7 ?_
        refine hg_run 3 (pc' := 72) (ls' := [some (vr 48), some (vr l1), some (vi l2), some (vr (hR h 48 5)), some (vr v4.1), none]) (st' := [vR v4.1, vR (hR h 48 5), vR 48]) rfl ?_
        obtain ⟨v9, e9, e⟩ := ob e
        refine hg_cI (as := [vR 48, vR (hR h 48 5), vR v4.1]) (st' := []) rfl (fun _ _ _ _ => rfl) rfl rfl (Nat.le_of_ble_eq_true rfl) (Nat.le_of_ble_eq_true rfl) (recvV A6 (a := 6) (Abs_ks A6 (i := 18) rfl).1) (t153 (by omega) A6  e9) (fun w9 r9 A9 => ?_)
        rcases oi e with ⟨q10, e⟩ | ⟨q10, e⟩
        · refine hg_ifT (tgt := 86) rfl (by decide) r9 q10 ?_
          exact t139_j86 hd  A9 e kr
        · refine hg_ifF (tgt := 86) rfl (by decide) r9 q10 ?_
          refine hg_run 2 (pc' := 80) (ls' := [some (vr 48), some (vr l1), some (vi l2), some (vr (hR h 48 5)), some (vr v4.1), none]) (st' := [vR (hR h 48 5), vR 48]) rfl ?_
          obtain ⟨v11, e11, e⟩ := ob e
          refine hg_cI (as := [vR 48, vR (hR h 48 5)]) (st' := []) rfl (fun _ _ _ _ => rfl) rfl rfl (Nat.le_of_ble_eq_true rfl) (Nat.le_of_ble_eq_true rfl) (recvV A9 (a := 6) (Abs_ks A9 (i := 18) rfl).1) (t164 (by omega) A9  e11) (fun w11 r11 A11 => ?_)
          rcases oi e with ⟨q12, e⟩ | ⟨q12, e⟩
          · refine hg_ifF (tgt := 93) rfl (by decide) r11 (show ¬ ¬ (v11.1 = 0) from fun f => f q12) ?_
            exact t139_j86 hd  A11 e kr
          · refine hg_ifT (tgt := 93) rfl (by decide) r11 (show ¬ (v11.1 = 0) from q12) ?_
            refine hg_run 2 (pc' := 96) (ls' := [some (vr 48), some (vr l1), some (vi l2), some (vr (hR h 48 5)), some (vr v4.1), some (vi 0)]) (st' := []) rfl ?_
            obtain ⟨r18, e18, e⟩ := ob e
            refine t139_l96 hd  _ (rgn 0 rfl) A11 e18 ?_
            intro x18_0 qq18 w18 z18_5 A18
            subst qq18
            refine hg_run 2 (pc' := 128) (ls' := [some (vr 48), some (vr l1), some (vi l2), some (vr (hR h 48 5)), some (vr v4.1), z18_5]) (st' := [vR 48, vR 48]) rfl ?_
            refine gs_48_9 rfl A18 ?_
            refine hg_run 2 (pc' := 133) (ls' := [some (vr 48), some (vr l1), some (vi l2), some (vr (hR h 48 5)), some (vr v4.1), z18_5]) (st' := [vI (wadd (hI r18 48 9) 1), vR 48]) rfl ?_
            obtain ⟨h19, e19, e⟩ := ob e
            refine ps_48_9 rfl A18 (rg_add _ _) e19 (fun w19 A19 => ?_)
            refine hg_run 2 (pc' := 138) (ls' := [some (vr 48), some (vr l1), some (vi l2), some (vr (hR h 48 5)), some (vr v4.1), z18_5]) (st' := [vI 2, vR (hR h 48 5)]) rfl ?_
            obtain ⟨h20, e20, e⟩ := ob e
            refine pd_12_1 rfl A19 (rgn 2 rfl) e20 (fun w20 A20 => ?_)
            refine hg_run 2 (pc' := 143) (ls' := [some (vr 48), some (vr l1), some (vi l2), some (vr (hR h 48 5)), some (vr v4.1), z18_5]) (st' := [vR (hR h 48 5), vR 48]) rfl ?_
            obtain ⟨h21, e21, e⟩ := ob e
            refine ps_48_7 rfl A20 e21 (fun w21 A21 => ?_)
            refine hg_run 2 (pc' := 148) (ls' := [some (vr 48), some (vr l1), some (vi l2), some (vr (hR h 48 5)), some (vr v4.1), z18_5]) (st' := [vR l1, vR 48]) rfl ?_
            obtain ⟨h22, e22, e⟩ := ob e
            refine ps_48_8 rfl A21 e22 (fun w22 A22 => ?_)
            refine hg_run 1 (pc' := 153) (ls' := [some (vr 48), some (vr l1), some (vi l2), some (vr (hR h 48 5)), some (vr v4.1), z18_5]) (st' := [vR v4.1]) rfl ?_
            cases e
            exact hg_retR rfl (kr _ _ rfl _ A22)
    · refine hg_ifF (tgt := 46) rfl (by decide) rl2 q2 ?_
      refine hg_run 2 (pc' := 17) (ls' := [some (vr 48), some (vr l1), some (vi l2), some (vr (hR h 48 5)), none, none]) (st' := [vR 48, vR 48]) rfl ?_
      refine gs_48_6 rfl A ?_
      refine hg_run 2 (pc' := 22) (ls' := [some (vr 48), some (vr l1), some (vi l2), some (vr (hR h 48 5)), none, none]) (st' := [vI (wadd (hI h 48 6) 1), vR 48]) rfl ?_
      obtain ⟨h23, e23, e⟩ := ob e
      refine ps_48_6 rfl A (rg_add _ _) e23 (fun w23 A23 => ?_)
      refine hg_run 1 (pc' := 26) (ls' := [some (vr 48), some (vr l1), some (vi l2), some (vr (hR h 48 5)), none, none]) (st' := [vR 48]) rfl ?_
      refine gs_48_6 rfl A23 ?_
      refine hg_run 1 (pc' := 31) (ls' := [some (vr 48), some (vr l1), some (vi l2), some (vr (hR h 48 5)), none, none]) (st' := [vI 8, vI (hI h23 48 6)]) rfl ?_
      rcases oi e with ⟨q24, e⟩ | ⟨q24, e⟩
      · refine hg_icT (tgt := 44) rfl (by decide) (Abs_rg A23 48 6) (rgn 8 rfl) q24 ?_
        refine hg_run 1 (pc' := 45) (ls' := [some (vr 48), some (vr l1), some (vi l2), some (vr (hR h 48 5)), none, none]) (st' := [vR l1]) rfl ?_
        cases e
        exact hg_retR rfl (kr _ _ rfl _ A23)
      · refine hg_icF (tgt := 44) rfl (by decide) (Abs_rg A23 48 6) (rgn 8 rfl) q24 ?_
        refine hg_run 2 (pc' := 36) (ls' := [some (vr 48), some (vr l1), some (vi l2), some (vr (hR h 48 5)), none, none]) (st' := [vI 3, vR (hR h 48 5)]) rfl ?_
        obtain ⟨h25, e25, e⟩ := ob e
        refine pd_12_1 rfl A23 (rgn 3 rfl) e25 (fun w25 A25 => ?_)
        refine hg_run 2 (pc' := 41) (ls' := [some (vr 48), some (vr l1), some (vi l2), some (vr (hR h 48 5)), none, none]) (st' := [vR 0, vR 48]) rfl ?_
        obtain ⟨h26, e26, e⟩ := ob e
        refine ps_48_5 rfl A25 e26 (fun w26 A26 => ?_)
        refine hg_run 1 (pc' := 45) (ls' := [some (vr 48), some (vr l1), some (vi l2), some (vr (hR h 48 5)), none, none]) (st' := [vR l1]) rfl ?_
        cases e
        exact hg_retR rfl (kr _ _ rfl _ A26)
def c165_j41 (l1 : Int) (h : hS) : Option ((Int × hS) ⊕ (hS)) :=
  some (.inl ((wadd l1 1), h))
theorem t165_j41 {d : Nat} (hd : 1 ≤ d) {l1 : Int} {z2 : Option hO} {h : hS} {w : mmW} {o : (Int × hS) ⊕ (hS)} {Q : mmO → Prop} (rl1 : rg l1) (A : Abs h w) (e : c165_j41 l1 h = some o) (kb : ∀ (s_0 : Int) (s_1 : hS), o = .inl (s_0, s_1) → ∀ w', ∀ (y2 : Option hO), rg s_0 → Abs s_1 w' → hG d 165 2 [some (vr 8), some (vi s_0), y2] [] w' Q) (ke : ∀ (x_0 : hS), o = .inr (x_0) → ∀ w', ∀ (y1 y2 : Option hO), Abs x_0 w' → hG d 165 47 [some (vr 8), y1, y2] [] w' Q) : hG d 165 41 [some (vr 8), some (vi l1), z2] [] w Q := by
  unfold c165_j41 at e
  refine hg_run 2 (pc' := 2) (ls' := [some (vr 8), some (vi (wadd l1 1)), z2]) (st' := []) rfl ?_
  cases e
  exact kb (wadd l1 1) h rfl _ _ (rg_add _ _) A
def c165_b2 (l1 : Int) (h : hS) : Option ((Int × hS) ⊕ (hS)) :=
  if 10 ≤ l1 then
  some (.inr (h))
  else
  (aRs h 21 10 l1).bind (fun v2 =>
  (gI h v2 20 2).bind (fun v3 =>
  if v3 = 0 then
  c165_j41 l1 h
  else
  (gR h v2 20 0).bind (fun v5 =>
  (gR h v5 12 0).bind (fun v6 =>
  (gI h v6 16 1).bind (fun v7 =>
  if v7 = 0 then
  (kT h v2 20).bind (fun u10 =>
  (c138 v2 3 0 h).bind (fun h9 =>
  c165_j41 l1 h9))
  else
  c165_j41 l1 h)))))
theorem t165_b2 {d : Nat} (hd : 1 ≤ d) {l1 : Int} {z2 : Option hO} {h : hS} {w : mmW} {o : (Int × hS) ⊕ (hS)} {Q : mmO → Prop} (rl1 : rg l1) (A : Abs h w) (e : c165_b2 l1 h = some o) (kb : ∀ (s_0 : Int) (s_1 : hS), o = .inl (s_0, s_1) → ∀ w', ∀ (y2 : Option hO), rg s_0 → Abs s_1 w' → hG d 165 2 [some (vr 8), some (vi s_0), y2] [] w' Q) (ke : ∀ (x_0 : hS), o = .inr (x_0) → ∀ w', ∀ (y1 y2 : Option hO), Abs x_0 w' → hG d 165 47 [some (vr 8), y1, y2] [] w' Q) : hG d 165 2 [some (vr 8), some (vi l1), z2] [] w Q := by
  unfold c165_b2 at e
  refine hg_run 2 (pc' := 5) (ls' := [some (vr 8), some (vi l1), z2]) (st' := [vI 10, vI l1]) rfl ?_
  rcases oi e with ⟨q1, e⟩ | ⟨q1, e⟩
  · refine hg_icT (tgt := 47) rfl (by decide) rl1 (rgn 10 rfl) q1 ?_
    cases e
    exact ke h rfl _ _ _  A
  · refine hg_icF (tgt := 47) rfl (by decide) rl1 (rgn 10 rfl) q1 ?_
    refine hg_run 1 (pc' := 9) (ls' := [some (vr 8), some (vi l1), z2]) (st' := [vR 8]) rfl ?_
    refine gs_8_4 rfl A ?_
    refine hg_run 1 (pc' := 13) (ls' := [some (vr 8), some (vi l1), z2]) (st' := [vI l1, vR 21]) rfl ?_
    obtain ⟨v2, e2, e⟩ := ob e
    refine hg_aRs 5 rfl (fun _ _ _ _ => rfl) A (Abs_ks A (i := 12) rfl) rfl (by decide) e2 ?_
    refine hg_run 2 (pc' := 16) (ls' := [some (vr 8), some (vi l1), some (vr v2)]) (st' := [vR v2]) rfl ?_
    obtain ⟨v3, e3, e⟩ := ob e
    refine gd_9_2 rfl A e3 (fun r3 => ?_)
    rcases oi e with ⟨q4, e⟩ | ⟨q4, e⟩
    · refine hg_ifT (tgt := 41) rfl (by decide) r3 q4 ?_
      exact t165_j41 hd rl1 A e kb ke
    · refine hg_ifF (tgt := 41) rfl (by decide) r3 q4 ?_
      refine hg_run 1 (pc' := 23) (ls' := [some (vr 8), some (vi l1), some (vr v2)]) (st' := [vR v2]) rfl ?_
      obtain ⟨v5, e5, e⟩ := ob e
      refine gd_9_0 rfl A e5 ?_
      obtain ⟨v6, e6, e⟩ := ob e
      refine gd_5_0 rfl A e6 ?_
      obtain ⟨v7, e7, e⟩ := ob e
      refine gd_7_1 rfl A e7 (fun r7 => ?_)
      rcases oi e with ⟨q8, e⟩ | ⟨q8, e⟩
      · refine hg_ifF (tgt := 41) rfl (by decide) r7 (show ¬ ¬ (v7 = 0) from fun f => f q8) ?_
        refine hg_run 3 (pc' := 38) (ls' := [some (vr 8), some (vi l1), some (vr v2)]) (st' := [vI 0, vI 3, vR v2]) rfl ?_
        obtain ⟨u10, e10, e⟩ := ob e
        obtain ⟨h9, e9, e⟩ := ob e
        refine hg_cV (as := [vR v2, vI 3, vI 0]) (st' := []) rfl (fun _ _ _ _ => rfl) rfl rfl (Nat.le_of_ble_eq_true rfl) (Nat.le_of_ble_eq_true rfl) (recvV A (a := 9) (kT_e e10)) (t138 (by omega) A (rgn 3 rfl) (rgn 0 rfl) e9) (fun w9 A9 => ?_)
        exact t165_j41 hd rl1 A9 e kb ke
      · refine hg_ifT (tgt := 41) rfl (by decide) r7 (show ¬ (v7 = 0) from q8) ?_
        exact t165_j41 hd rl1 A e kb ke
theorem t165_l2 {d : Nat} (hd : 1 ≤ d)   {Q : mmO → Prop}  (n : Nat) {l1 : Int} {z2 : Option hO} {h : hS} {w : mmW} {r : hS} (rl1 : rg l1) (A : Abs h w) (e : lp (fun s => c165_b2  s.1 s.2) n (l1, h) = some r) (ke : ∀ (x_0 : hS), r = (x_0) → ∀ w', ∀ (y1 y2 : Option hO), Abs x_0 w' → hG d 165 47 [some (vr 8), y1, y2] [] w' Q) : hG d 165 2 [some (vr 8), some (vi l1), z2] [] w Q := by
  induction n generalizing l1 z2 h w with
  | zero => cases e
  | succ n ih =>
    rcases lp_succ e with ⟨s1, e1, e2⟩ | e1
    · exact t165_b2 hd rl1 A e1 (fun s_0 s_1 q w1 y2 rl1 A1 => by cases q; exact ih rl1 A1 e2) (fun x_0 q => by cases q)
    · exact t165_b2 hd rl1 A e1 (fun s_0 s_1 q => by cases q) (fun x_0 q => by cases q; exact ke _ rfl)
def c165 (h : hS) : Option (hS) :=
  (lp (fun s => c165_b2  s.1 s.2) hF0 (0, h)).bind (fun r11 =>
  some r11)
theorem t165 {d : Nat} (hd : 2 ≤ d)  {h : hS} {w : mmW} {o : hS} (A : Abs h w)  (e : c165 h = some o) : hEv d 165 [vR 8] w (qV o) := by
  obtain ⟨d, rfl⟩ : ∃ d1, d = d1 + 1 := ⟨d - 1, by omega⟩
  have hd : 1 ≤ d := by omega
  refine hEv_start (args := [vr 8]) (nl := 3) rfl (Nat.le_of_ble_eq_true rfl) ?_
  show hG d 165 0 [some (vr 8), none, none] [] w _
  have kr : ∀ h1 : hS, o = h1 → ∀ w', Abs h1 w' → qV o (none, w') := fun h1 q w' A' => by cases q; exact ⟨rfl, A'⟩
  unfold c165 at e
  refine hg_run 2 (pc' := 2) (ls' := [some (vr 8), some (vi 0), none]) (st' := []) rfl ?_
  obtain ⟨r11, e11, e⟩ := ob e
  refine t165_l2 hd  _ (rgn 0 rfl) A e11 ?_
  intro x11_0 qq11 w11 z11_1 z11_2 A11
  subst qq11
  cases e
  exact hg_retV rfl (kr _ rfl _ A11)
def c136_j84 (s1 : Int) (s2 : Int) (l1 : Int) (h : hS) : Option ((Int × hS) ⊕ (hS)) :=
  (wIs h 20 40 s1 s2).bind (fun h8 =>
  some (.inl ((wadd l1 1), h8)))
set_option maxRecDepth 100000 in
theorem t136_j84 {d : Nat} (hd : 7 ≤ d) {s1 : Int} {s2 : Int} {l1 : Int} {z2 : Option hO} {z3 : Option hO} {h : hS} {w : mmW} {o : (Int × hS) ⊕ (hS)} {Q : mmO → Prop} (rs1 : rg s1) (rs2 : rg s2) (rl1 : rg l1) (A : Abs h w) (e : c136_j84 s1 s2 l1 h = some o) (kb : ∀ (s_0 : Int) (s_1 : hS), o = .inl (s_0, s_1) → ∀ w', rg s_0 → Abs s_1 w' → hG d 136 40 [some (vr 8), some (vi s_0), z2, z3] [] w' Q) (ke : ∀ (x_0 : hS), o = .inr (x_0) → ∀ w', ∀ (y1 : Option hO), Abs x_0 w' → hG d 136 91 [some (vr 8), y1, z2, z3] [] w' Q) : hG d 136 84 [some (vr 8), some (vi l1), z2, z3] [vI s2, vI s1, vR 20] w Q := by
  unfold c136_j84 at e
  obtain ⟨h8, e8, e⟩ := ob e
  refine hg_wIs rfl A (Abs_ks A (i := 11) rfl) (by decide) rs2 e8 (fun w8 A8 => ?_)
  refine hg_run 2 (pc' := 40) (ls' := [some (vr 8), some (vi (wadd l1 1)), z2, z3]) (st' := []) rfl ?_
  cases e
  exact kb (wadd l1 1) h8 rfl _ (rg_add _ _) A8
def c136_b40 (l1 : Int) (h : hS) : Option ((Int × hS) ⊕ (hS)) :=
  if 40 ≤ l1 then
  some (.inr (h))
  else
  (c103 l1 h).bind (fun v6 =>
  if v6 = 0 then
  c136_j84 l1 3 l1 h
  else
  (aRs h 19 40 l1).bind (fun v9 =>
  (c113 v9 (hI h 8 10) (hI h 8 9) h).bind (fun v10 =>
  c136_j84 l1 v10.1 l1 v10.2)))
set_option maxRecDepth 100000 in
theorem t136_b40 {d : Nat} (hd : 7 ≤ d) {l1 : Int} {z2 : Option hO} {z3 : Option hO} {h : hS} {w : mmW} {o : (Int × hS) ⊕ (hS)} {Q : mmO → Prop} (rl1 : rg l1) (A : Abs h w) (e : c136_b40 l1 h = some o) (kb : ∀ (s_0 : Int) (s_1 : hS), o = .inl (s_0, s_1) → ∀ w', rg s_0 → Abs s_1 w' → hG d 136 40 [some (vr 8), some (vi s_0), z2, z3] [] w' Q) (ke : ∀ (x_0 : hS), o = .inr (x_0) → ∀ w', ∀ (y1 : Option hO), Abs x_0 w' → hG d 136 91 [some (vr 8), y1, z2, z3] [] w' Q) : hG d 136 40 [some (vr 8), some (vi l1), z2, z3] [] w Q := by
  unfold c136_b40 at e
  refine hg_run 2 (pc' := 43) (ls' := [some (vr 8), some (vi l1), z2, z3]) (st' := [vI 40, vI l1]) rfl ?_
  rcases oi e with ⟨q5, e⟩ | ⟨q5, e⟩
  · refine hg_icT (tgt := 91) rfl (by decide) rl1 (rgn 40 rfl) q5 ?_
    cases e
    exact ke h rfl _ _  A
  · refine hg_icF (tgt := 91) rfl (by decide) rl1 (rgn 40 rfl) q5 ?_
    refine hg_run 1 (pc' := 47) (ls' := [some (vr 8), some (vi l1), z2, z3]) (st' := [vR 8]) rfl ?_
    refine gs_8_3 rfl A ?_
    refine hg_run 3 (pc' := 53) (ls' := [some (vr 8), some (vi l1), z2, z3]) (st' := [vI l1, vR 8, vI l1, vR 20]) rfl ?_
    obtain ⟨v6, e6, e⟩ := ob e
    refine hg_cIp (as := [vR 8, vI l1]) (st' := [vI l1, vR 20]) rfl (fun _ _ _ _ => rfl) rfl rfl (Nat.le_of_ble_eq_true rfl) (Nat.le_of_ble_eq_true rfl) (recvV A (a := 0) (Abs_ks A (i := 0) rfl).1) (t103 (by omega) A rl1 e6) (fun r6 => ?_)
    rcases oi e with ⟨q7, e⟩ | ⟨q7, e⟩
    · refine hg_ifT (tgt := 83) rfl (by decide) r6 q7 ?_
      refine hg_run 1 (pc' := 84) (ls' := [some (vr 8), some (vi l1), z2, z3]) (st' := [vI 3, vI l1, vR 20]) rfl ?_
      exact t136_j84 hd rl1 (rgn 3 rfl) rl1 A e kb ke
    · refine hg_ifF (tgt := 83) rfl (by decide) r6 q7 ?_
      refine hg_run 1 (pc' := 60) (ls' := [some (vr 8), some (vi l1), z2, z3]) (st' := [vR 8, vI l1, vR 20]) rfl ?_
      refine gs_8_5 rfl A ?_
      refine hg_run 1 (pc' := 64) (ls' := [some (vr 8), some (vi l1), z2, z3]) (st' := [vR 8, vR 22, vI l1, vR 20]) rfl ?_
      refine gs_8_2 rfl A ?_
      refine hg_run 1 (pc' := 68) (ls' := [some (vr 8), some (vi l1), z2, z3]) (st' := [vI l1, vR 19, vR 22, vI l1, vR 20]) rfl ?_
      obtain ⟨v9, e9, e⟩ := ob e
      refine hg_aRs 4 rfl (fun _ _ _ _ => rfl) A (Abs_ks A (i := 10) rfl) rfl (by decide) e9 ?_
      refine hg_run 1 (pc' := 70) (ls' := [some (vr 8), some (vi l1), z2, z3]) (st' := [vR 8, vR v9, vR 22, vI l1, vR 20]) rfl ?_
      refine gs_8_10 rfl A ?_
      refine hg_run 1 (pc' := 74) (ls' := [some (vr 8), some (vi l1), z2, z3]) (st' := [vR 8, vI (hI h 8 10), vR v9, vR 22, vI l1, vR 20]) rfl ?_
      refine gs_8_9 rfl A ?_
      obtain ⟨v10, e10, e⟩ := ob e
      refine hg_cI (as := [vR 22, vR v9, vI (hI h 8 10), vI (hI h 8 9)]) (st' := [vI l1, vR 20]) rfl (fun _ _ _ _ => rfl) rfl rfl (Nat.le_of_ble_eq_true rfl) (Nat.le_of_ble_eq_true rfl) (recvV A (a := 4) (Abs_ks A (i := 13) rfl).1) (t113 (by omega) A (Abs_rg A 8 10) (Abs_rg A 8 9) e10) (fun w10 r10 A10 => ?_)
      refine hg_run 1 (pc' := 84) (ls' := [some (vr 8), some (vi l1), z2, z3]) (st' := [vI v10.1, vI l1, vR 20]) rfl ?_
      exact t136_j84 hd rl1 r10 rl1 A10 e kb ke
set_option maxRecDepth 100000 in
theorem t136_l40 {d : Nat} (hd : 7 ≤ d)  {z2 : Option hO} {z3 : Option hO} {Q : mmO → Prop}  (n : Nat) {l1 : Int}  {h : hS} {w : mmW} {r : hS} (rl1 : rg l1) (A : Abs h w) (e : lp (fun s => c136_b40  s.1 s.2) n (l1, h) = some r) (ke : ∀ (x_0 : hS), r = (x_0) → ∀ w', ∀ (y1 : Option hO), Abs x_0 w' → hG d 136 91 [some (vr 8), y1, z2, z3] [] w' Q) : hG d 136 40 [some (vr 8), some (vi l1), z2, z3] [] w Q := by
  induction n generalizing l1 h w with
  | zero => cases e
  | succ n ih =>
    rcases lp_succ e with ⟨s1, e1, e2⟩ | e1
    · exact t136_b40 hd rl1 A e1 (fun s_0 s_1 q w1 rl1 A1 => by cases q; exact ih rl1 A1 e2) (fun x_0 q => by cases q)
    · exact t136_b40 hd rl1 A e1 (fun s_0 s_1 q => by cases q) (fun x_0 q => by cases q; exact ke _ rfl)
def c136_j157 (s0 : Int) (s1 : Int) (l2 : Int) (h : hS) : Option ((Int × Int × hS) ⊕ (Int × hS)) :=
  some (.inl ((wor s0 s1), (wadd l2 1), h))
set_option maxRecDepth 100000 in
theorem t136_j157 {d : Nat} (hd : 7 ≤ d) {s0 : Int} {s1 : Int} {l2 : Int} {z1 : Option hO} {z3 : Option hO} {h : hS} {w : mmW} {o : (Int × Int × hS) ⊕ (Int × hS)} {Q : mmO → Prop} (rs0 : rg s0) (rs1 : rg s1) (rl2 : rg l2) (A : Abs h w) (e : c136_j157 s0 s1 l2 h = some o) (kb : ∀ (s_0 : Int) (s_1 : Int) (s_2 : hS), o = .inl (s_0, s_1, s_2) → ∀ w', ∀ (y3 : Option hO), rg s_0 → rg s_1 → Abs s_2 w' → hG d 136 95 [some (vr 8), some (vi s_0), some (vi s_1), y3] [] w' Q) (ke : ∀ (x_0 : Int) (x_1 : hS), o = .inr (x_0, x_1) → ∀ w', ∀ (y2 y3 : Option hO), rg x_0 → Abs x_1 w' → hG d 136 165 [some (vr 8), some (vi x_0), y2, y3] [] w' Q) : hG d 136 157 [some (vr 8), z1, some (vi l2), z3] [vI s1, vI s0] w Q := by
  unfold c136_j157 at e
  refine hg_run 4 (pc' := 95) (ls' := [some (vr 8), some (vi (wor s0 s1)), some (vi (wadd l2 1)), z3]) (st' := []) rfl ?_
  cases e
  exact kb (wor s0 s1) (wadd l2 1) h rfl _ _ (rg_or _ _) (rg_add _ _) A
def c136_j156 (s0 : Int) (l2 : Int) (h : hS) : Option ((Int × Int × hS) ⊕ (Int × hS)) :=
  c136_j157 s0 0 l2 h
set_option maxRecDepth 100000 in
theorem t136_j156 {d : Nat} (hd : 7 ≤ d) {s0 : Int} {l2 : Int} {z1 : Option hO} {z3 : Option hO} {h : hS} {w : mmW} {o : (Int × Int × hS) ⊕ (Int × hS)} {Q : mmO → Prop} (rs0 : rg s0) (rl2 : rg l2) (A : Abs h w) (e : c136_j156 s0 l2 h = some o) (kb : ∀ (s_0 : Int) (s_1 : Int) (s_2 : hS), o = .inl (s_0, s_1, s_2) → ∀ w', ∀ (y3 : Option hO), rg s_0 → rg s_1 → Abs s_2 w' → hG d 136 95 [some (vr 8), some (vi s_0), some (vi s_1), y3] [] w' Q) (ke : ∀ (x_0 : Int) (x_1 : hS), o = .inr (x_0, x_1) → ∀ w', ∀ (y2 y3 : Option hO), rg x_0 → Abs x_1 w' → hG d 136 165 [some (vr 8), some (vi x_0), y2, y3] [] w' Q) : hG d 136 156 [some (vr 8), z1, some (vi l2), z3] [vI s0] w Q := by
  unfold c136_j156 at e
  refine hg_run 1 (pc' := 157) (ls' := [some (vr 8), z1, some (vi l2), z3]) (st' := [vI 0, vI s0]) rfl ?_
  exact t136_j157 hd rs0 (rgn 0 rfl) rl2 A e kb ke
def c136_j137 (l1 : Int) (l2 : Int) (l3 : Nat) (h : hS) : Option ((Int × Int × hS) ⊕ (Int × hS)) :=
  (gI h l3 20 2).bind (fun v16 =>
  if v16 = 0 then
  c136_j156 l1 l2 h
  else
  (gI h l3 20 3).bind (fun v18 =>
  if v18 = 0 then
  c136_j156 l1 l2 h
  else
  c136_j157 l1 1 l2 h))
set_option maxRecDepth 100000 in
theorem t136_j137 {d : Nat} (hd : 7 ≤ d) {l1 : Int} {l2 : Int} {l3 : Nat}  {h : hS} {w : mmW} {o : (Int × Int × hS) ⊕ (Int × hS)} {Q : mmO → Prop} (rl1 : rg l1) (rl2 : rg l2) (A : Abs h w) (e : c136_j137 l1 l2 l3 h = some o) (kb : ∀ (s_0 : Int) (s_1 : Int) (s_2 : hS), o = .inl (s_0, s_1, s_2) → ∀ w', ∀ (y3 : Option hO), rg s_0 → rg s_1 → Abs s_2 w' → hG d 136 95 [some (vr 8), some (vi s_0), some (vi s_1), y3] [] w' Q) (ke : ∀ (x_0 : Int) (x_1 : hS), o = .inr (x_0, x_1) → ∀ w', ∀ (y2 y3 : Option hO), rg x_0 → Abs x_1 w' → hG d 136 165 [some (vr 8), some (vi x_0), y2, y3] [] w' Q) : hG d 136 137 [some (vr 8), some (vi l1), some (vi l2), some (vr l3)] [] w Q := by
  unfold c136_j137 at e
  refine hg_run 2 (pc' := 139) (ls' := [some (vr 8), some (vi l1), some (vi l2), some (vr l3)]) (st' := [vR l3, vI l1]) rfl ?_
  obtain ⟨v16, e16, e⟩ := ob e
  refine gd_9_2 rfl A e16 (fun r16 => ?_)
  rcases oi e with ⟨q17, e⟩ | ⟨q17, e⟩
  · refine hg_ifT (tgt := 156) rfl (by decide) r16 q17 ?_
    exact t136_j156 hd rl1 rl2 A e kb ke
  · refine hg_ifF (tgt := 156) rfl (by decide) r16 q17 ?_
    refine hg_run 1 (pc' := 146) (ls' := [some (vr 8), some (vi l1), some (vi l2), some (vr l3)]) (st' := [vR l3, vI l1]) rfl ?_
    obtain ⟨v18, e18, e⟩ := ob e
    refine gd_9_3 rfl A e18 (fun r18 => ?_)
    rcases oi e with ⟨q19, e⟩ | ⟨q19, e⟩
    · refine hg_ifT (tgt := 156) rfl (by decide) r18 q19 ?_
      exact t136_j156 hd rl1 rl2 A e kb ke
    · refine hg_ifF (tgt := 156) rfl (by decide) r18 q19 ?_
      refine hg_run 2 (pc' := 157) (ls' := [some (vr 8), some (vi l1), some (vi l2), some (vr l3)]) (st' := [vI 1, vI l1]) rfl ?_
      exact t136_j157 hd rl1 (rgn 1 rfl) rl2 A e kb ke
def c136_b95 (l1 : Int) (l2 : Int) (h : hS) : Option ((Int × Int × hS) ⊕ (Int × hS)) :=
  if 10 ≤ l2 then
  some (.inr (l1, h))
  else
  (aRs h 21 10 l2).bind (fun v13 =>
  (gI h v13 20 2).bind (fun v14 =>
  if v14 = 0 then
  c136_j137 l1 l2 v13 h
  else
  (gR h v13 20 0).bind (fun v20 =>
  (c137 v20 h).bind (fun v21 =>
  (kT v21.2 v13 20).bind (fun u23 =>
  (c138 v13 v21.1 (hI v21.2 22 8) v21.2).bind (fun h22 =>
  c136_j137 l1 l2 v13 h22))))))
set_option maxRecDepth 100000 in
theorem t136_b95 {d : Nat} (hd : 7 ≤ d) {l1 : Int} {l2 : Int} {z3 : Option hO} {h : hS} {w : mmW} {o : (Int × Int × hS) ⊕ (Int × hS)} {Q : mmO → Prop} (rl1 : rg l1) (rl2 : rg l2) (A : Abs h w) (e : c136_b95 l1 l2 h = some o) (kb : ∀ (s_0 : Int) (s_1 : Int) (s_2 : hS), o = .inl (s_0, s_1, s_2) → ∀ w', ∀ (y3 : Option hO), rg s_0 → rg s_1 → Abs s_2 w' → hG d 136 95 [some (vr 8), some (vi s_0), some (vi s_1), y3] [] w' Q) (ke : ∀ (x_0 : Int) (x_1 : hS), o = .inr (x_0, x_1) → ∀ w', ∀ (y2 y3 : Option hO), rg x_0 → Abs x_1 w' → hG d 136 165 [some (vr 8), some (vi x_0), y2, y3] [] w' Q) : hG d 136 95 [some (vr 8), some (vi l1), some (vi l2), z3] [] w Q := by
  unfold c136_b95 at e
  refine hg_run 2 (pc' := 98) (ls' := [some (vr 8), some (vi l1), some (vi l2), z3]) (st' := [vI 10, vI l2]) rfl ?_
  rcases oi e with ⟨q12, e⟩ | ⟨q12, e⟩
  · refine hg_icT (tgt := 165) rfl (by decide) rl2 (rgn 10 rfl) q12 ?_
    cases e
    exact ke l1 h rfl _ _ _ rl1 A
  · refine hg_icF (tgt := 165) rfl (by decide) rl2 (rgn 10 rfl) q12 ?_
    refine hg_run 1 (pc' := 102) (ls' := [some (vr 8), some (vi l1), some (vi l2), z3]) (st' := [vR 8]) rfl ?_
    refine gs_8_4 rfl A ?_
    refine hg_run 1 (pc' := 106) (ls' := [some (vr 8), some (vi l1), some (vi l2), z3]) (st' := [vI l2, vR 21]) rfl ?_
    obtain ⟨v13, e13, e⟩ := ob e
    refine hg_aRs 5 rfl (fun _ _ _ _ => rfl) A (Abs_ks A (i := 12) rfl) rfl (by decide) e13 ?_
    refine hg_run 2 (pc' := 109) (ls' := [some (vr 8), some (vi l1), some (vi l2), some (vr v13)]) (st' := [vR v13]) rfl ?_
    obtain ⟨v14, e14, e⟩ := ob e
    refine gd_9_2 rfl A e14 (fun r14 => ?_)
    rcases oi e with ⟨q15, e⟩ | ⟨q15, e⟩
    · refine hg_ifT (tgt := 137) rfl (by decide) r14 q15 ?_
      exact t136_j137 hd rl1 rl2 A e kb ke
    · refine hg_ifF (tgt := 137) rfl (by decide) r14 q15 ?_
      refine hg_run 2 (pc' := 117) (ls' := [some (vr 8), some (vi l1), some (vi l2), some (vr v13)]) (st' := [vR 8, vR v13]) rfl ?_
      refine gs_8_5 rfl A ?_
      refine hg_run 1 (pc' := 121) (ls' := [some (vr 8), some (vi l1), some (vi l2), some (vr v13)]) (st' := [vR v13, vR 22, vR v13]) rfl ?_
      obtain ⟨v20, e20, e⟩ := ob e
      refine gd_9_0 rfl A e20 ?_
      obtain ⟨v21, e21, e⟩ := ob e
      refine hg_cI (as := [vR 22, vR v20]) (st' := [vR v13]) rfl (fun _ _ _ _ => rfl) rfl rfl (Nat.le_of_ble_eq_true rfl) (Nat.le_of_ble_eq_true rfl) (recvV A (a := 4) (Abs_ks A (i := 13) rfl).1) (t137 (by omega) A  e21) (fun w21 r21 A21 => ?_)
      refine hg_run 1 (pc' := 128) (ls' := [some (vr 8), some (vi l1), some (vi l2), some (vr v13)]) (st' := [vR 8, vI v21.1, vR v13]) rfl ?_
      refine gs_8_5 rfl A21 ?_
      refine gs_22_8 rfl A21 ?_
      obtain ⟨u23, e23, e⟩ := ob e
      obtain ⟨h22, e22, e⟩ := ob e
      refine hg_cV (as := [vR v13, vI v21.1, vI (hI v21.2 22 8)]) (st' := []) rfl (fun _ _ _ _ => rfl) rfl rfl (Nat.le_of_ble_eq_true rfl) (Nat.le_of_ble_eq_true rfl) (recvV A21 (a := 9) (kT_e e23)) (t138 (by omega) A21 r21 (Abs_rg A21 22 8) e22) (fun w22 A22 => ?_)
      exact t136_j137 hd rl1 rl2 A22 e kb ke
set_option maxRecDepth 100000 in
theorem t136_l95 {d : Nat} (hd : 7 ≤ d)   {Q : mmO → Prop}  (n : Nat) {l1 : Int} {l2 : Int} {z3 : Option hO} {h : hS} {w : mmW} {r : Int × hS} (rl1 : rg l1) (rl2 : rg l2) (A : Abs h w) (e : lp (fun s => c136_b95  s.1 s.2.1 s.2.2) n (l1, l2, h) = some r) (ke : ∀ (x_0 : Int) (x_1 : hS), r = (x_0, x_1) → ∀ w', ∀ (y2 y3 : Option hO), rg x_0 → Abs x_1 w' → hG d 136 165 [some (vr 8), some (vi x_0), y2, y3] [] w' Q) : hG d 136 95 [some (vr 8), some (vi l1), some (vi l2), z3] [] w Q := by
  induction n generalizing l1 l2 z3 h w with
  | zero => cases e
  | succ n ih =>
    rcases lp_succ e with ⟨s1, e1, e2⟩ | e1
    · exact t136_b95 hd rl1 rl2 A e1 (fun s_0 s_1 s_2 q w1 y3 rl1 rl2 A1 => by cases q; exact ih rl1 rl2 A1 e2) (fun x_0 x_1 q => by cases q)
    · exact t136_b95 hd rl1 rl2 A e1 (fun s_0 s_1 s_2 q => by cases q) (fun x_0 x_1 q => by cases q; exact ke _ _ rfl)
def c136 (h : hS) : Option (Int × hS) :=
  if (hI h 8 9) < 1000 then
  (some (sI h 8 9 (wadd (hI h 8 9) 1))).bind (fun h2 =>
  (some (sI h2 22 13 0)).bind (fun h3 =>
  (some (sI h3 22 11 1)).bind (fun h4 =>
  (lp (fun s => c136_b40  s.1 s.2) hF0 (0, h4)).bind (fun r11 =>
  (lp (fun s => c136_b95  s.1 s.2.1 s.2.2) hF0 (0, 0, r11)).bind (fun r24 =>
  (some (sI r24.2 22 11 0)).bind (fun h25 =>
  (c139 (hR h25 8 7) r24.1 h25).bind (fun v26 =>
  (some (sR v26.2 8 7 v26.1)).bind (fun h27 =>
  (c165  h27).bind (fun h28 =>
  some ((hI h28 8 9), h28))))))))))
  else
  some ((-1), h)
set_option maxRecDepth 100000 in
theorem t136 {d : Nat} (hd : 8 ≤ d)  {h : hS} {w : mmW} {o : Int × hS} (A : Abs h w)  (e : c136 h = some o) : hEv d 136 [vR 8] w (qI o) := by
  obtain ⟨d, rfl⟩ : ∃ d1, d = d1 + 1 := ⟨d - 1, by omega⟩
  have hd : 7 ≤ d := by omega
  refine hEv_start (args := [vr 8]) (nl := 4) rfl (Nat.le_of_ble_eq_true rfl) ?_
  show hG d 136 0 [some (vr 8), none, none, none] [] w _
  have kr : ∀ (v1 : Int) (h1 : hS), o = (v1, h1) → ∀ w', rg v1 → Abs h1 w' → qI o (some (.int (Int32.ofInt v1)), w') := fun v1 h1 q w' r A' => by cases q; exact ⟨rfl, r, A'⟩
  unfold c136 at e
  refine hg_run 1 (pc' := 1) (ls' := [some (vr 8), none, none, none]) (st' := [vR 8]) rfl ?_
  refine gs_8_9 rfl A ?_
  refine hg_run 1 (pc' := 7) (ls' := [some (vr 8), none, none, none]) (st' := [vI 1000, vI (hI h 8 9)]) rfl ?_
  rcases oi e with ⟨q1, e⟩ | ⟨q1, e⟩
  · refine hg_icT (tgt := 12) rfl (by decide) (Abs_rg A 8 9) (rgn 1000 rfl) q1 ?_
    refine hg_run 2 (pc' := 14) (ls' := [some (vr 8), none, none, none]) (st' := [vR 8, vR 8]) rfl ?_
    refine gs_8_9 rfl A ?_
    refine hg_run 2 (pc' := 19) (ls' := [some (vr 8), none, none, none]) (st' := [vI (wadd (hI h 8 9) 1), vR 8]) rfl ?_
    obtain ⟨h2, e2, e⟩ := ob e
    refine ps_8_9 rfl A (rg_add _ _) e2 (fun w2 A2 => ?_)
    refine hg_run 1 (pc' := 23) (ls' := [some (vr 8), none, none, none]) (st' := [vR 8]) rfl ?_
    refine gs_8_5 rfl A2 ?_
    refine hg_run 1 (pc' := 27) (ls' := [some (vr 8), none, none, none]) (st' := [vI 0, vR 22]) rfl ?_
    obtain ⟨h3, e3, e⟩ := ob e
    refine ps_22_13 rfl A2 (rgn 0 rfl) e3 (fun w3 A3 => ?_)
    refine hg_run 1 (pc' := 31) (ls' := [some (vr 8), none, none, none]) (st' := [vR 8]) rfl ?_
    refine gs_8_5 rfl A3 ?_
    refine hg_run 1 (pc' := 35) (ls' := [some (vr 8), none, none, none]) (st' := [vI 1, vR 22]) rfl ?_
    obtain ⟨h4, e4, e⟩ := ob e
    refine ps_22_11 rfl A3 (rgn 1 rfl) (.inr rfl) e4 (fun w4 A4 => ?_)
    refine hg_run 2 (pc' := 40) (ls' := [some (vr 8), some (vi 0), none, none]) (st' := []) rfl ?_
    obtain ⟨r11, e11, e⟩ := ob e
    refine t136_l40 hd  _ (rgn 0 rfl) A4 e11 ?_
    intro x11_0 qq11 w11 z11_1 A11
    subst qq11
    refine hg_run 4 (pc' := 95) (ls' := [some (vr 8), some (vi 0), some (vi 0), none]) (st' := []) rfl ?_
    obtain ⟨r24, e24, e⟩ := ob e
    refine t136_l95 hd  _ (rgn 0 rfl) (rgn 0 rfl) A11 e24 ?_
    intro x24_0 x24_1 qq24 w24 z24_2 z24_3 q24_1 A24
    subst qq24
    try dsimp only at e
    refine hg_run 1 (pc' := 166) (ls' := [some (vr 8), some (vi x24_0), z24_2, z24_3]) (st' := [vR 8]) rfl ?_
    refine gs_8_5 rfl A24 ?_
    refine hg_run 1 (pc' := 170) (ls' := [some (vr 8), some (vi x24_0), z24_2, z24_3]) (st' := [vI 0, vR 22]) rfl ?_
    obtain ⟨h25, e25, e⟩ := ob e
    refine ps_22_11 rfl A24 (rgn 0 rfl) (.inl rfl) e25 (fun w25 A25 => ?_)
    refine hg_run 2 (pc' := 175) (ls' := [some (vr 8), some (vi x24_0), z24_2, z24_3]) (st' := [vR 8, vR 8]) rfl ?_
    refine gs_8_6 rfl A25 ?_
    refine hg_run 1 (pc' := 179) (ls' := [some (vr 8), some (vi x24_0), z24_2, z24_3]) (st' := [vR 8, vR 48, vR 8]) rfl ?_
    refine gs_8_7 rfl A25 ?_
    refine hg_run 1 (pc' := 183) (ls' := [some (vr 8), some (vi x24_0), z24_2, z24_3]) (st' := [vI x24_0, vR (hR h25 8 7), vR 48, vR 8]) rfl ?_
    obtain ⟨v26, e26, e⟩ := ob e
    refine hg_cR (as := [vR 48, vR (hR h25 8 7), vI x24_0]) (st' := [vR 8]) rfl (fun _ _ _ _ => rfl) rfl rfl (Nat.le_of_ble_eq_true rfl) (Nat.le_of_ble_eq_true rfl) (recvV A25 (a := 6) (Abs_ks A25 (i := 18) rfl).1) (t139 (by omega) A25 q24_1 e26) (fun w26 A26 => ?_)
    obtain ⟨h27, e27, e⟩ := ob e
    refine ps_8_7 rfl A26 e27 (fun w27 A27 => ?_)
    refine hg_run 1 (pc' := 190) (ls' := [some (vr 8), some (vi x24_0), z24_2, z24_3]) (st' := [vR 8]) rfl ?_
    obtain ⟨h28, e28, e⟩ := ob e
    refine hg_cV (as := [vR 8]) (st' := []) rfl (fun _ _ _ _ => rfl) rfl rfl (Nat.le_of_ble_eq_true rfl) (Nat.le_of_ble_eq_true rfl) (recvV A27 (a := 0) (Abs_ks A27 (i := 0) rfl).1) (t165 (by omega) A27  e28) (fun w28 A28 => ?_)
    refine hg_run 1 (pc' := 194) (ls' := [some (vr 8), some (vi x24_0), z24_2, z24_3]) (st' := [vR 8]) rfl ?_
    refine gs_8_9 rfl A28 ?_
    cases e
    exact hg_retI rfl (by decide) (fit_I _) (kr _ _ rfl _ (Abs_rg A28 8 9) A28)
  · refine hg_icF (tgt := 12) rfl (by decide) (Abs_rg A 8 9) (rgn 1000 rfl) q1 ?_
    refine hg_run 1 (pc' := 11) (ls' := [some (vr 8), none, none, none]) (st' := [vI (-1)]) rfl ?_
    cases e
    exact hg_retI rfl (by decide) (fit_I _) (kr _ _ rfl _ (rgn (-1) rfl) A)
def c166_j19  : Option (Int) :=
  some (-1)
theorem t166_j19 {d : Nat} (hd : 0 ≤ d)  {z1 : Option hO} {h : hS} {w : mmW} {o : Int} {Q : mmO → Prop}  (A : Abs h w) (e : c166_j19  = some o) (kr : ∀ v1 : Int, o = v1 → rg v1 → Q (some (.int (Int32.ofInt v1)), w)) : hG d 166 19 [some (vr 8), z1] [] w Q := by
  unfold c166_j19 at e
  refine hg_run 2 (pc' := 29) (ls' := [some (vr 8), z1]) (st' := [vI (-1)]) rfl ?_
  cases e
  exact hg_retI rfl (by decide) (fit_I _) (kr _ rfl (rgn (-1) rfl))
def c166 (l1 : Int) (h : hS) : Option (Int) :=
  if (hI h 8 9) = 0 then
  c166_j19 
  else
  if l1 < 0 then
  c166_j19 
  else
  if l1 < (hI h 8 8) then
  (aIs h 20 40 l1).bind (fun v4 =>
  some v4)
  else
  c166_j19 
theorem t166 {d : Nat} (hd : 1 ≤ d) {l1 : Int} {h : hS} {w : mmW} {o : Int} (A : Abs h w) (rl1 : rg l1) (e : c166 l1 h = some o) : hEv d 166 [vR 8, vI l1] w (qIp o w) := by
  obtain ⟨d, rfl⟩ : ∃ d1, d = d1 + 1 := ⟨d - 1, by omega⟩
  have hd : 0 ≤ d := by omega
  refine hEv_start (args := [vr 8, vi l1]) (nl := 2) rfl (Nat.le_of_ble_eq_true rfl) ?_
  show hG d 166 0 [some (vr 8), some (vi l1)] [] w _
  have kr : ∀ v1 : Int, o = v1 → rg v1 → qIp o w (some (.int (Int32.ofInt v1)), w) := fun v1 q r => by cases q; exact ⟨rfl, r⟩
  unfold c166 at e
  refine hg_run 1 (pc' := 1) (ls' := [some (vr 8), some (vi l1)]) (st' := [vR 8]) rfl ?_
  refine gs_8_9 rfl A ?_
  rcases oi e with ⟨q1, e⟩ | ⟨q1, e⟩
  · refine hg_ifT (tgt := 19) rfl (by decide) (Abs_rg A 8 9) q1 ?_
    exact t166_j19 hd  A e kr
  · refine hg_ifF (tgt := 19) rfl (by decide) (Abs_rg A 8 9) q1 ?_
    refine hg_run 1 (pc' := 8) (ls' := [some (vr 8), some (vi l1)]) (st' := [vI l1]) rfl ?_
    rcases oi e with ⟨q2, e⟩ | ⟨q2, e⟩
    · refine hg_ifT (tgt := 19) rfl (by decide) rl1 q2 ?_
      exact t166_j19 hd  A e kr
    · refine hg_ifF (tgt := 19) rfl (by decide) rl1 q2 ?_
      refine hg_run 2 (pc' := 13) (ls' := [some (vr 8), some (vi l1)]) (st' := [vR 8, vI l1]) rfl ?_
      refine gs_8_8 rfl A ?_
      rcases oi e with ⟨q3, e⟩ | ⟨q3, e⟩
      · refine hg_icT (tgt := 23) rfl (by decide) rl1 (Abs_rg A 8 8) q3 ?_
        refine hg_run 1 (pc' := 24) (ls' := [some (vr 8), some (vi l1)]) (st' := [vR 8]) rfl ?_
        refine gs_8_3 rfl A ?_
        refine hg_run 1 (pc' := 28) (ls' := [some (vr 8), some (vi l1)]) (st' := [vI l1, vR 20]) rfl ?_
        obtain ⟨v4, e4, e⟩ := ob e
        refine hg_aIs 0 rfl (fun _ _ _ _ => rfl) A (Abs_ks A (i := 11) rfl) rfl (by decide) e4 (fun r4 => ?_)
        cases e
        exact hg_retI rfl (by decide) (fit_I _) (kr _ rfl r4)
      · refine hg_icF (tgt := 23) rfl (by decide) rl1 (Abs_rg A 8 8) q3 ?_
        exact t166_j19 hd  A e kr
def c167 (l1 : Int) (l2 : Int) (h : hS) : Option (Int) :=
  if l1 < 0 then
  some (-1)
  else
  if (hI h 22 13) ≤ l1 then
  some (-1)
  else
  if l2 < 0 then
  some (-1)
  else
  if l2 < 4 then
  (aIs h 26 200 (wadd (wmul l1 4) l2)).bind (fun v5 =>
  some v5)
  else
  some (-1)
theorem t167 {d : Nat} (hd : 1 ≤ d) {l1 : Int} {l2 : Int} {h : hS} {w : mmW} {o : Int} (A : Abs h w) (rl1 : rg l1) (rl2 : rg l2) (e : c167 l1 l2 h = some o) : hEv d 167 [vR 8, vI l1, vI l2] w (qIp o w) := by
  obtain ⟨d, rfl⟩ : ∃ d1, d = d1 + 1 := ⟨d - 1, by omega⟩
  have hd : 0 ≤ d := by omega
  refine hEv_start (args := [vr 8, vi l1, vi l2]) (nl := 3) rfl (Nat.le_of_ble_eq_true rfl) ?_
  show hG d 167 0 [some (vr 8), some (vi l1), some (vi l2)] [] w _
  have kr : ∀ v1 : Int, o = v1 → rg v1 → qIp o w (some (.int (Int32.ofInt v1)), w) := fun v1 q r => by cases q; exact ⟨rfl, r⟩
  unfold c167 at e
  refine hg_run 1 (pc' := 1) (ls' := [some (vr 8), some (vi l1), some (vi l2)]) (st' := [vI l1]) rfl ?_
  rcases oi e with ⟨q1, e⟩ | ⟨q1, e⟩
  · refine hg_ifT (tgt := 24) rfl (by decide) rl1 q1 ?_
    refine hg_run 1 (pc' := 25) (ls' := [some (vr 8), some (vi l1), some (vi l2)]) (st' := [vI (-1)]) rfl ?_
    cases e
    exact hg_retI rfl (by decide) (fit_I _) (kr _ rfl (rgn (-1) rfl))
  · refine hg_ifF (tgt := 24) rfl (by decide) rl1 q1 ?_
    refine hg_run 2 (pc' := 6) (ls' := [some (vr 8), some (vi l1), some (vi l2)]) (st' := [vR 8, vI l1]) rfl ?_
    refine gs_8_5 rfl A ?_
    refine gs_22_13 rfl A ?_
    rcases oi e with ⟨q2, e⟩ | ⟨q2, e⟩
    · refine hg_icT (tgt := 24) rfl (by decide) rl1 (Abs_rg A 22 13) q2 ?_
      refine hg_run 1 (pc' := 25) (ls' := [some (vr 8), some (vi l1), some (vi l2)]) (st' := [vI (-1)]) rfl ?_
      cases e
      exact hg_retI rfl (by decide) (fit_I _) (kr _ rfl (rgn (-1) rfl))
    · refine hg_icF (tgt := 24) rfl (by decide) rl1 (Abs_rg A 22 13) q2 ?_
      refine hg_run 1 (pc' := 16) (ls' := [some (vr 8), some (vi l1), some (vi l2)]) (st' := [vI l2]) rfl ?_
      rcases oi e with ⟨q3, e⟩ | ⟨q3, e⟩
      · refine hg_ifT (tgt := 24) rfl (by decide) rl2 q3 ?_
        refine hg_run 1 (pc' := 25) (ls' := [some (vr 8), some (vi l1), some (vi l2)]) (st' := [vI (-1)]) rfl ?_
        cases e
        exact hg_retI rfl (by decide) (fit_I _) (kr _ rfl (rgn (-1) rfl))
      · refine hg_ifF (tgt := 24) rfl (by decide) rl2 q3 ?_
        refine hg_run 2 (pc' := 21) (ls' := [some (vr 8), some (vi l1), some (vi l2)]) (st' := [vI 4, vI l2]) rfl ?_
        rcases oi e with ⟨q4, e⟩ | ⟨q4, e⟩
        · refine hg_icT (tgt := 26) rfl (by decide) rl2 (rgn 4 rfl) q4 ?_
          refine hg_run 1 (pc' := 27) (ls' := [some (vr 8), some (vi l1), some (vi l2)]) (st' := [vR 8]) rfl ?_
          refine gs_8_5 rfl A ?_
          refine gs_22_12 rfl A ?_
          refine hg_run 5 (pc' := 38) (ls' := [some (vr 8), some (vi l1), some (vi l2)]) (st' := [vI (wadd (wmul l1 4) l2), vR 26]) rfl ?_
          obtain ⟨v5, e5, e⟩ := ob e
          refine hg_aIs 0 rfl (fun _ _ _ _ => rfl) A (Abs_ks A (i := 17) rfl) rfl (by decide) e5 (fun r5 => ?_)
          cases e
          exact hg_retI rfl (by decide) (fit_I _) (kr _ rfl r5)
        · refine hg_icF (tgt := 26) rfl (by decide) rl2 (rgn 4 rfl) q4 ?_
          refine hg_run 1 (pc' := 25) (ls' := [some (vr 8), some (vi l1), some (vi l2)]) (st' := [vI (-1)]) rfl ?_
          cases e
          exact hg_retI rfl (by decide) (fit_I _) (kr _ rfl (rgn (-1) rfl))
def c169 (l0 : Nat) (l1 : Nat) (l2 : Nat) (l3 : Int) (l4 : Int) (h : hS) : Option (hS) :=
  (gR h l0 20 0).bind (fun v1 =>
  (kT h v1 12).bind (fun u3 =>
  (c116 v1 l1 l2 l3 l4 h).bind (fun h2 =>
  (pI h2 l0 20 1 1).bind (fun h4 =>
  (pI h4 l0 20 2 1).bind (fun h5 =>
  (pI h5 l0 20 3 0).bind (fun h6 =>
  (pI h6 l0 20 4 0).bind (fun h7 =>
  (pI h7 l0 20 5 0).bind (fun h8 =>
  (pI h8 l0 20 6 0).bind (fun h9 =>
  some h9)))))))))
theorem t169 {d : Nat} (hd : 2 ≤ d) {l0 : Nat} {l1 : Nat} {l2 : Nat} {l3 : Int} {l4 : Int} {h : hS} {w : mmW} {o : hS} (A : Abs h w) (rl3 : rg l3) (rl4 : rg l4) (e : c169 l0 l1 l2 l3 l4 h = some o) : hEv d 169 [vR l0, vR l1, vR l2, vI l3, vI l4] w (qV o) := by
  obtain ⟨d, rfl⟩ : ∃ d1, d = d1 + 1 := ⟨d - 1, by omega⟩
  have hd : 1 ≤ d := by omega
  refine hEv_start (args := [vr l0, vr l1, vr l2, vi l3, vi l4]) (nl := 5) rfl (Nat.le_of_ble_eq_true rfl) ?_
  show hG d 169 0 [some (vr l0), some (vr l1), some (vr l2), some (vi l3), some (vi l4)] [] w _
  have kr : ∀ h1 : hS, o = h1 → ∀ w', Abs h1 w' → qV o (none, w') := fun h1 q w' A' => by cases q; exact ⟨rfl, A'⟩
  unfold c169 at e
  refine hg_run 1 (pc' := 1) (ls' := [some (vr l0), some (vr l1), some (vr l2), some (vi l3), some (vi l4)]) (st' := [vR l0]) rfl ?_
  obtain ⟨v1, e1, e⟩ := ob e
  refine gd_9_0 rfl A e1 ?_
  refine hg_run 4 (pc' := 9) (ls' := [some (vr l0), some (vr l1), some (vr l2), some (vi l3), some (vi l4)]) (st' := [vI l4, vI l3, vR l2, vR l1, vR v1]) rfl ?_
  obtain ⟨u3, e3, e⟩ := ob e
  obtain ⟨h2, e2, e⟩ := ob e
  refine hg_cV (as := [vR v1, vR l1, vR l2, vI l3, vI l4]) (st' := []) rfl (fun _ _ _ _ => rfl) rfl rfl (Nat.le_of_ble_eq_true rfl) (Nat.le_of_ble_eq_true rfl) (recvV A (a := 5) (kT_e e3)) (t116 (by omega) A rl3 rl4 e2) (fun w2 A2 => ?_)
  refine hg_run 2 (pc' := 14) (ls' := [some (vr l0), some (vr l1), some (vr l2), some (vi l3), some (vi l4)]) (st' := [vI 1, vR l0]) rfl ?_
  obtain ⟨h4, e4, e⟩ := ob e
  refine pd_9_1 rfl A2 (rgn 1 rfl) (.inr rfl) e4 (fun w4 A4 => ?_)
  refine hg_run 2 (pc' := 19) (ls' := [some (vr l0), some (vr l1), some (vr l2), some (vi l3), some (vi l4)]) (st' := [vI 1, vR l0]) rfl ?_
  obtain ⟨h5, e5, e⟩ := ob e
  refine pd_9_2 rfl A4 (rgn 1 rfl) (.inr rfl) e5 (fun w5 A5 => ?_)
  refine hg_run 2 (pc' := 24) (ls' := [some (vr l0), some (vr l1), some (vr l2), some (vi l3), some (vi l4)]) (st' := [vI 0, vR l0]) rfl ?_
  obtain ⟨h6, e6, e⟩ := ob e
  refine pd_9_3 rfl A5 (rgn 0 rfl) (.inl rfl) e6 (fun w6 A6 => ?_)
  refine hg_run 2 (pc' := 29) (ls' := [some (vr l0), some (vr l1), some (vr l2), some (vi l3), some (vi l4)]) (st' := [vI 0, vR l0]) rfl ?_
  obtain ⟨h7, e7, e⟩ := ob e
  refine pd_9_4 rfl A6 (rgn 0 rfl) e7 (fun w7 A7 => ?_)
  refine hg_run 2 (pc' := 34) (ls' := [some (vr l0), some (vr l1), some (vr l2), some (vi l3), some (vi l4)]) (st' := [vI 0, vR l0]) rfl ?_
  obtain ⟨h8, e8, e⟩ := ob e
  refine pd_9_5 rfl A7 (rgn 0 rfl) e8 (fun w8 A8 => ?_)
  refine hg_run 2 (pc' := 39) (ls' := [some (vr l0), some (vr l1), some (vr l2), some (vi l3), some (vi l4)]) (st' := [vI 0, vR l0]) rfl ?_
  obtain ⟨h9, e9, e⟩ := ob e
  refine pd_9_6 rfl A8 (rgn 0 rfl) e9 (fun w9 A9 => ?_)
  cases e
  exact hg_retV rfl (kr _ rfl _ A9)
def c168_b37 (l1 : Int) (l2 : Int) (l3 : Int) (l4 : Nat) (l5 : Int) (h : hS) : Option ((Int × hS) ⊕ ((hS) ⊕ (Int × hS))) :=
  if 10 ≤ l5 then
  some (.inr (.inl (h)))
  else
  (aRs h 21 10 l5).bind (fun v5 =>
  (gI h v5 20 2).bind (fun v6 =>
  if v6 = 0 then
  (aRs h 21 10 l5).bind (fun v8 =>
  (aRs h 19 40 l1).bind (fun v9 =>
  (kT h v8 20).bind (fun u11 =>
  (c169 v8 v9 l4 l2 l3 h).bind (fun h10 =>
  some (.inr (.inr (l5, h10)))))))
  else
  some (.inl ((wadd l5 1), h))))
theorem t168_b37 {d : Nat} (hd : 2 ≤ d) {l1 : Int} {l2 : Int} {l3 : Int} {l4 : Nat} {l5 : Int}  {h : hS} {w : mmW} {o : (Int × hS) ⊕ ((hS) ⊕ (Int × hS))} {Q : mmO → Prop} (rl1 : rg l1) (rl2 : rg l2) (rl3 : rg l3) (rl5 : rg l5) (A : Abs h w) (e : c168_b37 l1 l2 l3 l4 l5 h = some o) (kb : ∀ (s_0 : Int) (s_1 : hS), o = .inl (s_0, s_1) → ∀ w', rg s_0 → Abs s_1 w' → hG d 168 37 [some (vr 8), some (vi l1), some (vi l2), some (vi l3), some (vr l4), some (vi s_0)] [] w' Q) (ke : ∀ (x_0 : hS), o = .inr (.inl (x_0)) → ∀ w', ∀ (y5 : Option hO), Abs x_0 w' → hG d 168 86 [some (vr 8), some (vi l1), some (vi l2), some (vi l3), some (vr l4), y5] [] w' Q) (kr : ∀ (v1 : Int) (h1 : hS), o = .inr (.inr (v1, h1)) → ∀ w', rg v1 → Abs h1 w' → Q (some (.int (Int32.ofInt v1)), w')) : hG d 168 37 [some (vr 8), some (vi l1), some (vi l2), some (vi l3), some (vr l4), some (vi l5)] [] w Q := by
  unfold c168_b37 at e
  refine hg_run 2 (pc' := 41) (ls' := [some (vr 8), some (vi l1), some (vi l2), some (vi l3), some (vr l4), some (vi l5)]) (st' := [vI 10, vI l5]) rfl ?_
  rcases oi e with ⟨q4, e⟩ | ⟨q4, e⟩
  · refine hg_icT (tgt := 86) rfl (by decide) rl5 (rgn 10 rfl) q4 ?_
    cases e
    exact ke h rfl _ _  A
  · refine hg_icF (tgt := 86) rfl (by decide) rl5 (rgn 10 rfl) q4 ?_
    refine hg_run 1 (pc' := 45) (ls' := [some (vr 8), some (vi l1), some (vi l2), some (vi l3), some (vr l4), some (vi l5)]) (st' := [vR 8]) rfl ?_
    refine gs_8_4 rfl A ?_
    refine hg_run 1 (pc' := 50) (ls' := [some (vr 8), some (vi l1), some (vi l2), some (vi l3), some (vr l4), some (vi l5)]) (st' := [vI l5, vR 21]) rfl ?_
    obtain ⟨v5, e5, e⟩ := ob e
    refine hg_aRs 5 rfl (fun _ _ _ _ => rfl) A (Abs_ks A (i := 12) rfl) rfl (by decide) e5 ?_
    obtain ⟨v6, e6, e⟩ := ob e
    refine gd_9_2 rfl A e6 (fun r6 => ?_)
    rcases oi e with ⟨q7, e⟩ | ⟨q7, e⟩
    · refine hg_ifF (tgt := 80) rfl (by decide) r6 (show ¬ ¬ (v6 = 0) from fun f => f q7) ?_
      refine hg_run 1 (pc' := 58) (ls' := [some (vr 8), some (vi l1), some (vi l2), some (vi l3), some (vr l4), some (vi l5)]) (st' := [vR 8]) rfl ?_
      refine gs_8_4 rfl A ?_
      refine hg_run 1 (pc' := 63) (ls' := [some (vr 8), some (vi l1), some (vi l2), some (vi l3), some (vr l4), some (vi l5)]) (st' := [vI l5, vR 21]) rfl ?_
      obtain ⟨v8, e8, e⟩ := ob e
      refine hg_aRs 5 rfl (fun _ _ _ _ => rfl) A (Abs_ks A (i := 12) rfl) rfl (by decide) e8 ?_
      refine hg_run 1 (pc' := 65) (ls' := [some (vr 8), some (vi l1), some (vi l2), some (vi l3), some (vr l4), some (vi l5)]) (st' := [vR 8, vR v8]) rfl ?_
      refine gs_8_2 rfl A ?_
      refine hg_run 1 (pc' := 69) (ls' := [some (vr 8), some (vi l1), some (vi l2), some (vi l3), some (vr l4), some (vi l5)]) (st' := [vI l1, vR 19, vR v8]) rfl ?_
      obtain ⟨v9, e9, e⟩ := ob e
      refine hg_aRs 4 rfl (fun _ _ _ _ => rfl) A (Abs_ks A (i := 10) rfl) rfl (by decide) e9 ?_
      refine hg_run 3 (pc' := 74) (ls' := [some (vr 8), some (vi l1), some (vi l2), some (vi l3), some (vr l4), some (vi l5)]) (st' := [vI l3, vI l2, vR l4, vR v9, vR v8]) rfl ?_
      obtain ⟨u11, e11, e⟩ := ob e
      obtain ⟨h10, e10, e⟩ := ob e
      refine hg_cV (as := [vR v8, vR v9, vR l4, vI l2, vI l3]) (st' := []) rfl (fun _ _ _ _ => rfl) rfl rfl (Nat.le_of_ble_eq_true rfl) (Nat.le_of_ble_eq_true rfl) (recvV A (a := 9) (kT_e e11)) (t169 (by omega) A rl2 rl3 e10) (fun w10 A10 => ?_)
      refine hg_run 1 (pc' := 79) (ls' := [some (vr 8), some (vi l1), some (vi l2), some (vi l3), some (vr l4), some (vi l5)]) (st' := [vI l5]) rfl ?_
      cases e
      exact hg_retI rfl (by decide) (fit_I _) (kr _ _ rfl _ rl5 A10)
    · refine hg_ifT (tgt := 80) rfl (by decide) r6 (show ¬ (v6 = 0) from q7) ?_
      refine hg_run 2 (pc' := 37) (ls' := [some (vr 8), some (vi l1), some (vi l2), some (vi l3), some (vr l4), some (vi (wadd l5 1))]) (st' := []) rfl ?_
      cases e
      exact kb (wadd l5 1) h rfl _ (rg_add _ _) A
theorem t168_l37 {d : Nat} (hd : 2 ≤ d) {l1 : Int} {l2 : Int} {l3 : Int} {l4 : Nat}  {Q : mmO → Prop} (rl1 : rg l1) (rl2 : rg l2) (rl3 : rg l3) (n : Nat) {l5 : Int}  {h : hS} {w : mmW} {r : (hS) ⊕ (Int × hS)} (rl5 : rg l5) (A : Abs h w) (e : lp (fun s => c168_b37 l1 l2 l3 l4 s.1 s.2) n (l5, h) = some r) (ke : ∀ (x_0 : hS), r = .inl (x_0) → ∀ w', ∀ (y5 : Option hO), Abs x_0 w' → hG d 168 86 [some (vr 8), some (vi l1), some (vi l2), some (vi l3), some (vr l4), y5] [] w' Q) (kr : ∀ (v1 : Int) (h1 : hS), r = .inr (v1, h1) → ∀ w', rg v1 → Abs h1 w' → Q (some (.int (Int32.ofInt v1)), w')) : hG d 168 37 [some (vr 8), some (vi l1), some (vi l2), some (vi l3), some (vr l4), some (vi l5)] [] w Q := by
  induction n generalizing l5 h w with
  | zero => cases e
  | succ n ih =>
    rcases lp_succ e with ⟨s1, e1, e2⟩ | e1
    · exact t168_b37 hd rl1 rl2 rl3 rl5 A e1 (fun s_0 s_1 q w1 rl5 A1 => by cases q; exact ih rl5 A1 e2) (fun x_0 q => by cases q) (fun v0 h0 q => by cases q)
    · exact t168_b37 hd rl1 rl2 rl3 rl5 A e1 (fun s_0 s_1 q => by cases q) (fun x_0 q => by cases q; exact ke _ rfl) (fun v0 h0 q => by cases q; exact kr _ _ rfl)
def c168_j25 (s0 : Nat) (l1 : Int) (l2 : Int) (l3 : Int) (h : hS) : Option (Int × hS) :=
  (hnul s0).bind (fun b3 =>
  if b3 = true then
  some ((-1), h)
  else
  (lp (fun s => c168_b37 l1 l2 l3 s0 s.1 s.2) hF0 (0, h)).bind (fun r12 => xs r12 (fun x12 =>
  some ((-1), x12)) (fun o12 => some o12)))
theorem t168_j25 {d : Nat} (hd : 2 ≤ d) {s0 : Nat} {l1 : Int} {l2 : Int} {l3 : Int} {z4 : Option hO} {z5 : Option hO} {h : hS} {w : mmW} {o : Int × hS} {Q : mmO → Prop} (rl1 : rg l1) (rl2 : rg l2) (rl3 : rg l3) (A : Abs h w) (e : c168_j25 s0 l1 l2 l3 h = some o) (kr : ∀ (v1 : Int) (h1 : hS), o = (v1, h1) → ∀ w', rg v1 → Abs h1 w' → Q (some (.int (Int32.ofInt v1)), w')) : hG d 168 25 [some (vr 8), some (vi l1), some (vi l2), some (vi l3), z4, z5] [vR s0] w Q := by
  unfold c168_j25 at e
  refine hg_run 2 (pc' := 29) (ls' := [some (vr 8), some (vi l1), some (vi l2), some (vi l3), some (vr s0), z5]) (st' := [vR s0]) rfl ?_
  obtain ⟨b3, e3, e⟩ := ob e
  rcases oi e with ⟨q3, e⟩ | ⟨q3, e⟩
  · refine hg_nul (yes := false) (tgt := 34) (t2 := 32) rfl (fun _ _ _ _ => rfl) (by decide) (ebT e3 q3) rfl ?_
    refine hg_run 1 (pc' := 33) (ls' := [some (vr 8), some (vi l1), some (vi l2), some (vi l3), some (vr s0), z5]) (st' := [vI (-1)]) rfl ?_
    cases e
    exact hg_retI rfl (by decide) (fit_I _) (kr _ _ rfl _ (rgn (-1) rfl) A)
  · refine hg_nul (yes := false) (tgt := 34) (t2 := 34) rfl (fun _ _ _ _ => rfl) (by decide) (ebF e3 q3) rfl ?_
    refine hg_run 2 (pc' := 37) (ls' := [some (vr 8), some (vi l1), some (vi l2), some (vi l3), some (vr s0), some (vi 0)]) (st' := []) rfl ?_
    obtain ⟨r12, e12, e⟩ := ob e
    refine t168_l37 hd rl1 rl2 rl3 _ (rgn 0 rfl) A e12 ?_ ?_
    · intro x12_0 qq12 w12 z12_5 A12
      subst qq12
      have e := xs_l e
      refine hg_run 1 (pc' := 87) (ls' := [some (vr 8), some (vi l1), some (vi l2), some (vi l3), some (vr s0), z12_5]) (st' := [vI (-1)]) rfl ?_
      cases e
      exact hg_retI rfl (by decide) (fit_I _) (kr _ _ rfl _ (rgn (-1) rfl) A12)
    · intro v12 h12 qq12 w12 r12 A12
      subst qq12
      have e := xs_r e
      cases e
      exact kr _ _ rfl w12 r12 A12
def c168 (l1 : Int) (l2 : Int) (l3 : Int) (h : hS) : Option (Int × hS) :=
  (c103 l1 h).bind (fun v1 =>
  if v1 = 0 then
  c168_j25 0 l1 l2 l3 h
  else
  (aRs h 19 40 l1).bind (fun v13 =>
  (gR h v13 16 2).bind (fun v14 =>
  (kT h v14 24).bind (fun u16 =>
  (c115 v14 l2 h).bind (fun v15 =>
  c168_j25 v15 l1 l2 l3 h)))))
theorem t168 {d : Nat} (hd : 3 ≤ d) {l1 : Int} {l2 : Int} {l3 : Int} {h : hS} {w : mmW} {o : Int × hS} (A : Abs h w) (rl1 : rg l1) (rl2 : rg l2) (rl3 : rg l3) (e : c168 l1 l2 l3 h = some o) : hEv d 168 [vR 8, vI l1, vI l2, vI l3] w (qI o) := by
  obtain ⟨d, rfl⟩ : ∃ d1, d = d1 + 1 := ⟨d - 1, by omega⟩
  have hd : 2 ≤ d := by omega
  refine hEv_start (args := [vr 8, vi l1, vi l2, vi l3]) (nl := 6) rfl (Nat.le_of_ble_eq_true rfl) ?_
  show hG d 168 0 [some (vr 8), some (vi l1), some (vi l2), some (vi l3), none, none] [] w _
  have kr : ∀ (v1 : Int) (h1 : hS), o = (v1, h1) → ∀ w', rg v1 → Abs h1 w' → qI o (some (.int (Int32.ofInt v1)), w') := fun v1 h1 q w' r A' => by cases q; exact ⟨rfl, r, A'⟩
  unfold c168 at e
  refine hg_run 2 (pc' := 2) (ls' := [some (vr 8), some (vi l1), some (vi l2), some (vi l3), none, none]) (st' := [vI l1, vR 8]) rfl ?_
  obtain ⟨v1, e1, e⟩ := ob e
  refine hg_cIp (as := [vR 8, vI l1]) (st' := []) rfl (fun _ _ _ _ => rfl) rfl rfl (Nat.le_of_ble_eq_true rfl) (Nat.le_of_ble_eq_true rfl) (recvV A (a := 0) (Abs_ks A (i := 0) rfl).1) (t103 (by omega) A rl1 e1) (fun r1 => ?_)
  rcases oi e with ⟨q2, e⟩ | ⟨q2, e⟩
  · refine hg_ifT (tgt := 24) rfl (by decide) r1 q2 ?_
    refine hg_run 1 (pc' := 25) (ls' := [some (vr 8), some (vi l1), some (vi l2), some (vi l3), none, none]) (st' := [vR 0]) rfl ?_
    exact t168_j25 hd rl1 rl2 rl3 A e kr
  · refine hg_ifF (tgt := 24) rfl (by decide) r1 q2 ?_
    refine hg_run 1 (pc' := 9) (ls' := [some (vr 8), some (vi l1), some (vi l2), some (vi l3), none, none]) (st' := [vR 8]) rfl ?_
    refine gs_8_2 rfl A ?_
    refine hg_run 1 (pc' := 13) (ls' := [some (vr 8), some (vi l1), some (vi l2), some (vi l3), none, none]) (st' := [vI l1, vR 19]) rfl ?_
    obtain ⟨v13, e13, e⟩ := ob e
    refine hg_aRs 4 rfl (fun _ _ _ _ => rfl) A (Abs_ks A (i := 10) rfl) rfl (by decide) e13 ?_
    obtain ⟨v14, e14, e⟩ := ob e
    refine gd_7_2 rfl A e14 ?_
    refine hg_run 1 (pc' := 18) (ls' := [some (vr 8), some (vi l1), some (vi l2), some (vi l3), none, none]) (st' := [vI l2, vR v14]) rfl ?_
    obtain ⟨u16, e16, e⟩ := ob e
    obtain ⟨v15, e15, e⟩ := ob e
    refine hg_cRp (as := [vR v14, vI l2]) (st' := []) rfl (fun _ _ _ _ => rfl) rfl rfl (Nat.le_of_ble_eq_true rfl) (Nat.le_of_ble_eq_true rfl) (recvV A (a := 11) (kT_e e16)) (t115 (by omega) A rl2 e15) ?_
    refine hg_run 1 (pc' := 25) (ls' := [some (vr 8), some (vi l1), some (vi l2), some (vi l3), none, none]) (st' := [vR v15]) rfl ?_
    exact t168_j25 hd rl1 rl2 rl3 A e kr
def c171 (l0 : Nat) (l1 : Int) (h : hS) : Option (Int) :=
  if l1 < 0 ∨ 5 < l1 then
  some (-1)
  else
  if l1 = 0 then
  (gI h l0 20 2).bind (fun v3 =>
  if v3 = 0 then
  some 0
  else
  some 1)
  else
  if l1 = 1 then
  (gI h l0 20 4).bind (fun v6 =>
  some v6)
  else
  if l1 = 2 then
  (gI h l0 20 5).bind (fun v8 =>
  some v8)
  else
  if l1 = 3 then
  (gR h l0 20 0).bind (fun v10 =>
  (gR h v10 12 1).bind (fun v11 =>
  (gI h v11 24 2).bind (fun v12 =>
  some v12)))
  else
  if l1 = 4 then
  (gI h l0 20 3).bind (fun v14 =>
  if v14 = 0 then
  some 0
  else
  some 1)
  else
  if l1 = 5 then
  (gI h l0 20 6).bind (fun v17 =>
  some v17)
  else
  none
theorem t171 {d : Nat} (hd : 1 ≤ d) {l0 : Nat} {l1 : Int} {h : hS} {w : mmW} {o : Int} (A : Abs h w) (rl1 : rg l1) (e : c171 l0 l1 h = some o) : hEv d 171 [vR l0, vI l1] w (qIp o w) := by
  obtain ⟨d, rfl⟩ : ∃ d1, d = d1 + 1 := ⟨d - 1, by omega⟩
  have hd : 0 ≤ d := by omega
  refine hEv_start (args := [vr l0, vi l1]) (nl := 2) rfl (Nat.le_of_ble_eq_true rfl) ?_
  show hG d 171 0 [some (vr l0), some (vi l1)] [] w _
  have kr : ∀ v1 : Int, o = v1 → rg v1 → qIp o w (some (.int (Int32.ofInt v1)), w) := fun v1 q r => by cases q; exact ⟨rfl, r⟩
  unfold c171 at e
  refine hg_run 1 (pc' := 1) (ls' := [some (vr l0), some (vi l1)]) (st' := [vI l1]) rfl ?_
  rcases oi e with ⟨q1, e⟩ | ⟨q1, e⟩
  · refine hg_tsD (tgt := 92) rfl rl1 q1 (by decide) ?_
    refine hg_run 1 (pc' := 93) (ls' := [some (vr l0), some (vi l1)]) (st' := [vI (-1)]) rfl ?_
    cases e
    exact hg_retI rfl (by decide) (fit_I _) (kr _ rfl (rgn (-1) rfl))
  · rcases oi e with ⟨q2, e⟩ | ⟨q2, e⟩
    · refine hg_tsC (tgt := 40) rfl rl1 q2 (by decide) rfl (by decide) ?_
      refine hg_run 1 (pc' := 41) (ls' := [some (vr l0), some (vi l1)]) (st' := [vR l0]) rfl ?_
      obtain ⟨v3, e3, e⟩ := ob e
      refine gd_9_2 rfl A e3 (fun r3 => ?_)
      rcases oi e with ⟨q4, e⟩ | ⟨q4, e⟩
      · refine hg_ifT (tgt := 51) rfl (by decide) r3 q4 ?_
        refine hg_run 1 (pc' := 52) (ls' := [some (vr l0), some (vi l1)]) (st' := [vI 0]) rfl ?_
        cases e
        exact hg_retI rfl (by decide) (fit_I _) (kr _ rfl (rgn 0 rfl))
      · refine hg_ifF (tgt := 51) rfl (by decide) r3 q4 ?_
        refine hg_run 2 (pc' := 52) (ls' := [some (vr l0), some (vi l1)]) (st' := [vI 1]) rfl ?_
        cases e
        exact hg_retI rfl (by decide) (fit_I _) (kr _ rfl (rgn 1 rfl))
    · rcases oi e with ⟨q5, e⟩ | ⟨q5, e⟩
      · refine hg_tsC (tgt := 53) rfl rl1 q5 (by decide) rfl (by decide) ?_
        refine hg_run 1 (pc' := 54) (ls' := [some (vr l0), some (vi l1)]) (st' := [vR l0]) rfl ?_
        obtain ⟨v6, e6, e⟩ := ob e
        refine gd_9_4 rfl A e6 (fun r6 => ?_)
        cases e
        exact hg_retI rfl (by decide) (fit_I _) (kr _ rfl r6)
      · rcases oi e with ⟨q7, e⟩ | ⟨q7, e⟩
        · refine hg_tsC (tgt := 58) rfl rl1 q7 (by decide) rfl (by decide) ?_
          refine hg_run 1 (pc' := 59) (ls' := [some (vr l0), some (vi l1)]) (st' := [vR l0]) rfl ?_
          obtain ⟨v8, e8, e⟩ := ob e
          refine gd_9_5 rfl A e8 (fun r8 => ?_)
          cases e
          exact hg_retI rfl (by decide) (fit_I _) (kr _ rfl r8)
        · rcases oi e with ⟨q9, e⟩ | ⟨q9, e⟩
          · refine hg_tsC (tgt := 63) rfl rl1 q9 (by decide) rfl (by decide) ?_
            refine hg_run 1 (pc' := 64) (ls' := [some (vr l0), some (vi l1)]) (st' := [vR l0]) rfl ?_
            obtain ⟨v10, e10, e⟩ := ob e
            refine gd_9_0 rfl A e10 ?_
            obtain ⟨v11, e11, e⟩ := ob e
            refine gd_5_1 rfl A e11 ?_
            obtain ⟨v12, e12, e⟩ := ob e
            refine gd_11_2 rfl A e12 (fun r12 => ?_)
            cases e
            exact hg_retI rfl (by decide) (fit_I _) (kr _ rfl r12)
          · rcases oi e with ⟨q13, e⟩ | ⟨q13, e⟩
            · refine hg_tsC (tgt := 74) rfl rl1 q13 (by decide) rfl (by decide) ?_
              refine hg_run 1 (pc' := 75) (ls' := [some (vr l0), some (vi l1)]) (st' := [vR l0]) rfl ?_
              obtain ⟨v14, e14, e⟩ := ob e
              refine gd_9_3 rfl A e14 (fun r14 => ?_)
              rcases oi e with ⟨q15, e⟩ | ⟨q15, e⟩
              · refine hg_ifT (tgt := 85) rfl (by decide) r14 q15 ?_
                refine hg_run 1 (pc' := 86) (ls' := [some (vr l0), some (vi l1)]) (st' := [vI 0]) rfl ?_
                cases e
                exact hg_retI rfl (by decide) (fit_I _) (kr _ rfl (rgn 0 rfl))
              · refine hg_ifF (tgt := 85) rfl (by decide) r14 q15 ?_
                refine hg_run 2 (pc' := 86) (ls' := [some (vr l0), some (vi l1)]) (st' := [vI 1]) rfl ?_
                cases e
                exact hg_retI rfl (by decide) (fit_I _) (kr _ rfl (rgn 1 rfl))
            · rcases oi e with ⟨q16, e⟩ | ⟨q16, e⟩
              · refine hg_tsC (tgt := 87) rfl rl1 q16 (by decide) rfl (by decide) ?_
                refine hg_run 1 (pc' := 88) (ls' := [some (vr l0), some (vi l1)]) (st' := [vR l0]) rfl ?_
                obtain ⟨v17, e17, e⟩ := ob e
                refine gd_9_6 rfl A e17 (fun r17 => ?_)
                cases e
                exact hg_retI rfl (by decide) (fit_I _) (kr _ rfl r17)
              · cases e
def c170 (l1 : Int) (l2 : Int) (h : hS) : Option (Int) :=
  if l1 < 0 then
  some (-1)
  else
  if 10 ≤ l1 then
  some (-1)
  else
  (aRs h 21 10 l1).bind (fun v3 =>
  (gI h v3 20 1).bind (fun v4 =>
  if v4 = 0 then
  some (-1)
  else
  (aRs h 21 10 l1).bind (fun v6 =>
  (kT h v6 20).bind (fun u8 =>
  (c171 v6 l2 h).bind (fun v7 =>
  some v7)))))
theorem t170 {d : Nat} (hd : 2 ≤ d) {l1 : Int} {l2 : Int} {h : hS} {w : mmW} {o : Int} (A : Abs h w) (rl1 : rg l1) (rl2 : rg l2) (e : c170 l1 l2 h = some o) : hEv d 170 [vR 8, vI l1, vI l2] w (qIp o w) := by
  obtain ⟨d, rfl⟩ : ∃ d1, d = d1 + 1 := ⟨d - 1, by omega⟩
  have hd : 1 ≤ d := by omega
  refine hEv_start (args := [vr 8, vi l1, vi l2]) (nl := 3) rfl (Nat.le_of_ble_eq_true rfl) ?_
  show hG d 170 0 [some (vr 8), some (vi l1), some (vi l2)] [] w _
  have kr : ∀ v1 : Int, o = v1 → rg v1 → qIp o w (some (.int (Int32.ofInt v1)), w) := fun v1 q r => by cases q; exact ⟨rfl, r⟩
  unfold c170 at e
  refine hg_run 1 (pc' := 1) (ls' := [some (vr 8), some (vi l1), some (vi l2)]) (st' := [vI l1]) rfl ?_
  rcases oi e with ⟨q1, e⟩ | ⟨q1, e⟩
  · refine hg_ifT (tgt := 22) rfl (by decide) rl1 q1 ?_
    refine hg_run 1 (pc' := 23) (ls' := [some (vr 8), some (vi l1), some (vi l2)]) (st' := [vI (-1)]) rfl ?_
    cases e
    exact hg_retI rfl (by decide) (fit_I _) (kr _ rfl (rgn (-1) rfl))
  · refine hg_ifF (tgt := 22) rfl (by decide) rl1 q1 ?_
    refine hg_run 2 (pc' := 7) (ls' := [some (vr 8), some (vi l1), some (vi l2)]) (st' := [vI 10, vI l1]) rfl ?_
    rcases oi e with ⟨q2, e⟩ | ⟨q2, e⟩
    · refine hg_icT (tgt := 22) rfl (by decide) rl1 (rgn 10 rfl) q2 ?_
      refine hg_run 1 (pc' := 23) (ls' := [some (vr 8), some (vi l1), some (vi l2)]) (st' := [vI (-1)]) rfl ?_
      cases e
      exact hg_retI rfl (by decide) (fit_I _) (kr _ rfl (rgn (-1) rfl))
    · refine hg_icF (tgt := 22) rfl (by decide) rl1 (rgn 10 rfl) q2 ?_
      refine hg_run 1 (pc' := 11) (ls' := [some (vr 8), some (vi l1), some (vi l2)]) (st' := [vR 8]) rfl ?_
      refine gs_8_4 rfl A ?_
      refine hg_run 1 (pc' := 15) (ls' := [some (vr 8), some (vi l1), some (vi l2)]) (st' := [vI l1, vR 21]) rfl ?_
      obtain ⟨v3, e3, e⟩ := ob e
      refine hg_aRs 5 rfl (fun _ _ _ _ => rfl) A (Abs_ks A (i := 12) rfl) rfl (by decide) e3 ?_
      obtain ⟨v4, e4, e⟩ := ob e
      refine gd_9_1 rfl A e4 (fun r4 => ?_)
      rcases oi e with ⟨q5, e⟩ | ⟨q5, e⟩
      · refine hg_ifF (tgt := 24) rfl (by decide) r4 (show ¬ ¬ (v4 = 0) from fun f => f q5) ?_
        refine hg_run 1 (pc' := 23) (ls' := [some (vr 8), some (vi l1), some (vi l2)]) (st' := [vI (-1)]) rfl ?_
        cases e
        exact hg_retI rfl (by decide) (fit_I _) (kr _ rfl (rgn (-1) rfl))
      · refine hg_ifT (tgt := 24) rfl (by decide) r4 (show ¬ (v4 = 0) from q5) ?_
        refine hg_run 1 (pc' := 25) (ls' := [some (vr 8), some (vi l1), some (vi l2)]) (st' := [vR 8]) rfl ?_
        refine gs_8_4 rfl A ?_
        refine hg_run 1 (pc' := 29) (ls' := [some (vr 8), some (vi l1), some (vi l2)]) (st' := [vI l1, vR 21]) rfl ?_
        obtain ⟨v6, e6, e⟩ := ob e
        refine hg_aRs 5 rfl (fun _ _ _ _ => rfl) A (Abs_ks A (i := 12) rfl) rfl (by decide) e6 ?_
        refine hg_run 1 (pc' := 31) (ls' := [some (vr 8), some (vi l1), some (vi l2)]) (st' := [vI l2, vR v6]) rfl ?_
        obtain ⟨u8, e8, e⟩ := ob e
        obtain ⟨v7, e7, e⟩ := ob e
        refine hg_cIp (as := [vR v6, vI l2]) (st' := []) rfl (fun _ _ _ _ => rfl) rfl rfl (Nat.le_of_ble_eq_true rfl) (Nat.le_of_ble_eq_true rfl) (recvV A (a := 9) (kT_e e8)) (t171 (by omega) A rl2 e7) (fun r7 => ?_)
        cases e
        exact hg_retI rfl (by decide) (fit_I _) (kr _ rfl r7)
def c172 (l1 : Int) (l2 : Int) (h : hS) : Option (Int × hS) :=
  if l1 < 0 then
  some (0, h)
  else
  if 10 ≤ l1 then
  some (0, h)
  else
  (aRs h 21 10 l1).bind (fun v3 =>
  (gI h v3 20 2).bind (fun v4 =>
  if v4 = 0 then
  some (0, h)
  else
  (aRs h 21 10 l1).bind (fun v6 =>
  (kB l2).bind (fun u8 =>
  (pI h v6 20 3 l2).bind (fun h7 =>
  some (1, h7))))))
theorem t172 {d : Nat} (hd : 1 ≤ d) {l1 : Int} {l2 : Int} {h : hS} {w : mmW} {o : Int × hS} (A : Abs h w) (rl1 : rg l1) (rl2 : rg l2) (e : c172 l1 l2 h = some o) : hEv d 172 [vR 8, vI l1, vI l2] w (qI o) := by
  obtain ⟨d, rfl⟩ : ∃ d1, d = d1 + 1 := ⟨d - 1, by omega⟩
  have hd : 0 ≤ d := by omega
  refine hEv_start (args := [vr 8, vi l1, vi l2]) (nl := 3) rfl (Nat.le_of_ble_eq_true rfl) ?_
  show hG d 172 0 [some (vr 8), some (vi l1), some (vi l2)] [] w _
  have kr : ∀ (v1 : Int) (h1 : hS), o = (v1, h1) → ∀ w', rg v1 → Abs h1 w' → qI o (some (.int (Int32.ofInt v1)), w') := fun v1 h1 q w' r A' => by cases q; exact ⟨rfl, r, A'⟩
  unfold c172 at e
  refine hg_run 1 (pc' := 1) (ls' := [some (vr 8), some (vi l1), some (vi l2)]) (st' := [vI l1]) rfl ?_
  rcases oi e with ⟨q1, e⟩ | ⟨q1, e⟩
  · refine hg_ifT (tgt := 22) rfl (by decide) rl1 q1 ?_
    refine hg_run 1 (pc' := 23) (ls' := [some (vr 8), some (vi l1), some (vi l2)]) (st' := [vI 0]) rfl ?_
    cases e
    exact hg_retI rfl (by decide) (fit_B (.inl rfl)) (kr _ _ rfl _ (rgn 0 rfl) A)
  · refine hg_ifF (tgt := 22) rfl (by decide) rl1 q1 ?_
    refine hg_run 2 (pc' := 7) (ls' := [some (vr 8), some (vi l1), some (vi l2)]) (st' := [vI 10, vI l1]) rfl ?_
    rcases oi e with ⟨q2, e⟩ | ⟨q2, e⟩
    · refine hg_icT (tgt := 22) rfl (by decide) rl1 (rgn 10 rfl) q2 ?_
      refine hg_run 1 (pc' := 23) (ls' := [some (vr 8), some (vi l1), some (vi l2)]) (st' := [vI 0]) rfl ?_
      cases e
      exact hg_retI rfl (by decide) (fit_B (.inl rfl)) (kr _ _ rfl _ (rgn 0 rfl) A)
    · refine hg_icF (tgt := 22) rfl (by decide) rl1 (rgn 10 rfl) q2 ?_
      refine hg_run 1 (pc' := 11) (ls' := [some (vr 8), some (vi l1), some (vi l2)]) (st' := [vR 8]) rfl ?_
      refine gs_8_4 rfl A ?_
      refine hg_run 1 (pc' := 15) (ls' := [some (vr 8), some (vi l1), some (vi l2)]) (st' := [vI l1, vR 21]) rfl ?_
      obtain ⟨v3, e3, e⟩ := ob e
      refine hg_aRs 5 rfl (fun _ _ _ _ => rfl) A (Abs_ks A (i := 12) rfl) rfl (by decide) e3 ?_
      obtain ⟨v4, e4, e⟩ := ob e
      refine gd_9_2 rfl A e4 (fun r4 => ?_)
      rcases oi e with ⟨q5, e⟩ | ⟨q5, e⟩
      · refine hg_ifF (tgt := 24) rfl (by decide) r4 (show ¬ ¬ (v4 = 0) from fun f => f q5) ?_
        refine hg_run 1 (pc' := 23) (ls' := [some (vr 8), some (vi l1), some (vi l2)]) (st' := [vI 0]) rfl ?_
        cases e
        exact hg_retI rfl (by decide) (fit_B (.inl rfl)) (kr _ _ rfl _ (rgn 0 rfl) A)
      · refine hg_ifT (tgt := 24) rfl (by decide) r4 (show ¬ (v4 = 0) from q5) ?_
        refine hg_run 1 (pc' := 25) (ls' := [some (vr 8), some (vi l1), some (vi l2)]) (st' := [vR 8]) rfl ?_
        refine gs_8_4 rfl A ?_
        refine hg_run 1 (pc' := 29) (ls' := [some (vr 8), some (vi l1), some (vi l2)]) (st' := [vI l1, vR 21]) rfl ?_
        obtain ⟨v6, e6, e⟩ := ob e
        refine hg_aRs 5 rfl (fun _ _ _ _ => rfl) A (Abs_ks A (i := 12) rfl) rfl (by decide) e6 ?_
        refine hg_run 1 (pc' := 31) (ls' := [some (vr 8), some (vi l1), some (vi l2)]) (st' := [vI l2, vR v6]) rfl ?_
        obtain ⟨u8, e8, e⟩ := ob e
        obtain ⟨h7, e7, e⟩ := ob e
        refine pd_9_3 rfl A rl2 (kB_e e8) e7 (fun w7 A7 => ?_)
        refine hg_run 1 (pc' := 35) (ls' := [some (vr 8), some (vi l1), some (vi l2)]) (st' := [vI 1]) rfl ?_
        cases e
        exact hg_retI rfl (by decide) (fit_B (.inr rfl)) (kr _ _ rfl _ (rgn 1 rfl) A7)
