/-! a world read from another number -/
/-- world w of h' is world 1 of h -/
def agw (w : Int) (m : Nat) (h h' : hS) : Prop := ∀ k f : Int, 0 ≤ k → k < m → 0 ≤ f → f < 64 → wg h' w k f = wg h 1 k f
section AGW
variable {hr hr' : hS} {m : Nat} {r : Int → Nat} {u n w : Int}
theorem fIx_w (a : agw w m hr hr') (W : WF hr 1 m r) (u0 : 0 ≤ u) (u1 : u < m) : fIx hr' w u n = fIx hr 1 u n := by
  obtain ⟨-, -, w3, -, -⟩ := W.2.2 u u0 u1
  unfold fIx
  rw [a u 5 u0 u1 (by omega) (by omega)]
  exact ix_congr (fun i hi => a u _ u0 u1 (by omega) (by omega))
theorem sIx_w (a : agw w m hr hr') (W : WF hr 1 m r) (u0 : 0 ≤ u) (u1 : u < m) : sIx hr' w u n = sIx hr 1 u n := by
  obtain ⟨-, -, -, w4, -⟩ := W.2.2 u u0 u1
  unfold sIx
  rw [a u 30 u0 u1 (by omega) (by omega)]
  exact ix_congr (fun i hi => a u _ u0 u1 (by omega) (by omega))
theorem aIx_w (a : agw w m hr hr') (W : WF hr 1 m r) (u0 : 0 ≤ u) (u1 : u < m) : aIx hr' w u n = aIx hr 1 u n := by
  obtain ⟨-, -, -, -, w5⟩ := W.2.2 u u0 u1
  unfold aIx
  rw [a u 39 u0 u1 (by omega) (by omega)]
  exact ix_congr (fun i hi => a u _ u0 u1 (by omega) (by omega))
theorem hOw_w (a : agw w m hr hr') (W : WF hr 1 m r) (u0 : 0 ≤ u) (u1 : u < m) : hOw hr' w u n = hOw hr 1 u n := by
  unfold hOw
  rw [fIx_w a W u0 u1, sIx_w a W u0 u1]
theorem clb_w {P P' : Int → Bool} (a : agw w m hr hr') (W : WF hr 1 m r) (h : ∀ u : Int, 0 ≤ u → u < m → P' u = P u) (f : Nat) (hu : u = -1 ∨ (0 ≤ u ∧ u < m)) : clb P' (fun u => wg hr' w u 1) f u = clb P (fun u => wg hr 1 u 1) f u :=
  clb_eq (ok := fun u => 0 ≤ u ∧ u < m) (fun u hu => ⟨h u hu.1 hu.2, a u 1 hu.1 hu.2 (by omega) (by omega), WF_up W hu⟩) f u hu
theorem fAt_w (a : agw w m hr hr') (W : WF hr 1 m r) (hu : u = -1 ∨ (0 ≤ u ∧ u < m)) : fAt hr' w u n = fAt hr 1 u n := clb_w a W (fun u u0 u1 => by rw [fIx_w a W u0 u1]) 13 hu
theorem sAt_w (a : agw w m hr hr') (W : WF hr 1 m r) (hu : u = -1 ∨ (0 ≤ u ∧ u < m)) : sAt hr' w u n = sAt hr 1 u n := clb_w a W (fun u u0 u1 => by rw [sIx_w a W u0 u1]) 13 hu
theorem aAt_w (a : agw w m hr hr') (W : WF hr 1 m r) (hu : u = -1 ∨ (0 ≤ u ∧ u < m)) : aAt hr' w u n = aAt hr 1 u n := clb_w a W (fun u u0 u1 => by rw [aIx_w a W u0 u1]) 13 hu
theorem CF_w (a : agw w m hr hr') (W : WF hr 1 m r) (C : CF hr 1 m) : CF hr' w m := by
  intro j j0 j1
  obtain ⟨c1, c2, c3, c4⟩ := C j j0 j1
  obtain ⟨-, -, w3, w4, -⟩ := W.2.2 j j0 j1
  refine ⟨fun x y hx hy h => ?_, fun x y hx hy h => ?_, fun n h => ?_, fun n h => ?_⟩
  · rw [a j 5 j0 j1 (by omega) (by omega)] at hx hy
    rw [a j _ j0 j1 (by omega) (by omega), a j _ j0 j1 (by omega) (by omega)] at h
    exact c1 x y hx hy h
  · rw [a j 30 j0 j1 (by omega) (by omega)] at hx hy
    rw [a j _ j0 j1 (by omega) (by omega), a j _ j0 j1 (by omega) (by omega)] at h
    exact c2 x y hx hy h
  · rw [fIx_w a W j0 j1] at h
    rw [sIx_w a W j0 j1]
    exact c3 n h
  · rw [hOw_w a W j0 j1] at h
    rw [a j 1 j0 j1 (by omega) (by omega), clb_w a W (fun u u0 u1 => hOw_w a W u0 u1) 13 (WF_up W ⟨j0, j1⟩)]
    exact c4 n h
/-- the fields alone once in a chain -/
theorem CL_of {w : Int} (C : CF hr w m) : CL hr w m := fun j j0 j1 => ⟨(C j j0 j1).1, fun n hn => by
  have := (C j j0 j1).2.2.2 n (hOw_o (.inl hn))
  exact clb_sb (P := fun u => decide (fIx hr w u n ≠ -1)) (fun v hv => hOw_o (.inl (of_decide_eq_true hv))) 13 _ this⟩
variable {hc hc' : hS} {C K : Nat → Int → Prop} {p : Nat}
/-- the pond stands beside the world under its new number -/
theorem PW_w (P : PW hc hr C p 1 m r) (a : agw w m hr hr') (em : wm hr' w = wm hr 1) (e : ∀ x, p ≤ x → x < hN hc → sm hc hc' x) (hp : ∀ j : Int, 0 ≤ j → j < m → p ≤ kd hc p j) (en : hN hc ≤ hN hc') (hC : ∀ x v, C x v → K x v) : PW hc' hr' K p w m r := by
  obtain ⟨W, ⟨p1, p2, p3, p4, p5, p6, p7⟩, P3, P4⟩ := P
  have hm := W.2.1
  have ep := e p (Nat.le_refl _) (by omega)
  have ep1 := e (p + 1) (by omega) p2
  have hk : ∀ u, kd hc' p u = kd hc p u := fun u => by
    unfold kd
    split
    · rfl
    · exact ep1.2.1 _
  refine ⟨⟨by rw [em]; exact W.1, hm, fun k k0 k1 => ?_⟩, ⟨p1, by omega, by rw [ep.2.2.1]; exact p3, by rw [ep.2.1]; exact p4, by rw [ep1.2.2.1]; exact p5, by rw [ep1.2.2.2]; exact p6, by rw [ep.1]; exact p7⟩, fun i i0 i1 => ?_, fun i j i0 i1 j0 j1 => ?_⟩
  · rw [a k 1 k0 k1 (by omega) (by omega), a k 5 k0 k1 (by omega) (by omega), a k 30 k0 k1 (by omega) (by omega), a k 39 k0 k1 (by omega) (by omega)]
    exact W.2.2 k k0 k1
  · obtain ⟨k1, k2, k3, k4, k5, k6, k7⟩ := P3 i i0 i1
    obtain ⟨-, -, w3, w4, w5⟩ := W.2.2 i i0 i1
    have hpi := hp i i0 i1
    have eo : ∀ o, o ≤ 12 → sm hc hc' (kd hc p i + o) := fun o ho => e _ (by omega) (by have := k1.2.1; omega)
    have e0 := eo 0 (by omega)
    rw [Nat.add_zero] at e0
    unfold KR
    rw [hk i]
    refine ⟨⟨k1.1, by have := k1.2.1; omega, by rw [e0.2.2.1]; exact k1.2.2.1, fun b hb => ?_⟩, ?_, ?_, ?_, ⟨?_, fun t ht => ?_⟩, ⟨?_, fun t ht => ?_⟩, ?_, fun t ht => ?_⟩
    · obtain ⟨a1, a2, a3⟩ := k1.2.2.2 b hb
      have ho : b.2.1 ≤ 12 := by
        have : ∀ a ∈ karL, a.2.1 ≤ 12 := by decide
        exact this b hb
      have e2 := eo b.2.1 ho
      exact ⟨by rw [e0.2.1]; exact a1, by rw [e2.2.2.1]; exact a2, by rw [e2.2.2.2]; exact a3⟩
    · rw [e0.1, a i 0 i0 i1 (by omega) (by omega)]; exact k2
    · rw [e0.2.1, a i 1 i0 i1 (by omega) (by omega), hk]; exact k3
    · rw [e0.1, a i 2 i0 i1 (by omega) (by omega)]; exact k4
    · rw [e0.1, a i 5 i0 i1 (by omega) (by omega)]; exact k5.1
    · rw [a i 5 i0 i1 (by omega) (by omega)] at ht
      rw [(eo 1 (by omega)).1, (eo 2 (by omega)).1, a i _ i0 i1 (by omega) (by omega), a i _ i0 i1 (by omega) (by omega)]
      exact k5.2 t ht
    · rw [e0.1, a i 30 i0 i1 (by omega) (by omega)]; exact k6.1
    · rw [a i 30 i0 i1 (by omega) (by omega)] at ht
      rw [(eo 4 (by omega)).1, (eo 5 (by omega)).1, a i _ i0 i1 (by omega) (by omega), a i _ i0 i1 (by omega) (by omega)]
      exact k6.2 t ht
    · rw [e0.1, a i 39 i0 i1 (by omega) (by omega)]; exact k7.1
    · rw [a i 39 i0 i1 (by omega) (by omega)] at ht
      rw [(eo 6 (by omega)).1, (eo 7 (by omega)).2.1, a i _ i0 i1 (by omega) (by omega), a i _ i0 i1 (by omega) (by omega)]
      obtain ⟨y1, y2, y3⟩ := k7.2 t ht
      exact ⟨y1, hC _ _ y2, y3⟩
  · rw [a i 0 i0 i1 (by omega) (by omega), a j 0 j0 j1 (by omega) (by omega)]
    exact P4 i j i0 i1 j0 j1
end AGW
/-- what the code arrays stand for, by the kept texts -/
def CT (hc hr : hS) (K : Nat → Int → Prop) (κ : Nat) : Prop := ∀ x v, K x v → 448 ≤ x ∧ x < hN hc ∧ hT hc x = 1 ∧ ∃ (t : Nat) (f : Int) (C : List Int), t ≤ κ ∧ BK (ntx hr t) 0 13 1200 0 f C ∧ v = (if f = -1 then -1 else 1200 * (t : Int) + f) ∧ (hL hc x = C.length + 1 ∧ C.length ≤ 1996) ∧ ∀ (i : Nat) (z : Int), (C ++ [0])[i]? = some z → hI hc x i = z
section TKN
variable {hc hr : hS} {n l mk N0 M0 p : Nat} {b : Nat → Int} {K : Nat → Int → Prop}
/-- the told pond is settled: nothing but its tables is other, and they say what the names mean -/
theorem pond_s (Q : MP n b N0 M0 l K p mk rN hc hr) : ∃ hS', c88 p 0 0 hc = some hS' ∧ gch p mk hc hS' ∧ (∀ u : Int, 0 ≤ u → u < mk → hI hS' (kd hc p u) 2 = 0) ∧ (∀ u : Int, 0 ≤ u → u < mk → TBr hc hr hS' p u) ∧ PW hS' hr K p 1 mk rN ∧ (∀ u : Int, 0 ≤ u → u < mk → XR hS' hr p 1 u) := by
  obtain ⟨q, m, sl, B, hm, W, T, hN0, t17, rm, Cf, Tz⟩ := Q
  have h12 := W.1.1.2.1
  obtain ⟨h', a1, a2, a3⟩ := c88_e (gen := 0) W Cf.1 (fun j j0 j1 => Tz j j0 j1)
  have g0 : ∀ u : Int, 0 ≤ u → u < mk → hI h' (kd hc p u) 2 = 0 := fun u u0 u1 => by
    rw [(a3 u u0 u1).1]
    split
    · rw [(W.1.2.2.1 u u0 u1).2.2.2.1]
      exact Cf.2 u u0 u1
    · rfl
  have B' := gch_BW W a2
  have hk := gch_kd W a2
  have hp2 := W.1.2.1.2.1
  have ag : ∀ k f : Int, 0 ≤ k → k < mk → 0 ≤ f → f < 64 → wg hr 1 k f = wg (gw hr (fun k => hI h' (kd h' p (k : Int)) 2)) 1 k f := fun k f k0 k1 f0 f1 => by
    by_cases c : f = 2
    · rw [c, gw_2 _ k0 (by omega), show ((k.toNat : Nat) : Int) = k by omega, hk, g0 k k0 k1]
      exact Cf.2 k k0 k1
    · rw [gw_o _ k0 (by omega) f0 f1 c]
  refine ⟨h', ?_, a2, g0, fun u u0 u1 => (a3 u u0 u1).2, ?_, fun u u0 u1 => ?_⟩
  · unfold c88
    rw [a1]
    simp only [bsome]
    rw [hnul_0]
    rfl
  · exact PW_w B'.1 ag (gw_m _).symm (fun x _ _ => sm_rf) (fun j j0 j1 => by have := B'.2.1 j j0 j1; omega) (Nat.le_refl _) (fun _ _ h => h)
  · obtain ⟨y1, y2⟩ := B'.2.2.2.2 u u0 u1
    obtain ⟨-, -, w3, -, -⟩ := W.1.1.2.2 u u0 u1
    have e5 := ag u 5 u0 u1 (by omega) (by omega)
    refine ⟨by rw [ag u 3 u0 u1 (by omega) (by omega)]; exact y1, fun i hi => ?_⟩
    rw [ag u _ u0 u1 (by omega) (by omega)]
    exact y2 i (by rw [← e5]; exact hi)
end TKN
