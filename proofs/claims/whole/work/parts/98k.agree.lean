/-! worlds that agree but for generations -/
def agr (m : Nat) (h h' : hS) : Prop := ∀ k f : Int, 0 ≤ k → k < m → 0 ≤ f → f < 64 → f ≠ 2 → wg h' 1 k f = wg h 1 k f
theorem clb_eq {P P' : Int → Bool} {up up' : Int → Int} {ok : Int → Prop} (h : ∀ u, ok u → P' u = P u ∧ up' u = up u ∧ (up u = -1 ∨ ok (up u))) : ∀ (f : Nat) (u : Int), (u = -1 ∨ ok u) → clb P' up' f u = clb P up f u
  | 0, _, _ => rfl
  | f + 1, u, hu => by
    show (if u = -1 then -1 else if P' u = true then u else clb P' up' f (up' u)) = (if u = -1 then -1 else if P u = true then u else clb P up f (up u))
    rcases hu with rfl | hu
    · rfl
    · obtain ⟨h1, h2, h3⟩ := h u hu
      rw [h1, h2, clb_eq h f (up u) h3]
section AGR
variable {hr hr' : hS} {m : Nat} {r : Int → Nat} {u n : Int}
theorem fIx_v (a : agr m hr hr') (W : WF hr 1 m r) (u0 : 0 ≤ u) (u1 : u < m) : fIx hr' 1 u n = fIx hr 1 u n := by
  obtain ⟨-, -, w3, -, -⟩ := W.2.2 u u0 u1
  unfold fIx
  rw [a u 5 u0 u1 (by omega) (by omega) (by omega)]
  exact ix_congr (fun i hi => a u _ u0 u1 (by omega) (by omega) (by omega))
theorem sIx_v (a : agr m hr hr') (W : WF hr 1 m r) (u0 : 0 ≤ u) (u1 : u < m) : sIx hr' 1 u n = sIx hr 1 u n := by
  obtain ⟨-, -, -, w4, -⟩ := W.2.2 u u0 u1
  unfold sIx
  rw [a u 30 u0 u1 (by omega) (by omega) (by omega)]
  exact ix_congr (fun i hi => a u _ u0 u1 (by omega) (by omega) (by omega))
theorem aIx_v (a : agr m hr hr') (W : WF hr 1 m r) (u0 : 0 ≤ u) (u1 : u < m) : aIx hr' 1 u n = aIx hr 1 u n := by
  obtain ⟨-, -, -, -, w5⟩ := W.2.2 u u0 u1
  unfold aIx
  rw [a u 39 u0 u1 (by omega) (by omega) (by omega)]
  exact ix_congr (fun i hi => a u _ u0 u1 (by omega) (by omega) (by omega))
theorem hOw_v (a : agr m hr hr') (W : WF hr 1 m r) (u0 : 0 ≤ u) (u1 : u < m) : hOw hr' 1 u n = hOw hr 1 u n := by
  unfold hOw
  rw [fIx_v a W u0 u1, sIx_v a W u0 u1]
theorem clb_v {P P' : Int → Bool} (a : agr m hr hr') (W : WF hr 1 m r) (h : ∀ u : Int, 0 ≤ u → u < m → P' u = P u) (f : Nat) (hu : u = -1 ∨ (0 ≤ u ∧ u < m)) : clb P' (fun u => wg hr' 1 u 1) f u = clb P (fun u => wg hr 1 u 1) f u :=
  clb_eq (ok := fun u => 0 ≤ u ∧ u < m) (fun u hu => ⟨h u hu.1 hu.2, a u 1 hu.1 hu.2 (by omega) (by omega) (by omega), WF_up W hu⟩) f u hu
theorem fAt_v (a : agr m hr hr') (W : WF hr 1 m r) (hu : u = -1 ∨ (0 ≤ u ∧ u < m)) : fAt hr' 1 u n = fAt hr 1 u n := clb_v a W (fun u u0 u1 => by rw [fIx_v a W u0 u1]) 13 hu
theorem sAt_v (a : agr m hr hr') (W : WF hr 1 m r) (hu : u = -1 ∨ (0 ≤ u ∧ u < m)) : sAt hr' 1 u n = sAt hr 1 u n := clb_v a W (fun u u0 u1 => by rw [sIx_v a W u0 u1]) 13 hu
theorem aAt_v (a : agr m hr hr') (W : WF hr 1 m r) (hu : u = -1 ∨ (0 ≤ u ∧ u < m)) : aAt hr' 1 u n = aAt hr 1 u n := clb_v a W (fun u u0 u1 => by rw [aIx_v a W u0 u1]) 13 hu
theorem CF_v (a : agr m hr hr') (W : WF hr 1 m r) (C : CF hr 1 m) : CF hr' 1 m := by
  intro j j0 j1
  obtain ⟨c1, c2, c3, c4⟩ := C j j0 j1
  obtain ⟨-, -, w3, w4, -⟩ := W.2.2 j j0 j1
  refine ⟨fun x y hx hy h => ?_, fun x y hx hy h => ?_, fun n h => ?_, fun n h => ?_⟩
  · rw [a j 5 j0 j1 (by omega) (by omega) (by omega)] at hx hy
    rw [a j _ j0 j1 (by omega) (by omega) (by omega), a j _ j0 j1 (by omega) (by omega) (by omega)] at h
    exact c1 x y hx hy h
  · rw [a j 30 j0 j1 (by omega) (by omega) (by omega)] at hx hy
    rw [a j _ j0 j1 (by omega) (by omega) (by omega), a j _ j0 j1 (by omega) (by omega) (by omega)] at h
    exact c2 x y hx hy h
  · rw [fIx_v a W j0 j1] at h
    rw [sIx_v a W j0 j1]
    exact c3 n h
  · rw [hOw_v a W j0 j1] at h
    rw [a j 1 j0 j1 (by omega) (by omega) (by omega), clb_v a W (fun u u0 u1 => hOw_v a W u0 u1) 13 (WF_up W ⟨j0, j1⟩)]
    exact c4 n h
theorem WF_v (a : agr m hr hr') (W : WF hr 1 m r) (em : wm hr' 1 = wm hr 1) : WF hr' 1 m r := by
  refine ⟨by rw [em]; exact W.1, W.2.1, fun k k0 k1 => ?_⟩
  rw [a k 1 k0 k1 (by omega) (by omega) (by omega), a k 5 k0 k1 (by omega) (by omega) (by omega), a k 30 k0 k1 (by omega) (by omega) (by omega), a k 39 k0 k1 (by omega) (by omega) (by omega)]
  exact W.2.2 k k0 k1
/-- a world whose generations are G's -/
def gw (hr : hS) (G : Nat → Int) : hS := (fun y i => if y = 400 ∧ 770 ≤ i ∧ i < 1538 ∧ (i - 770) % 64 = 2 then G ((i - 770) / 64) else hI hr y i, hr.2)
theorem gw_2 (G : Nat → Int) {k : Int} (k0 : 0 ≤ k) (k1 : k < 12) : wg (gw hr G) 1 k 2 = G k.toNat := by
  show (if (400 : Nat) = 400 ∧ 770 ≤ (769 * 1 + 1 + 64 * k + 2).toNat ∧ (769 * 1 + 1 + 64 * k + 2).toNat < 1538 ∧ ((769 * 1 + 1 + 64 * k + 2).toNat - 770) % 64 = 2 then G (((769 * 1 + 1 + 64 * k + 2).toNat - 770) / 64) else _) = _
  rw [if_pos ⟨rfl, by omega, by omega, by omega⟩]
  congr 1
  omega
theorem gw_o (G : Nat → Int) {k f : Int} (k0 : 0 ≤ k) (k1 : k < 12) (f0 : 0 ≤ f) (f1 : f < 64) (f2 : f ≠ 2) : wg (gw hr G) 1 k f = wg hr 1 k f := by
  show (if (400 : Nat) = 400 ∧ 770 ≤ (769 * 1 + 1 + 64 * k + f).toNat ∧ (769 * 1 + 1 + 64 * k + f).toNat < 1538 ∧ ((769 * 1 + 1 + 64 * k + f).toNat - 770) % 64 = 2 then _ else _) = _
  rw [if_neg (by omega)]
  rfl
theorem gw_m (G : Nat → Int) : wm (gw hr G) 1 = wm hr 1 := by
  show (if (400 : Nat) = 400 ∧ 770 ≤ 769 ∧ 769 < 1538 ∧ (769 - 770) % 64 = 2 then G ((769 - 770) / 64) else hI hr 400 769) = _
  rw [if_neg (by omega)]
  rfl
theorem gw_a (G : Nat → Int) (hm : m ≤ 12) : agr m hr (gw hr G) := fun k f k0 k1 f0 f1 f2 => gw_o G k0 (by omega) f0 f1 f2
end AGR
section GNR
variable {h0 hr : hS} {K : Nat → Int → Prop} {p m : Nat} {r : Int → Nat} {j : Int}
/-- generations and tables alone are other -/
def gch (p m : Nat) (h h' : hS) : Prop := hN h' = hN h ∧ hM h' = hM h ∧ hT h' = hT h ∧ hL h' = hL h ∧ ∀ x, (∀ u : Int, 0 ≤ u → u < m → ¬ (kd h p u + 8 ≤ x ∧ x ≤ kd h p u + 12)) → (∀ j, hR h' x j = hR h x j) ∧ ∀ j, (∀ u : Int, 0 ≤ u → u < m → ¬ (x = kd h p u ∧ j = 2)) → hI h' x j = hI h x j
theorem gch_rf {h : hS} : gch p m h h := ⟨rfl, rfl, rfl, rfl, fun _ _ => ⟨fun _ => rfl, fun _ _ => rfl⟩⟩
theorem gch_kd (B : BW h0 hr K p m r) {h : hS} (q : gch p m h0 h) (u : Int) : kd h p u = kd h0 p u := by
  unfold kd
  split
  · rfl
  · refine (q.2.2.2.2 (p + 1) (fun u u0 u1 => ?_)).1 _
    have := B.2.1 u u0 u1
    omega
/-- far from all tables -/
theorem gch_far (B : BW h0 hr K p m r) {i : Int} (i0 : 0 ≤ i) (i1 : i < m) {o : Nat} (ho : o ≤ 7) : ∀ u : Int, 0 ≤ u → u < m → ¬ (kd h0 p u + 8 ≤ kd h0 p i + o ∧ kd h0 p i + o ≤ kd h0 p u + 12) := fun u u0 u1 => by
  by_cases c : u = i
  · rw [c]; omega
  · by_cases c2 : u < i
    · have := B.2.2.1 u i u0 c2 i1
      omega
    · have := B.2.2.1 i u i0 (by omega) u1
      omega
theorem gch_BW (B : BW h0 hr K p m r) {h : hS} (q : gch p m h0 h) : BW h (gw hr (fun k => hI h (kd h p (k : Int)) 2)) K p m r := by
  have hk := gch_kd B q
  obtain ⟨⟨W, ⟨p1, p2, p3, p4, p5, p6, p7⟩, P3, P4⟩, b1, b2, b3, b4⟩ := B
  have B : BW h0 hr K p m r := ⟨⟨W, ⟨p1, p2, p3, p4, p5, p6, p7⟩, P3, P4⟩, b1, b2, b3, b4⟩
  have hm := W.2.1
  have a := gw_a (hr := hr) (m := m) (fun k => hI h (kd h p (k : Int)) 2) hm
  have ep : ∀ x, x = p ∨ x = p + 1 → (∀ j, hR h x j = hR h0 x j) ∧ ∀ j, hI h x j = hI h0 x j := fun x hx => by
    obtain ⟨e1, e2⟩ := q.2.2.2.2 x (fun u u0 u1 => by have := b1 u u0 u1; omega)
    exact ⟨e1, fun j => e2 j (fun u u0 u1 => by have := b1 u u0 u1; omega)⟩
  have eo : ∀ i : Int, 0 ≤ i → i < m → ∀ o, o ≤ 7 → (∀ j, hR h (kd h0 p i + o) j = hR h0 (kd h0 p i + o) j) ∧ ∀ j, ¬ (o = 0 ∧ j = 2) → hI h (kd h0 p i + o) j = hI h0 (kd h0 p i + o) j := fun i i0 i1 o ho => by
    obtain ⟨e1, e2⟩ := q.2.2.2.2 (kd h0 p i + o) (gch_far B i0 i1 ho)
    refine ⟨e1, fun j hj => e2 j (fun u u0 u1 => ?_)⟩
    by_cases c : u = i
    · rw [c]; omega
    · by_cases c2 : u < i
      · have := b2 u i u0 c2 i1
        omega
      · have := b2 i u i0 (by omega) u1
        omega
  refine ⟨⟨WF_v a W (gw_m _), ⟨p1, by rw [q.1]; exact p2, by rw [q.2.2.1]; exact p3, by rw [(ep p (.inl rfl)).1]; exact p4, by rw [q.2.2.1]; exact p5, by rw [q.2.2.2.1]; exact p6, by rw [(ep p (.inl rfl)).2]; exact p7⟩, fun i i0 i1 => ?_, fun i u i0 i1 u0 u1 => ?_⟩, fun i i0 i1 => by rw [hk]; exact b1 i i0 i1, fun i u i0 iu u1 => by rw [hk, hk]; exact b2 i u i0 iu u1, fun x v hx => ?_, fun i i0 i1 => ?_⟩
  · obtain ⟨k1, k2, k3, k4, k5, k6, k7⟩ := P3 i i0 i1
    obtain ⟨-, -, w3, w4, w5⟩ := W.2.2 i i0 i1
    have e0 := eo i i0 i1 0 (by omega)
    rw [Nat.add_zero] at e0
    unfold KR
    rw [hk i]
    have fa : ∀ f : Int, 0 ≤ f → f < 64 → f ≠ 2 → wg (gw hr (fun k => hI h (kd h p (k : Int)) 2)) 1 i f = wg hr 1 i f := fun f f0 f1 f2 => gw_o _ i0 (by omega) f0 f1 f2
    refine ⟨⟨k1.1, by rw [q.1]; exact k1.2.1, by rw [q.2.2.1]; exact k1.2.2.1, fun e he => ?_⟩, ?_, ?_, ?_, ⟨?_, fun t ht => ?_⟩, ⟨?_, fun t ht => ?_⟩, ?_, fun t ht => ?_⟩
    · rw [e0.1, q.2.2.1, q.2.2.2.1]
      exact k1.2.2.2 e he
    · rw [e0.2 0 (by omega), fa 0 (by omega) (by omega) (by omega)]
      exact k2
    · rw [e0.1, fa 1 (by omega) (by omega) (by omega), hk]
      exact k3
    · rw [gw_2 _ i0 (by omega), show ((i.toNat : Nat) : Int) = i by omega, hk]
    · rw [e0.2 4 (by omega), fa 5 (by omega) (by omega) (by omega)]
      exact k5.1
    · rw [fa 5 (by omega) (by omega) (by omega)] at ht
      rw [(eo i i0 i1 1 (by omega)).2 _ (by omega), (eo i i0 i1 2 (by omega)).2 _ (by omega), fa _ (by omega) (by omega) (by omega), fa _ (by omega) (by omega) (by omega)]
      exact k5.2 t ht
    · rw [e0.2 8 (by omega), fa 30 (by omega) (by omega) (by omega)]
      exact k6.1
    · rw [fa 30 (by omega) (by omega) (by omega)] at ht
      rw [(eo i i0 i1 4 (by omega)).2 _ (by omega), (eo i i0 i1 5 (by omega)).2 _ (by omega), fa _ (by omega) (by omega) (by omega), fa _ (by omega) (by omega) (by omega)]
      exact k6.2 t ht
    · rw [e0.2 11 (by omega), fa 39 (by omega) (by omega) (by omega)]
      exact k7.1
    · rw [fa 39 (by omega) (by omega) (by omega)] at ht
      rw [(eo i i0 i1 6 (by omega)).2 _ (by omega), (eo i i0 i1 7 (by omega)).1, fa _ (by omega) (by omega) (by omega), fa _ (by omega) (by omega) (by omega)]
      exact k7.2 t ht
  · rw [gw_o _ i0 (by omega) (by omega) (by omega) (by omega), gw_o _ u0 (by omega) (by omega) (by omega) (by omega)]
    exact P4 i u i0 i1 u0 u1
  · obtain ⟨x1, x2, x3⟩ := b3 x v hx
    exact ⟨by rw [q.1]; exact x1, x2, fun i i0 i1 => by rw [hk]; exact x3 i i0 i1⟩
  · obtain ⟨y1, y2⟩ := b4 i i0 i1
    obtain ⟨-, -, w3, -, -⟩ := W.2.2 i i0 i1
    have e0 := eo i i0 i1 0 (by omega)
    rw [Nat.add_zero] at e0
    unfold XR
    rw [hk i, e0.2 3 (by omega), gw_o _ i0 (by omega) (by omega) (by omega) (by omega), gw_o _ i0 (by omega) (by omega) (by omega) (by omega)]
    refine ⟨y1, fun t ht => ?_⟩
    rw [(eo i i0 i1 3 (by omega)).2 _ (by omega), gw_o _ i0 (by omega) (by omega) (by omega) (by omega)]
    exact y2 t ht
end GNR
