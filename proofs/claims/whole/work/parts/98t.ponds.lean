/-! pond: what is told is taken, alike -/
section PNK
variable {hc0 hr0 hc hr : hS} {n l mk p N0 M0 : Nat} {b : Nat → Int} {K : Nat → Int → Prop}
theorem pond_k (h448 : 448 ≤ hN hc0) (hS0 : ∀ c : Nat, c < 40 → hR hc0 19 c = 215 + 4 * c ∧ hT hc0 (215 + 4 * c) = 16) (hS1 : ∀ c : Nat, c < 10 → hR hc0 21 c = 375 + 2 * c ∧ hT hc0 (375 + 2 * c) = 20) (f : FX hc0 hc) (fr : FY hr0 hr) (Q : MP n b N0 M0 l K p mk rN hc hr) (ep : p = hN hc0) (e9 : hI hc 9 1 = 0) : ∃ hc' hr', F41 p (1, hc) = some ((mk : Int), hc') ∧ G183 (1, hr) = some ((mk : Int), hr') ∧ EN hc' hr' ∧ PZ hc0 hr0 hc' hr' p mk K ∧ (hN hc' = hN hc ∧ hM hc' = hM hc) := by
  obtain ⟨W, Cf, ⟨hN0, hN1, hN2⟩, -⟩ := MP_BW Q
  obtain ⟨hl, hmk, e11, ⟨m, hm, e16, T⟩, Nm, Lr, e4, e5, e7⟩ := MP_room Q
  obtain ⟨h1, s1, s2, s3, s4, s5, s6⟩ := pond_s Q
  obtain ⟨h1', h', a1, a2, a3, ⟨n1, n2, n3, n4⟩, rF, iF, ⟨v1, v2, v3⟩, ⟨w1, w2, w3, w4, w5⟩, z1, z2⟩ := pond_c Q (fun c h => ⟨by rw [(f.2 19 (by omega)).2.2.1 c (by omega)]; exact (hS0 c h).1, by rw [(f.2 (215 + 4 * c) (by omega)).1]; exact (hS0 c h).2⟩) (fun c h => ⟨by rw [(f.2 21 (by omega)).2.2.1 c (by omega)]; exact (hS1 c h).1, by rw [(f.2 (375 + 2 * c) (by omega)).1]; exact (hS1 c h).2⟩)
  rw [s1] at a1
  obtain rfl := Option.some.inj a1
  obtain ⟨hr', b1, b2, b3, ⟨⟨b4, b5, b6⟩, x25, x27, x28, x29, x30, x33⟩, b8, b9, b10, b11⟩ := pond_g (m := m) (by omega) e11 e16
  have Wm : wm hr 1 = (mk : Int) := W.1.1.1
  have lowk := W.2.1
  have hp2 := W.1.2.1.2.1
  have c1 : ∀ x, x < p + 2 → (∀ j, hR h1 x j = hR hc x j) ∧ ∀ j, hI h1 x j = hI hc x j := fun x hx => by
    obtain ⟨y1, y2⟩ := s2.2.2.2.2 x (fun u u0 u1 => by have := lowk u u0 u1; omega)
    exact ⟨y1, fun j => y2 j (fun u u0 u1 => by have := lowk u u0 u1; omega)⟩
  have c2 : ∀ x, 395 ≤ x → sm h1 h' x := fun x hx => ⟨fun j => iF x j (fun z => by rcases z with z | z | ⟨-, c, z⟩ | ⟨-, c, z⟩ <;> omega), fun j => rF x j (by omega), by rw [n3], by rw [n4]⟩
  have c3 : ∀ x j, x < 215 → ¬ ((x = 8 ∧ (j = 8 ∨ j = 10)) ∨ (x = 48 ∧ (j = 4 ∨ j = 9))) → hI h' x j = hI hc x j := fun x j hx hj => by
    rw [iF x j (fun z => by rcases z with z | z | ⟨-, c, z⟩ | ⟨-, c, z⟩ <;> omega), (c1 x (by omega)).2 j]
  have eJ : ∀ x j, hJ hr' x j = hJ hr x j := fun x j => by
    show hr'.2.2.1 x j = hr.2.2.1 x j
    rw [b2]
  have ag : agw 0 mk hr hr' := fun k g k0 k1 g0 g1 => b10 k g k0 (by omega) g0 g1
  have hk1 : ∀ u, kd h1 p u = kd hc p u := gch_kd W s2
  have hk : ∀ u, kd h' p u = kd hc p u := fun u => by
    unfold kd
    split
    · rfl
    · rw [(c2 (p + 1) (by omega)).2.1, (c1 (p + 1) (by omega)).1]
  have T1 : hT h1 = hT hc := s2.2.2.1
  have L1 : hL h1 = hL hc := s2.2.2.2.1
  have N1 : hN h1 = hN hc := s2.1
  have M1 : hM h1 = hM hc := s2.2.1
  refine ⟨h', hr', a3, by rw [b1, Wm], ⟨⟨?_, ?_, fun i hi => ?_⟩, ⟨?_, fun i hi => ?_⟩, ?_, ⟨?_, ?_⟩, ?_⟩, ⟨⟨v1, ep⟩, ?_, ?_, CF_w ag W.1.1 Cf.1, fun j j0 j1 => ?_, ?_, ⟨v2, x33, z1⟩, fun l hl => ⟨z2 l hl, b8 l hl⟩, ⟨v3, x30⟩, ⟨w1, x25, w2, x28, w3, w4, x29, w5, x27⟩, ⟨⟨?_, ?_⟩, fun x hx => ⟨?_, ?_, fun j hj => ?_, fun j hj => ?_⟩⟩, ⟨?_, ?_, fun x j hx => ?_, fun x j hx => ?_⟩⟩, by omega, by omega⟩
  · rw [c3 9 1 (by omega) (by omega), e9, b4]
  · rw [c3 9 1 (by omega) (by omega)]; omega
  · rw [c3 9 1 (by omega) (by omega)] at hi; omega
  · rw [b3 395 9 (by omega)]; exact Lr.1
  · rw [eJ]; exact Lr.2 i hi
  · exact nmR_r (nmR_c Nm (c3 15 2 (by omega) (by omega)) (fun j => c3 16 j (by omega) (by omega))) (b3 395 7 (by omega)) (fun j => eJ 397 j)
  · rw [c3 15 4 (by omega) (by omega), e4, b5]
  · rw [c3 15 5 (by omega) (by omega), e5, b6]
  · rw [c3 15 7 (by omega) (by omega)]; exact e7
  · exact PW_w s5 ag b9 (fun x hx _ => c2 x (by omega)) (fun j j0 j1 => by have := lowk j j0 j1; rw [hk1]; omega) (by omega) (fun _ _ h => h)
  · exact TB_w W.1.1 ag hk (fun j j0 j1 o ho => by
      have := lowk j j0 j1
      have := c2 (kd hc p j + o) (by omega)
      exact ⟨this.1, this.2.1⟩) s4
  · obtain ⟨y1, y2⟩ := s6 j j0 j1
    have hlow := lowk j j0 j1
    obtain ⟨-, -, w5', -, -⟩ := W.1.1.2.2 j j0 j1
    rw [hk1] at y1
    refine ⟨?_, fun i hi => ?_⟩
    · rw [hk, (c2 (kd hc p j) (by omega)).1, ag j 3 j0 j1 (by omega) (by omega)]
      exact y1
    · rw [ag j 5 j0 j1 (by omega) (by omega)] at hi
      have y3 := y2 i hi
      rw [hk1] at y3
      rw [hk, (c2 (kd hc p j + 3) (by omega)).1, ag j _ j0 j1 (by omega) (by omega)]
      exact y3
  · intro x v hx
    obtain ⟨t1, t2, t3, C, t4, t5, t6⟩ := T x v hx
    obtain ⟨u1, u2, u3⟩ := W.2.2.2.1 x v hx
    obtain ⟨g1, g2⟩ := s2.2.2.2.2 x (fun u u0 u1 => by have := u3 u u0 u1; omega)
    have g3 : ∀ j, hI h1 x j = hI hc x j := fun j => g2 j (fun u u0 u1 => by have := u3 u u0 u1; omega)
    have g4 := c2 x (by omega)
    refine ⟨by omega, by omega, by rw [n3, T1]; exact t3, 0, v, C, by omega, BK_up (BK_c1 t4 (fun t ht j hj => b11 t ht j hj)) (by omega), ?_, ⟨by rw [n4, L1]; exact t5.1, t5.2⟩, fun i z hz => ?_⟩
    · by_cases c : v = -1
      · rw [if_pos c, c]
      · rw [if_neg c]; omega
    · rw [g4.1, g3]
      exact t6 i z hz
  · rw [n1, N1]; exact f.1.1
  · rw [n2, M1]; exact f.1.2
  · rw [n3, T1]; exact (f.2 x hx).1
  · rw [n4, L1]; exact (f.2 x hx).2.1
  · rw [rF x j (by omega), (c1 x (by omega)).1]
    exact (f.2 x hx).2.2.1 j (by omega)
  · rw [iF x j (fun z => by rcases z with z | z | ⟨z3, c, z⟩ | ⟨z3, c, z⟩ <;> omega), (c1 x (by omega)).2]
    exact (f.2 x hx).2.2.2 j (by omega)
  · rw [b2]; exact fr.1
  · rw [b2]; exact fr.2.1
  · rw [b3 x j (by omega)]
    exact fr.2.2.1 x j (by omega)
  · rw [eJ]
    exact fr.2.2.2 x j hx
end PNK
section PNE
variable {hc hr : hS}
/-- pond answers alike, and leaves both alike -/
theorem pond_e (Q : RQ hc hr) (hS0 : ∀ c : Nat, c < 40 → hR hc 19 c = 215 + 4 * c ∧ hT hc (215 + 4 * c) = 16) (hS1 : ∀ c : Nat, c < 10 → hR hc 21 c = 375 + 2 * c ∧ hT hc (375 + 2 * c) = 20) : ∃ (v : Int) (hc' hr' : hS), c41 hc = some (v, hc') ∧ c183 hr = some (v, hr') ∧ EN hc' hr' ∧ ((v = -1 ∧ FX hc hc' ∧ FY2 hr hr') ∨ ∃ (mk : Nat) (K : Nat → Int → Prop), v = (mk : Int) ∧ PZ hc hr hc' hr' (hN hc) mk K) ∧ hN hc' ≤ hN hc + 1165 ∧ hM hc' ≤ hM hc + 13000 := by
  have h448 := Q.2.2.2.2.2.2.2
  obtain ⟨x, v3, y, n, b, e41, e183, E⟩ := pond_r Q
  rcases E with ⟨hc', hr', z1, z2, z3, z4, z5, z6, z7⟩ | ⟨hc1, hr1, l', K', mk', z1, z2, z3, z4, z5, z6⟩
  · rw [z1] at e41
    rw [z2] at e183
    refine ⟨-1, hc', _, e41.trans rfl, e183.trans ?_, tells_EN z5.1 z6 z7, .inl ⟨rfl, z3, tells_FY z4⟩, z5.2.1, z5.2.2⟩
    unfold G183
    refine bnd c224_e ?_
    exact if_pos rfl
  · rw [z1] at e41
    rw [z2] at e183
    obtain ⟨hc', hr', k1, k2, k3, k4, k5, k6⟩ := pond_k h448 hS0 hS1 z3 z4 z5 rfl z6
    obtain ⟨-, -, -, r1, r2⟩ := MP_BW z5
    obtain ⟨r3, r4, -⟩ := MP_room z5
    exact ⟨(mk' : Int), hc', hr', e41.trans k1, e183.trans k2, k3, .inr ⟨mk', K', rfl, k4⟩, by omega, by omega⟩
end PNE
