/-! a pond that is built, beside the other side's second world -/
/-- kind j: where its fields come from, whether it is touched -/
def XR (hc hr : hS) (p : Nat) (w j : Int) : Prop := hI hc (kd hc p j) 3 = wg hr w j 3 ∧ ∀ i : Nat, (i : Int) < wg hr w j 5 → hI hc (kd hc p j + 3) i = wg hr w j (22 + i)
/-- the pond p beside world 1; K: what code arrays stand for; nothing of it lies over another -/
def BW (hc hr : hS) (K : Nat → Int → Prop) (p m : Nat) (r : Int → Nat) : Prop := PW hc hr K p 1 m r ∧ (∀ j : Int, 0 ≤ j → j < m → p + 2 ≤ kd hc p j) ∧ (∀ i j : Int, 0 ≤ i → i < j → j < m → kd hc p i + 13 ≤ kd hc p j) ∧ (∀ x v, K x v → x < hN hc ∧ (x < p ∨ p + 2 ≤ x) ∧ ∀ j : Int, 0 ≤ j → j < m → x < kd hc p j ∨ kd hc p j + 13 ≤ x) ∧ ∀ j : Int, 0 ≤ j → j < m → XR hc hr p 1 j
/-- one cell is as it was -/
def sm (h h' : hS) (x : Nat) : Prop := (∀ j, hI h' x j = hI h x j) ∧ (∀ j, hR h' x j = hR h x j) ∧ hT h' x = hT h x ∧ hL h' x = hL h x
theorem sm_rf {h : hS} {x : Nat} : sm h h x := ⟨fun _ => rfl, fun _ => rfl, rfl, rfl⟩
theorem sm_tr {h h1 h2 : hS} {x : Nat} (a : sm h h1 x) (b : sm h1 h2 x) : sm h h2 x := ⟨fun j => (b.1 j).trans (a.1 j), fun j => (b.2.1 j).trans (a.2.1 j), b.2.2.1.trans a.2.2.1, b.2.2.2.trans a.2.2.2⟩
section BLD
variable {hc hr hc' hr' : hS} {K K' C : Nat → Int → Prop} {p m : Nat} {w : Int} {r : Int → Nat} {j n v : Int}
theorem KR_c2 {i : Int} (Q : KR hc hr C p w i) (hk1 : kd hc' p i = kd hc p i) (hk2 : kd hc' p (wg hr w i 1) = kd hc p (wg hr w i 1)) (e : ∀ o, o ≤ 12 → sm hc hc' (kd hc p i + o)) (en : hN hc ≤ hN hc') (ew : ∀ f, 0 ≤ f → f < 64 → wg hr' w i f = wg hr w i f) (h5 : wg hr w i 5 ≤ 8) (h30 : wg hr w i 30 ≤ 4) (h39 : wg hr w i 39 ≤ 8) (hC : ∀ a b, C a b → K a b) : KR hc' hr' K p w i := by
  obtain ⟨k1, k2, k3, k4, k5, k6, k7⟩ := Q
  have e0 := e 0 (by omega)
  rw [Nat.add_zero] at e0
  unfold KR
  rw [hk1]
  refine ⟨⟨k1.1, by have := k1.2.1; omega, by rw [e0.2.2.1]; exact k1.2.2.1, fun a ha => ?_⟩, ?_, ?_, ?_, ⟨?_, ?_⟩, ⟨?_, ?_⟩, ⟨?_, ?_⟩⟩
  · obtain ⟨a1, a2, a3⟩ := k1.2.2.2 a ha
    have ho : a.2.1 ≤ 12 := by
      have : ∀ a ∈ karL, a.2.1 ≤ 12 := by decide
      exact this a ha
    have e2 := e a.2.1 ho
    exact ⟨by rw [e0.2.1]; exact a1, by rw [e2.2.2.1]; exact a2, by rw [e2.2.2.2]; exact a3⟩
  · rw [e0.1, ew 0 (by omega) (by omega)]; exact k2
  · rw [e0.2.1, ew 1 (by omega) (by omega), hk2]; exact k3
  · rw [e0.1, ew 2 (by omega) (by omega)]; exact k4
  · rw [e0.1, ew 5 (by omega) (by omega)]; exact k5.1
  · intro t ht
    rw [ew 5 (by omega) (by omega)] at ht
    rw [(e 1 (by omega)).1, (e 2 (by omega)).1, ew _ (by omega) (by omega), ew _ (by omega) (by omega)]
    exact k5.2 t ht
  · rw [e0.1, ew 30 (by omega) (by omega)]; exact k6.1
  · intro t ht
    rw [ew 30 (by omega) (by omega)] at ht
    rw [(e 4 (by omega)).1, (e 5 (by omega)).1, ew _ (by omega) (by omega), ew _ (by omega) (by omega)]
    exact k6.2 t ht
  · rw [e0.1, ew 39 (by omega) (by omega)]; exact k7.1
  · intro t ht
    rw [ew 39 (by omega) (by omega)] at ht
    rw [(e 6 (by omega)).1, (e 7 (by omega)).2.1, ew _ (by omega) (by omega), ew _ (by omega) (by omega)]
    obtain ⟨x1, x2, x3⟩ := k7.2 t ht
    exact ⟨x1, hC _ _ x2, x3⟩
/-- only kind j has changed -/
theorem BW_j (B : BW hc hr K p m r) (j0 : 0 ≤ j) (j1 : j < m) (e : ∀ x, (x < kd hc p j ∨ kd hc p j + 13 ≤ x) → x < hN hc → sm hc hc' x) (eN : hN hc ≤ hN hc') (ew : ∀ k f, 0 ≤ k → k < 12 → 0 ≤ f → f < 64 → k ≠ j → wg hr' 1 k f = wg hr 1 k f) (e0 : wg hr' 1 j 0 = wg hr 1 j 0) (e1 : wg hr' 1 j 1 = wg hr 1 j 1) (em : wm hr' 1 = wm hr 1) (hK : ∀ a b, K a b → K' a b) (hK' : ∀ x v, K' x v → x < hN hc' ∧ (x < p ∨ p + 2 ≤ x) ∧ ∀ j : Int, 0 ≤ j → j < m → x < kd hc p j ∨ kd hc p j + 13 ≤ x) (hj : (∀ u, kd hc' p u = kd hc p u) → KR hc' hr' K' p 1 j ∧ XR hc' hr' p 1 j) (hw : (0 ≤ wg hr' 1 j 5 ∧ wg hr' 1 j 5 ≤ 8) ∧ (0 ≤ wg hr' 1 j 30 ∧ wg hr' 1 j 30 ≤ 4) ∧ (0 ≤ wg hr' 1 j 39 ∧ wg hr' 1 j 39 ≤ 8)) : BW hc' hr' K' p m r := by
  obtain ⟨⟨W, ⟨p1, p2, p3, p4, p5, p6, p7⟩, P3, P4⟩, b1, b2, b3, b4⟩ := B
  have hm := W.2.1
  have bj := b1 j j0 j1
  have ep := e p (by omega) (by omega)
  have ep1 := e (p + 1) (by omega) p2
  have hk : ∀ u, kd hc' p u = kd hc p u := fun u => by
    unfold kd
    split
    · rfl
    · exact ep1.2.1 _
  have far : ∀ i : Int, 0 ≤ i → i < m → i ≠ j → ∀ o, o ≤ 12 → sm hc hc' (kd hc p i + o) := fun i i0 i1 hi o ho => by
    have hn := (P3 i i0 i1).1.2.1
    refine e _ ?_ (by omega)
    by_cases c : i < j
    · have := b2 i j i0 c j1
      omega
    · have := b2 j i j0 (by omega) i1
      omega
  refine ⟨⟨⟨by rw [em]; exact W.1, hm, fun k k0 k1 => ?_⟩, ⟨p1, by omega, by rw [ep.2.2.1]; exact p3, by rw [ep.2.1]; exact p4, by rw [ep1.2.2.1]; exact p5, by rw [ep1.2.2.2]; exact p6, by rw [ep.1]; exact p7⟩, fun k k0 k1 => ?_, fun i k i0 i1 k0 k1 => ?_⟩, fun k k0 k1 => by rw [hk]; exact b1 k k0 k1, fun i k i0 ik k1 => by rw [hk, hk]; exact b2 i k i0 ik k1, fun x v hx => ?_, fun k k0 k1 => ?_⟩
  · obtain ⟨w1, w2, w3⟩ := W.2.2 k k0 k1
    by_cases c : k = j
    · subst c
      rw [e1]
      exact ⟨w1, w2, hw⟩
    · rw [ew k 1 k0 (by omega) (by omega) (by omega) c, ew k 5 k0 (by omega) (by omega) (by omega) c, ew k 30 k0 (by omega) (by omega) (by omega) c, ew k 39 k0 (by omega) (by omega) (by omega) c]
      exact ⟨w1, w2, w3⟩
  · by_cases c : k = j
    · subst c
      exact (hj hk).1
    · obtain ⟨-, -, w3, w4, w5⟩ := W.2.2 k k0 k1
      exact KR_c2 (P3 k k0 k1) (hk k) (hk _) (far k k0 k1 c) eN (fun f f0 f1 => ew k f k0 (by omega) f0 f1 c) w3.2 w4.2 w5.2 hK
  · have q : ∀ k : Int, 0 ≤ k → k < m → wg hr' 1 k 0 = wg hr 1 k 0 := fun k k0 k1 => by
      by_cases c : k = j
      · rw [c]; exact e0
      · exact ew k 0 k0 (by omega) (by omega) (by omega) c
    rw [q i i0 i1, q k k0 k1]
    exact P4 i k i0 i1 k0 k1
  · obtain ⟨x1, x2, x3⟩ := hK' x v hx
    exact ⟨x1, x2, fun k k0 k1 => by rw [hk]; exact x3 k k0 k1⟩
  · by_cases c : k = j
    · rw [c]
      exact (hj hk).2
    · obtain ⟨y1, y2⟩ := b4 k k0 k1
      obtain ⟨-, -, w3, -, -⟩ := W.2.2 k k0 k1
      unfold XR
      have z0 := far k k0 k1 c 0 (by omega)
      rw [Nat.add_zero] at z0
      rw [hk, z0.1, ew k 3 k0 (by omega) (by omega) (by omega) c, ew k 5 k0 (by omega) (by omega) (by omega) c]
      refine ⟨y1, fun i hi => ?_⟩
      rw [(far k k0 k1 c 3 (by omega)).1, ew k _ k0 (by omega) (by omega) (by omega) c]
      exact y2 i hi
end BLD
