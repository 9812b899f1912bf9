/-! pond: both alike -/
section PEE
variable {hc hr : hS} {n l mk p : Nat} {b : Nat → Int} {K : Nat → Int → Prop}
theorem MP_room {N0 M0 : Nat} (Q : MP n b N0 M0 l K p mk rN hc hr) : l ≤ 1000 ∧ mk ≤ 12 ∧ hI hr 395 11 = 0 ∧ (∃ m : Nat, m ≤ 1000 ∧ hI hr 395 16 = (m : Int) ∧ KT hc hr K N0 m) ∧ nmR hc hr ∧ lrn hr ∧ (hI hc 15 4 = 0 ∧ hI hc 15 5 = -1 ∧ 0 ≤ hI hc 15 7) := by
  obtain ⟨q, m, sl, B, hm, W, T, -⟩ := Q
  have h1 := B.1.2.2.1
  have h2 := TK_len (n := n) (b := b)
  have h3 := B.1.2.2.2.2.1.2.1
  have h4 := W.1.1.2.1
  have h5 := B.2.2.1.1
  exact ⟨by omega, h4, B.2.1.1, ⟨m, by omega, B.2.2.1.2.1, T⟩, B.2.1.2.1, B.1.2.2.2.2.2, B.2.1.2.2.2.2.1, B.2.1.2.2.2.2.2, by omega⟩
theorem MP_BW {N0 M0 : Nat} (Q : MP n b N0 M0 l K p mk rN hc hr) : BW hc hr K p mk rN ∧ CG hr mk ∧ (N0 ≤ p ∧ 448 ≤ N0 ∧ N0 ≤ hN hc) ∧ (2 * hN hc ≤ 2 * N0 + l + 28 * mk + 20 ∧ hM hc ≤ M0 + 8 * l + 300 * mk + 100) := by
  obtain ⟨q, m, sl, B, hm, W, T, hN0, t17, rm, Cf, Tz⟩ := Q
  exact ⟨W, Cf, hN0, rm⟩
/-- what the names mean, under the world's new number -/
theorem TB_w {h0 h1 h' hr' : hS} {m : Nat} {r : Int → Nat} (W : WF hr 1 m r) (a : agw 0 m hr hr') (hk : ∀ u, kd h' p u = kd h0 p u) (e : ∀ j : Int, 0 ≤ j → j < m → ∀ o, o ≤ 12 → (∀ i, hI h' (kd h0 p j + o) i = hI h1 (kd h0 p j + o) i) ∧ ∀ i, hR h' (kd h0 p j + o) i = hR h1 (kd h0 p j + o) i) (T : ∀ u : Int, 0 ≤ u → u < m → TBr h0 hr h1 p u) : TB h' hr' p 0 m := by
  intro j j0 j1 i hi
  obtain ⟨t1, ⟨t2, t3⟩, t4, t5⟩ := T j j0 j1 i hi
  rw [hk j, hk, hk, fAt_w a W (.inr ⟨j0, j1⟩), sAt_w a W (.inr ⟨j0, j1⟩), aAt_w a W (.inr ⟨j0, j1⟩), (e j j0 j1 8 (by omega)).1, (e j j0 j1 9 (by omega)).2, (e j j0 j1 10 (by omega)).1, (e j j0 j1 11 (by omega)).2, (e j j0 j1 12 (by omega)).1]
  refine ⟨t1, ⟨t2, fun hs => ?_⟩, t4, fun hs => ?_⟩
  · rw [t3 hs]
    rcases sAt_b (n := i) W (.inr ⟨j0, j1⟩) with z | ⟨⟨z1, z2⟩, -⟩
    · exact absurd z hs
    · rw [sIx_w a W z1 z2]
  · rw [t5 hs]
    rcases aAt_b (n := i) W (.inr ⟨j0, j1⟩) with z | ⟨⟨z1, z2⟩, -⟩
    · exact absurd z hs
    · rw [aIx_w a W z1 z2]
end PEE
