/-! a pond beside another world, from heap to heap -/
section OTH
variable {h h' t t' : hS} {K : Nat → Int → Prop} {p m m0 : Nat} {r : Int → Nat} {w w' b a b' a' j : Int}
theorem KR_l2 (Q : KR h t K p w j) (hk : ∀ u, kd h' p u = kd h p u) (e : ∀ o, o ≤ 12 → sm h h' (kd h p j + o)) (en : hN h ≤ hN h') (ew : ∀ f, 0 ≤ f → f < 64 → wg t' w' j f = wg t w j f) (h5 : wg t w j 5 ≤ 8) (h30 : wg t w j 30 ≤ 4) (h39 : wg t w j 39 ≤ 8) : KR h' t' K p w' j := by
  obtain ⟨k1, k2, k3, k4, k5, k6, k7⟩ := Q
  have e0 := e 0 (by omega)
  rw [Nat.add_zero] at e0
  unfold KR
  rw [hk j]
  refine ⟨⟨k1.1, by have := k1.2.1; omega, by rw [e0.2.2.1]; exact k1.2.2.1, fun a ha => ?_⟩, ?_, ?_, ?_, ⟨?_, ?_⟩, ⟨?_, ?_⟩, ⟨?_, ?_⟩⟩
  · obtain ⟨a1, a2, a3⟩ := k1.2.2.2 a ha
    have ho : a.2.1 ≤ 12 := by
      have : ∀ a ∈ karL, a.2.1 ≤ 12 := by decide
      exact this a ha
    have e2 := e a.2.1 ho
    exact ⟨by rw [e0.2.1]; exact a1, by rw [e2.2.2.1]; exact a2, by rw [e2.2.2.2]; exact a3⟩
  · rw [e0.1, ew 0 (by omega) (by omega)]; exact k2
  · rw [e0.2.1, ew 1 (by omega) (by omega), hk]; exact k3
  · rw [e0.1, ew 2 (by omega) (by omega)]; exact k4
  · rw [e0.1, ew 5 (by omega) (by omega)]; exact k5.1
  · intro t ht
    rw [ew 5 (by omega) (by omega)] at ht
    rw [(e 1 (by omega)).1, (e 2 (by omega)).1, ew _ (by omega) (by omega), ew _ (by omega) (by omega)]
    exact k5.2 t ht
  · rw [e0.1, ew 30 (by omega) (by omega)]; exact k6.1
  · intro t ht
    rw [ew 30 (by omega) (by omega)] at ht
    rw [(e 4 (by omega)).1, (e 5 (by omega)).1, ew _ (by omega) (by omega), ew _ (by omega) (by omega)]
    exact k6.2 t ht
  · rw [e0.1, ew 39 (by omega) (by omega)]; exact k7.1
  · intro t ht
    rw [ew 39 (by omega) (by omega)] at ht
    rw [(e 6 (by omega)).1, (e 7 (by omega)).2.1, ew _ (by omega) (by omega), ew _ (by omega) (by omega)]
    exact k7.2 t ht
theorem WF_l2 (W : WF t w m r) (ew : ∀ v g : Int, 0 ≤ v → v < m → 0 ≤ g → g < 64 → wg t' w' v g = wg t w v g) (em : wm t' w' = wm t w) : WF t' w' m r := by
  refine ⟨by rw [em]; exact W.1, W.2.1, fun k k0 k1 => ?_⟩
  rw [ew k 1 k0 k1 (by omega) (by omega), ew k 5 k0 k1 (by omega) (by omega), ew k 30 k0 k1 (by omega) (by omega), ew k 39 k0 k1 (by omega) (by omega)]
  exact W.2.2 k k0 k1
theorem PW_l2 (Pw : PW h t K p w m r) (ep : sm h h' p) (ep1 : sm h h' (p + 1)) (ek : ∀ j : Int, 0 ≤ j → j < m → ∀ o, o ≤ 12 → sm h h' (kd h p j + o)) (en : hN h ≤ hN h') (ew : ∀ v g : Int, 0 ≤ v → v < m → 0 ≤ g → g < 64 → wg t' w' v g = wg t w v g) (em : wm t' w' = wm t w) : PW h' t' K p w' m r := by
  obtain ⟨W, ⟨p1, p2, p3, p4, p5, p6, p7⟩, P3, P4⟩ := id Pw
  have hk : ∀ u : Int, kd h' p u = kd h p u := fun u => by
    unfold kd
    split
    · rfl
    · exact ep1.2.1 _
  refine ⟨WF_l2 W ew em, ⟨p1, by omega, by rw [ep.2.2.1]; exact p3, by rw [ep.2.1]; exact p4, by rw [ep1.2.2.1]; exact p5, by rw [ep1.2.2.2]; exact p6, by rw [ep.1]; exact p7⟩, fun j j0 j1 => ?_, fun i j i0 i1 j0 j1 => ?_⟩
  · obtain ⟨-, -, w3, w4, w5⟩ := W.2.2 j j0 j1
    exact KR_l2 (P3 j j0 j1) hk (fun o ho => ek j j0 j1 o ho) en (fun f f0 f1 => ew j f j0 j1 f0 f1) w3.2 w4.2 w5.2
  · rw [ew i 0 i0 i1 (by omega) (by omega), ew j 0 j0 j1 (by omega) (by omega)]
    exact P4 i j i0 i1 j0 j1
theorem TB_l2 (W : WF t w m r) (T : TB h t p w m) (hk : ∀ u, kd h' p u = kd h p u) (e : ∀ j : Int, 0 ≤ j → j < m → ∀ o, 8 ≤ o → o ≤ 12 → (∀ i, hI h' (kd h p j + o) i = hI h (kd h p j + o) i) ∧ ∀ i, hR h' (kd h p j + o) i = hR h (kd h p j + o) i) (ew : ∀ v g : Int, 0 ≤ v → v < m → 0 ≤ g → g < 64 → wg t' w' v g = wg t w v g) : TB h' t' p w' m := fun j j0 j1 n hn => by
  have ax : agx w w' m t t' := fun k f k0 k1 f0 f1 _ => ew k f k0 k1 f0 f1
  obtain ⟨y1, ⟨y2, y3⟩, y4, y5⟩ := T j j0 j1 n hn
  have bj : j = -1 ∨ (0 ≤ j ∧ j < m) := .inr ⟨j0, j1⟩
  have ee := fun o (h8 : 8 ≤ o) (ho : o ≤ 12) => e j j0 j1 o h8 ho
  rw [hk, hk, hk, (ee 8 (by omega) (by omega)).1, (ee 9 (by omega) (by omega)).2, (ee 10 (by omega) (by omega)).1, (ee 11 (by omega) (by omega)).2, (ee 12 (by omega) (by omega)).1, fAt_x ax W bj, sAt_x ax W bj, aAt_x ax W bj]
  refine ⟨y1, ⟨y2, fun z => ?_⟩, y4, fun z => ?_⟩
  · rw [y3 z]
    rcases sAt_b (n := (n : Int)) W bj with v | ⟨⟨v, v'⟩, -⟩
    · exact absurd v z
    · exact (sIx_x ax W v v').symm
  · rw [y5 z]
    rcases aAt_b (n := (n : Int)) W bj with v | ⟨⟨v, v'⟩, -⟩
    · exact absurd v z
    · exact (aIx_x ax W v v').symm
theorem KD_26 {k : Nat} (Q : KD h k) {o : Nat} (h12 : o ≤ 12) : hT h (k + o) ≠ 26 := by
  rcases (show o = 0 ∨ o = 1 ∨ o = 2 ∨ o = 3 ∨ o = 4 ∨ o = 5 ∨ o = 6 ∨ o = 7 ∨ o = 8 ∨ o = 9 ∨ o = 10 ∨ o = 11 ∨ o = 12 by omega) with e | e | e | e | e | e | e | e | e | e | e | e | e <;> subst e
  · rw [Nat.add_zero, Q.2.2.1]; omega
  · rw [(KD5 Q).2.1]; omega
  · rw [(KD6 Q).2.1]; omega
  · rw [(KD7 Q).2.1]; omega
  · rw [(KD9 Q).2.1]; omega
  · rw [(KD10 Q).2.1]; omega
  · rw [(KD12 Q).2.1]; omega
  · rw [(KD13 Q).2.1]; omega
  · rw [(KD14 Q).2.1]; omega
  · rw [(KD15 Q).2.1]; omega
  · rw [(KD16 Q).2.1]; omega
  · rw [(KD17 Q).2.1]; omega
  · rw [(KD18 Q).2.1]; omega
/-- a kind beside where it came from, in other worlds -/
theorem KOg_l2 (W : WF t a m0 r) (O : KOg t b a m0 j) (hb : 0 ≤ j) (h5 : wg t b j 5 ≤ 8) (m12 : m0 ≤ 12) (eb : ∀ g : Int, 0 ≤ g → g < 30 → wg t' b' j g = wg t b j g) (ea : ∀ v g : Int, 0 ≤ v → v < m0 → 0 ≤ g → g < 64 → wg t' a' v g = wg t a v g) : KOg t' b' a' m0 j := by
  obtain ⟨o1, o2, o3⟩ := O
  have ax : agx a a' m0 t t' := fun k f k0 k1 f0 f1 _ => ea k f k0 k1 f0 f1
  unfold KOg
  rw [eb 4 (by omega) (by omega), eb 0 (by omega) (by omega), eb 5 (by omega) (by omega)]
  have ix4 : ix (fun k : Nat => wg t' a' (k : Int) 0) (wg t b j 0) m0 = wg t b j 4 := by
    rw [o1]
    exact ix_congr (fun u hu => ea u 0 (by omega) (by omega) (by omega) (by omega))
  refine ⟨ix4.symm, fun i hi => ?_, fun i k hi hk => ?_⟩
  · rw [eb _ (by omega) (by omega)]
    rcases o2 i hi with z | ⟨z1, z2⟩
    · exact .inl z
    · refine .inr ⟨z1, ?_⟩
      have b4 : 0 ≤ wg t b j 4 ∧ wg t b j 4 < m0 := by
        rcases ix_b (fun k : Nat => wg t a (k : Int) 0) (wg t b j 0) m0 with y | ⟨y, y1, y2, -⟩
        · exact absurd (o1.trans y) z1
        · rw [o1, y1]
          exact ⟨by omega, by omega⟩
      rw [fIx_x ax W b4.1 b4.2]
      exact z2
  · rw [eb _ (by omega) (by omega), eb _ (by omega) (by omega)]
    exact o3 i k hi hk
end OTH
