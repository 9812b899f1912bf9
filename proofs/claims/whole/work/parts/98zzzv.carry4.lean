/-! a patch is made: all the creatures are carried -/
theorem ixf_iff {f g : Nat → Int} {n n' : Int} : ∀ {c i : Nat}, (∀ j, i ≤ j → j < i + c → (f j = n ↔ g j = n')) → ixf f n i c = ixf g n' i c
  | 0, _, _ => rfl
  | c + 1, i, h => by
    unfold ixf
    rw [ixf_iff (c := c) (fun j h1 h2 => h j (by omega) (by omega))]
    by_cases q : f i = n
    · rw [if_pos q, if_pos ((h i (by omega) (by omega)).1 q)]
    · rw [if_neg q, if_neg (fun z => q ((h i (by omega) (by omega)).2 z))]
/-- a becomes like b -/
def BLk (a b : Nat) (h h' : hS) : Prop := (hJ h' = hJ h ∧ hT h' = hT h ∧ hL h' = hL h ∧ hN h' = hN h ∧ hM h' = hM h) ∧ (∀ x j, ¬ (x = a ∧ j = 2) → hR h' x j = hR h x j) ∧ (∀ x j, ¬ ((x = a ∧ j = 1) ∨ (a + 1 ≤ x ∧ x ≤ a + 3)) → hI h' x j = hI h x j) ∧ hR h' a 2 = hR h b 2 ∧ hI h' a 1 = hI h b 1 ∧ ∀ n, n < 40 → hI h' (a + 1) n = hI h (b + 1) n ∧ hI h' (a + 2) n = hI h (b + 2) n ∧ hI h' (a + 3) n = hI h (b + 3) n
/-- where the creature's kind has gone -/
def toq (tZ : hS) (m : Nat) (c : Nat) : Int := nmx tZ m (wg tZ 0 (hI tZ 404 c) 0)
/-- what creature c has become -/
def VALq (hZ tZ : hS) (m : Nat) (old k : Int) (c : Nat) (h t : hS) : Prop := (wg tZ 1 k 3 = 1 → (∀ n : Nat, n < 40 → (fAt tZ 1 k n ≠ -1 → hI t 442 (40 * c + n) = 1 ∧ hI h (54 + 4 * c) n = hI t 440 (40 * c + n)) ∧ (fAt tZ 1 k n = -1 → hI t 442 (40 * c + n) = 0)) ∧ ∀ n : Nat, n < 40 → (LSq tZ m old k n → hI h (55 + 4 * c) n = 1 ∧ hI h (56 + 4 * c) n = hI hZ (216 + 4 * c) n) ∧ (¬ LSq tZ m old k n → hI h (55 + 4 * c) n = hI hZ (217 + 4 * c) n ∧ hI h (56 + 4 * c) n = hI hZ (218 + 4 * c) n)) ∧ (wg tZ 1 k 3 ≠ 1 → ∀ n, n < 40 → hI h (54 + 4 * c) n = hI hZ (216 + 4 * c) n ∧ hI h (55 + 4 * c) n = hI hZ (217 + 4 * c) n ∧ hI h (56 + 4 * c) n = hI hZ (218 + 4 * c) n)
def CCq (hZ tZ : hS) (P m q : Nat) (c : Nat) (h t : hS) : Prop := (hI hZ (215 + 4 * c) 1 = 0 → hI h (53 + 4 * c) 1 = 0 ∧ (c < q → hI t 446 c = -1)) ∧ (hI hZ (215 + 4 * c) 1 = 1 → hI t 446 c = toq tZ m c ∧ (toq tZ m c = -1 → hI h (53 + 4 * c) 1 = 0) ∧ (toq tZ m c ≠ -1 → hI h (53 + 4 * c) 1 = 1 ∧ hR h (53 + 4 * c) 2 = kd hZ P (toq tZ m c) ∧ VALq hZ tZ m (hI tZ 404 c) (toq tZ m c) c h t)) ∧ ∀ n, n < 40 → hI h (55 + 4 * c) n = 0 ∨ hI h (55 + 4 * c) n = 1
/-- so far -/
def CYq (hZ tZ : hS) (P m q : Nat) (i : Nat) (h t : hS) : Prop := (cyH hZ h ∧ cyT tZ t) ∧ hI t 395 54 = 0 ∧ (∀ c, c < i → CCq hZ tZ P m q c h t) ∧ ∀ c n, i ≤ c → c < 40 → n < 40 → hI t 442 (40 * c + n) = 0
section CA4
variable {hZ tZ h0 h1 t1 h t h' t' : hS} {K : Nat → Int → Prop} {p P m0 m q pt S A qq N0 tx pk c a b ca cb : Nat} {r0 r : Int → Nat} {G f old k u : Int} {us Lc : List Nat}
theorem c154_e (SA : SHc h a ca) (SB : SHc h b cb) (a8 : 8 ≤ a) (b8 : 8 ≤ b) (d : a + 3 < b ∨ b + 3 < a) (lv : hI h b 1 = 0 ∨ hI h b 1 = 1) (bl : ∀ n, n < 40 → hI h (b + 2) n = 0 ∨ hI h (b + 2) n = 1) : ∃ h', c154 a b h = some h' ∧ BLk a b h h' := by
  obtain ⟨a1, a2, a3, a4, a5, a6, a7⟩ := SA
  obtain ⟨b1, b2, b3, b4, b5, b6, b7⟩ := SB
  obtain ⟨g1, e1⟩ : ∃ g, g = sI h a 1 (hI h b 1) := ⟨_, rfl⟩
  obtain ⟨g2, e2⟩ : ∃ g, g = sR g1 a 2 (hR h b 2) := ⟨_, rfl⟩
  obtain ⟨g3, e3⟩ : ∃ g, g = sCI g2 (b + 1) 0 (a + 1) 0 40 := ⟨_, rfl⟩
  obtain ⟨g4, e4⟩ : ∃ g, g = sCI g3 (b + 2) 0 (a + 2) 0 40 := ⟨_, rfl⟩
  obtain ⟨g5, e5⟩ : ∃ g, g = sCI g4 (b + 3) 0 (a + 3) 0 40 := ⟨_, rfl⟩
  have T2 : hT g2 = hT h := by rw [e2, e1]; rfl
  have L2 : hL g2 = hL h := by rw [e2, e1]; rfl
  have T3 : hT g3 = hT h := by rw [e3]; exact T2
  have L3 : hL g3 = hL h := by rw [e3]; exact L2
  have T4 : hT g4 = hT h := by rw [e4]; exact T3
  have L4 : hL g4 = hL h := by rw [e4]; exact L3
  have R1 : ∀ x j, hR g1 x j = hR h x j := fun x j => by rw [e1, hR_sI]
  have R2 : ∀ x j, hR g2 x j = if x = a ∧ j = 2 then hR h b 2 else hR h x j := fun x j => by rw [e2, hR_sR, R1]
  have R3 : ∀ x j, hR g3 x j = hR g2 x j := fun x j => by rw [e3]; rfl
  have R4 : ∀ x j, hR g4 x j = hR g2 x j := fun x j => by rw [e4]; exact R3 x j
  have R5 : ∀ x j, hR g5 x j = hR g2 x j := fun x j => by rw [e5]; exact R4 x j
  have I2 : ∀ x j, hI g2 x j = if x = a ∧ j = 1 then hI h b 1 else hI h x j := fun x j => by rw [e2, hI_sR, e1, hI_sI]
  have I3 : ∀ x j, x ≠ a + 1 → hI g3 x j = hI g2 x j := fun x j hx => by rw [e3, hI_sCI, if_neg (fun z => hx z.1)]
  have I4 : ∀ x j, x ≠ a + 2 → hI g4 x j = hI g3 x j := fun x j hx => by rw [e4, hI_sCI, if_neg (fun z => hx z.1)]
  have I5 : ∀ x j, x ≠ a + 3 → hI g5 x j = hI g4 x j := fun x j hx => by rw [e5, hI_sCI, if_neg (fun z => hx z.1)]
  refine ⟨g5, ?_, ⟨by rw [e5, e4, e3, e2, e1]; rfl, by rw [e5]; exact T4, by rw [e5]; exact L4, by rw [e5, e4, e3, e2, e1]; rfl, by rw [e5, e4, e3, e2, e1]; rfl⟩, fun x j hx => by rw [R5, R2, if_neg hx], fun x j hx => by rw [I5 x j (by omega), I4 x j (by omega), I3 x j (by omega), I2, if_neg (by omega)], by rw [R5, R2, if_pos ⟨rfl, rfl⟩], by rw [I5 a 1 (by omega), I4 a 1 (by omega), I3 a 1 (by omega), I2, if_pos ⟨rfl, rfl⟩], fun n hn => ⟨?_, ?_, ?_⟩⟩
  · unfold c154
    refine bnd (gI_s b1) ?_
    refine bnd (show kB (hI h b 1) = some () from ?_) ?_
    · rcases lv with z | z <;> rw [z] <;> rfl
    · refine bnd ((pI_s a1).trans (congrArg some e1.symm)) ?_
      refine bnd (gR_s (by rw [e1]; exact b1)) ?_
      rw [R1]
      refine bnd ((pR_s (by rw [e1]; exact a1)).trans (congrArg some e2.symm)) ?_
      refine bnd (gR_s (by rw [T2]; exact b1)) ?_
      refine bnd (gR_s (by rw [T2]; exact a1)) ?_
      rw [R2, if_neg (by omega), R2, if_neg (by omega), a2, b2]
      refine bnd ((cpI_n 0 0 40 (by rw [T2]; exact b5.1) (by rw [T2]; exact a5.1) (by omega) (by omega) rfl rfl rfl (by rw [L2, b6.1]; omega) (by rw [L2, a6.1]; omega) (.inl rfl)).trans (congrArg some e3.symm)) ?_
      refine bnd (gR_s (by rw [T3]; exact b1)) ?_
      refine bnd (gR_s (by rw [T3]; exact a1)) ?_
      rw [R3, R3, R2, if_neg (by omega), R2, if_neg (by omega), a3, b3]
      refine bnd ((cpI_n 0 0 40 (by rw [T3]; exact b5.2.1) (by rw [T3]; exact a5.2.1) (by omega) (by omega) rfl rfl rfl (by rw [L3, b6.2.1]; omega) (by rw [L3, a6.2.1]; omega) (.inr (fun j hj => ?_))).trans (congrArg some e4.symm)) ?_
      · rw [Nat.zero_add, I3 _ _ (by omega), I2, if_neg (by omega)]
        exact bl j hj
      · refine bnd (gR_s (by rw [T4]; exact b1)) ?_
        refine bnd (gR_s (by rw [T4]; exact a1)) ?_
        rw [R4, R4, R2, if_neg (by omega), R2, if_neg (by omega), a4, b4]
        refine bnd ((cpI_n 0 0 40 (by rw [T4]; exact b5.2.2) (by rw [T4]; exact a5.2.2) (by omega) (by omega) rfl rfl rfl (by rw [L4, b6.2.2]; omega) (by rw [L4, a6.2.2]; omega) (.inl rfl)).trans (congrArg some e5.symm)) ?_
        rfl
  · rw [I5 _ _ (by omega), I4 _ _ (by omega), e3, hI_sCI, if_pos ⟨rfl, by omega, by omega⟩, show n - 0 + 0 = n from rfl, I2, if_neg (by omega)]
  · rw [I5 _ _ (by omega), e4, hI_sCI, if_pos ⟨rfl, by omega, by omega⟩, show n - 0 + 0 = n from rfl, I3 _ _ (by omega), I2, if_neg (by omega)]
  · rw [e5, hI_sCI, if_pos ⟨rfl, by omega, by omega⟩, show n - 0 + 0 = n from rfl, I4 _ _ (by omega), I3 _ _ (by omega), I2, if_neg (by omega)]
/-- the other side looks for the kind that came from old -/
theorem c284_e (W : WF t 1 m r) (c40 : c < 40) (eo : hI t 404 c = old) (Os : ∀ j : Int, 0 ≤ j → j < m → wg t 1 j 4 = nm0 t m0 (wg t 1 j 0)) (ho : 0 ≤ old ∧ old < m0) (nA : ∀ x y : Nat, x < m0 → y < m0 → wg t 0 (x : Int) 0 = wg t 0 (y : Int) 0 → x = y) : c284 (c : Int) t = some (nmx t m (wg t 0 old 0)) := by
  have hm := W.2.1
  have e := lp_ixv (f := fun s => c284_b2 (c : Int) t s) (fun j => wg t 1 (j : Int) 4) (fun u => u) old m (by
    intro i hi
    show c284_b2 (c : Int) t (i : Int) = _
    unfold c284_b2
    refine bnd (c198_e (by omega) (by omega)) ?_
    rw [W.1, if_neg (by omega)]
    refine bnd (c199_e (by omega) (by omega) (by omega) (by omega) (by omega) (by omega)) ?_
    refine bnd (aIs_s (by omega) (by omega)) ?_
    rw [Int.toNat_natCast, eo]
    by_cases z : wg t 1 (i : Int) 4 = old
    · rw [if_pos z, if_pos z]
    · rw [if_neg z, if_neg z, wadd_e (by omega) (by omega)]) (by
    show c284_b2 (c : Int) t (m : Int) = _
    unfold c284_b2
    refine bnd (c198_e (by omega) (by omega)) ?_
    rw [W.1, if_pos (by omega)]) m 0 hF0 (by omega) (hF0_lt (by omega))
  have e2 : ixf (fun j : Nat => wg t 1 (j : Int) 4) old 0 m = nmx t m (wg t 0 old 0) := by
    unfold nmx ix
    refine ixf_iff (fun j _ hj => ?_)
    show wg t 1 (j : Int) 4 = old ↔ wg t 1 (j : Int) 0 = wg t 0 old 0
    rw [Os (j : Int) (by omega) (by omega)]
    obtain ⟨X, rfl⟩ : ∃ X : Nat, old = (X : Int) := ⟨old.toNat, by omega⟩
    have q := ix_q (g := fun k : Nat => wg t 0 (k : Int) 0) (n := wg t 1 (j : Int) 0) nA (x := X) (by omega)
    exact ⟨fun z => (q.1 z).symm, fun z => q.2 z.symm⟩
  rw [e2] at e
  unfold c284
  refine bnd e ?_
  by_cases z : nmx t m (wg t 0 old 0) = -1
  · rw [if_pos z, z]; rfl
  · rw [if_neg z]; rfl
end CA4
