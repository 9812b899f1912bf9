/-! the beat's end: the long acts of those that died end -/
/-- slot l runs for a creature that lives not -/
def dqE (h0 : hS) (l : Nat) : Prop := hI h0 (375 + 2 * l) 2 ≠ 0 ∧ hI h0 (hR h0 (376 + 2 * l) 0) 1 = 0
/-- slots below i are looked at -/
def ENq (h0 h : hS) (i : Nat) : Prop := (hJ h = hJ h0 ∧ hT h = hT h0 ∧ hL h = hL h0 ∧ hN h = hN h0 ∧ hM h = hM h0) ∧ (∀ x j, hR h x j = hR h0 x j) ∧ (∀ x j, ¬ (∃ l, l < 10 ∧ x = 375 + 2 * l ∧ (j = 2 ∨ j = 5 ∨ j = 6)) → hI h x j = hI h0 x j) ∧ (∀ l, l < i → (dqE h0 l → hI h (375 + 2 * l) 2 = 0 ∧ hI h (375 + 2 * l) 5 = 3 ∧ hI h (375 + 2 * l) 6 = 0) ∧ (¬ dqE h0 l → ∀ j, hI h (375 + 2 * l) j = hI h0 (375 + 2 * l) j)) ∧ ∀ l, i ≤ l → l < 10 → ∀ j, hI h (375 + 2 * l) j = hI h0 (375 + 2 * l) j
/-- what no long act can see stays, a patch's state apart -/
def stq (h h' : hS) : Prop := hN h ≤ hN h' ∧ (∀ x, 375 ≤ x → x < hN h → hT h x ≠ 26 → sm h h' x) ∧ ∀ j, hR h' 21 j = hR h 21 j
section ENDx
variable {h h' h0 h8 t t' t7 : hS} {K : Nat → Int → Prop} {p m q κ l x c a k : Nat} {r : Int → Nat}
theorem c165_l (F : ∀ l, l < 10 → (hR h0 21 l = 375 + 2 * l ∧ hT h0 (375 + 2 * l) = 20 ∧ hR h0 (375 + 2 * l) 0 = 376 + 2 * l ∧ hT h0 (376 + 2 * l) = 12) ∧ (hI h0 (375 + 2 * l) 2 ≠ 0 → ∃ c, c < 40 ∧ hR h0 (376 + 2 * l) 0 = 215 + 4 * c ∧ hT h0 (215 + 4 * c) = 16)) : ∀ (D i N : Nat) (h : hS), i + D = 10 → D < N → ENq h0 h i → ∃ h', lp (fun s => c165_b2 s.1 s.2) N ((i : Int), h) = some h' ∧ ENq h0 h' 10
  | 0, i, N, h, hi, hN', C => by
    obtain ⟨N, rfl⟩ : ∃ n, N = n + 1 := ⟨N - 1, by omega⟩
    obtain rfl : i = 10 := by omega
    refine ⟨h, lp_d ?_, C⟩
    show c165_b2 ((10 : Nat) : Int) h = _
    unfold c165_b2
    rw [if_pos (by omega)]
  | D + 1, i, N, h, hi, hN', C => by
    obtain ⟨N, rfl⟩ : ∃ n, N = n + 1 := ⟨N - 1, by omega⟩
    have i10 : i < 10 := by omega
    obtain ⟨⟨c1, c2, c3, c4, c5⟩, c6, c7, c8, c9⟩ := id C
    obtain ⟨⟨f1, f2, f3, f4⟩, f5⟩ := F i i10
    have tT : ∀ x, hT h x = hT h0 x := fun x => by rw [c2]
    have j41 : ∀ hA, c165_j41 (i : Int) hA = some (.inl (((i + 1 : Nat) : Int), hA)) := fun hA => by
      unfold c165_j41
      rw [wadd_n (by omega)]
    have e2 := c9 i (Nat.le_refl _) i10 2
    have start : ∀ R, (if hI h0 (375 + 2 * i) 2 = 0 then c165_j41 (i : Int) h else (gR h (375 + 2 * i) 20 0).bind (fun v5 => (gR h v5 12 0).bind (fun v6 => (gI h v6 16 1).bind (fun v7 => if v7 = 0 then (kT h (375 + 2 * i) 20).bind (fun u10 => (c138 (375 + 2 * i) 3 0 h).bind (fun h9 => c165_j41 (i : Int) h9)) else c165_j41 (i : Int) h)))) = R → c165_b2 (i : Int) h = R := fun R eR => by
      unfold c165_b2
      rw [if_neg (by omega)]
      refine bnd (show aRs h 21 10 (i : Int) = some (375 + 2 * i) by rw [aRs_s (by omega) (by omega), Int.toNat_natCast, c6, f1]) ?_
      refine bnd (gI_s (by rw [tT]; exact f2)) ?_
      rw [e2]
      exact eR
    by_cases z : hI h0 (375 + 2 * i) 2 = 0
    · have nd : ¬ dqE h0 i := fun w => w.1 z
      have C' : ENq h0 h (i + 1) := by
        refine ⟨⟨c1, c2, c3, c4, c5⟩, c6, c7, fun l hl => ?_, fun l hl l10 => c9 l (by omega) l10⟩
        by_cases y : l = i
        · subst y
          exact ⟨fun w => absurd w nd, fun _ => c9 l (Nat.le_refl _) i10⟩
        · exact c8 l (by omega)
      obtain ⟨h', y1, y2⟩ := c165_l F D (i + 1) N h (by omega) (by omega) C'
      refine ⟨h', (lp_n (s' := (((i + 1 : Nat) : Int), h)) ?_).trans y1, y2⟩
      refine start _ ?_
      rw [if_pos z]
      exact j41 h
    · obtain ⟨c, hc, l1, l2⟩ := f5 z
      have e1 : hI h (215 + 4 * c) 1 = hI h0 (215 + 4 * c) 1 := c7 _ _ (fun w => by obtain ⟨l, w1, w2, -⟩ := w; omega)
      have nxt : ∀ R, (if hI h0 (215 + 4 * c) 1 = 0 then (kT h (375 + 2 * i) 20).bind (fun u10 => (c138 (375 + 2 * i) 3 0 h).bind (fun h9 => c165_j41 (i : Int) h9)) else c165_j41 (i : Int) h) = R → c165_b2 (i : Int) h = R := fun R eR => by
        refine start _ ?_
        rw [if_neg z]
        refine bnd (gR_s (by rw [tT]; exact f2)) ?_
        rw [c6, f3]
        refine bnd (gR_s (by rw [tT]; exact f4)) ?_
        rw [c6, l1]
        refine bnd (gI_s (by rw [tT]; exact l2)) ?_
        rw [e1]
        exact eR
      by_cases y : hI h0 (215 + 4 * c) 1 = 0
      · have d : dqE h0 i := ⟨z, by rw [l1]; exact y⟩
        obtain ⟨h9, e9⟩ : ∃ h9, h9 = sI (sI (sI h (375 + 2 * i) 2 0) (375 + 2 * i) 5 3) (375 + 2 * i) 6 0 := ⟨_, rfl⟩
        have o9 : ∀ x j, ¬ (x = 375 + 2 * i ∧ (j = 2 ∨ j = 5 ∨ j = 6)) → hI h9 x j = hI h x j := fun x j hx => by rw [e9, hI_sI, if_neg (by omega), hI_sI, if_neg (by omega), hI_sI, if_neg (by omega)]
        have C' : ENq h0 h9 (i + 1) := by
          refine ⟨⟨by rw [e9]; exact c1, by rw [e9]; exact c2, by rw [e9]; exact c3, by rw [e9]; exact c4, by rw [e9]; exact c5⟩, fun x j => by rw [e9, hR_sI, hR_sI, hR_sI]; exact c6 x j, fun x j hx => by rw [o9 x j (fun w => hx ⟨i, i10, w⟩)]; exact c7 x j hx, fun l hl => ?_, fun l hl l10 j => by rw [o9 _ j (by omega)]; exact c9 l (by omega) l10 j⟩
          by_cases w : l = i
          · subst w
            refine ⟨fun _ => ⟨by rw [e9, hI_sI, if_neg (by omega), hI_sI, if_neg (by omega), hI_sI, if_pos ⟨rfl, rfl⟩], by rw [e9, hI_sI, if_neg (by omega), hI_sI, if_pos ⟨rfl, rfl⟩], by rw [e9, hI_sI, if_pos ⟨rfl, rfl⟩]⟩, fun w => absurd d w⟩
          · refine ⟨fun w' => ?_, fun w' j => by rw [o9 _ j (by omega)]; exact (c8 l (by omega)).2 w' j⟩
            rw [o9 _ 2 (by omega), o9 _ 5 (by omega), o9 _ 6 (by omega)]
            exact (c8 l (by omega)).1 w'
        obtain ⟨h', y1, y2⟩ := c165_l F D (i + 1) N h9 (by omega) (by omega) C'
        refine ⟨h', (lp_n (s' := (((i + 1 : Nat) : Int), h9)) ?_).trans y1, y2⟩
        refine nxt _ ?_
        rw [if_pos y]
        have T20 : hT h (375 + 2 * i) = 20 := by rw [tT]; exact f2
        refine bnd (kT_s T20) ?_
        refine bnd (show c138 (375 + 2 * i) 3 0 h = some h9 from ?_) (j41 h9)
        unfold c138 c138_j15
        rw [if_pos rfl, if_neg (by omega)]
        refine bnd (pI_s T20) ?_
        refine bnd (pI_s T20) ?_
        rw [if_neg (by omega)]
        unfold c138_j40
        refine bnd (pI_s T20) ?_
        rw [← e9]
      · have nd : ¬ dqE h0 i := fun w => y (by have := w.2; rw [l1] at this; exact this)
        have C' : ENq h0 h (i + 1) := by
          refine ⟨⟨c1, c2, c3, c4, c5⟩, c6, c7, fun l hl => ?_, fun l hl l10 => c9 l (by omega) l10⟩
          by_cases y : l = i
          · subst y
            exact ⟨fun w => absurd w nd, fun _ => c9 l (Nat.le_refl _) i10⟩
          · exact c8 l (by omega)
        obtain ⟨h', y1, y2⟩ := c165_l F D (i + 1) N h (by omega) (by omega) C'
        refine ⟨h', (lp_n (s' := (((i + 1 : Nat) : Int), h)) ?_).trans y1, y2⟩
        refine nxt _ ?_
        rw [if_neg y]
        exact j41 h
theorem KD_st (s : ∀ x, 448 ≤ x → x < hN h → hT h x ≠ 26 → sm h h' x) (n : hN h ≤ hN h') (Q : KD h a) : KD h' a ∧ ∀ o, o ≤ 12 → sm h h' (a + o) := by
  have e : ∀ o, o ≤ 12 → sm h h' (a + o) := fun o ho => s _ (by have := Q.1; omega) (by have := Q.2.1; omega) (KD_26 Q ho)
  have e0 := e 0 (by omega)
  rw [Nat.add_zero] at e0
  refine ⟨⟨Q.1, by have := Q.2.1; omega, by rw [e0.2.2.1]; exact Q.2.2.1, fun b hb => ?_⟩, e⟩
  obtain ⟨a1, a2, a3⟩ := Q.2.2.2 b hb
  have ho : b.2.1 ≤ 12 := by
    have : ∀ b ∈ karL, b.2.1 ≤ 12 := by decide
    exact this b hb
  have e2 := e b.2.1 ho
  exact ⟨by rw [e0.2.1]; exact a1, by rw [e2.2.2.1]; exact a2, by rw [e2.2.2.2]; exact a3⟩
end ENDx
