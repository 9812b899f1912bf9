/-! the other side stands at a token of the class's cut -/
section STN
variable {n : Nat} {b wk wk' : Nat → Int}
theorem lexT_congr (e : ∀ i : Nat, i < 22 → wk i = wk' i) {a : Nat} : lexT b n wk a = lexT b n wk' a := by
  unfold lexT
  rw [ix_congr (f := wk) (g := wk') e]
theorem tokb_congr (e : ∀ i : Nat, i < 22 → wk i = wk' i) : ∀ {k a : Nat}, tokb b n wk k a = tokb b n wk' k a
  | 0, _ => rfl
  | k + 1, a => by
    unfold tokb
    rw [lexT_congr e, tokb_congr e (k := k), tokb_congr e (k := k)]
theorem tokb_k : ∀ {k k' a : Nat}, n ≤ a + k → n ≤ a + k' → tokb b n wk k a = tokb b n wk k' a
  | 0, 0, _, _, _ => rfl
  | 0, k' + 1, a, h1, h2 => by
    unfold tokb
    rw [if_pos (by omega)]
  | k + 1, 0, a, h1, h2 => by
    unfold tokb
    rw [if_pos (by omega)]
  | k + 1, k' + 1, a, h1, h2 => by
    unfold tokb
    by_cases c : n ≤ a
    · rw [if_pos c, if_pos c]
    · obtain ⟨e1, e2⟩ := lexT_end (b := b) (wk := wk) (show a < n by omega)
      rw [if_neg c, if_neg c, tokb_k (k := k) (k' := k') (a := a + 1) (by omega) (by omega), tokb_k (k := k) (k' := k') (a := (lexT b n wk a).2.2) (by omega) (by omega)]
theorem tokb_sp : ∀ {m a : Nat}, a + m = n → tokb b n wk m a = if n ≤ spn spc b m a then [] else ((lexT b n wk (spn spc b m a)).1, spn spc b m a, (lexT b n wk (spn spc b m a)).2.1) :: tokb b n wk (n - (lexT b n wk (spn spc b m a)).2.2) (lexT b n wk (spn spc b m a)).2.2
  | 0, a, h => by
    rw [if_pos (show n ≤ spn spc b 0 a from by show n ≤ a; omega)]
    rfl
  | m + 1, a, h => by
    have tu : tokb b n wk (m + 1) a = (if n ≤ a then [] else if spc (b a) = true then tokb b n wk m (a + 1) else ((lexT b n wk a).1, a, (lexT b n wk a).2.1) :: tokb b n wk m (lexT b n wk a).2.2) := rfl
    have su : spn spc b (m + 1) a = if spc (b a) = true then spn spc b m (a + 1) else a := rfl
    rw [tu, su, if_neg (by omega)]
    by_cases c : spc (b a) = true
    · rw [if_pos c, if_pos c]
      exact tokb_sp (by omega)
    · obtain ⟨e1, e2⟩ := lexT_end (b := b) (wk := wk) (show a < n by omega)
      rw [if_neg c, if_neg c, if_neg (by omega), tokb_k (k := m) (k' := n - (lexT b n wk a).2.2) (by omega) (by omega)]
/-- the tokens left, with the one at which the other side stands -/
def STD (n : Nat) (b : Nat → Int) (L : List (Int × Nat × Int)) (h : hS) : Prop := ∃ a, LKR n b a h ∧ a ≤ n ∧ (a < n → L = ((lexT b n wkf a).1, a, (lexT b n wkf a).2.1) :: (tokb b n wkf (n - (lexT b n wkf a).2.2) (lexT b n wkf a).2.2 ++ [(4, n, 0)])) ∧ (n ≤ a → L = [(4, n, 0)])
variable {h : hS} {t : Int × Nat × Int} {L : List (Int × Nat × Int)}
theorem lexT_1 {a : Nat} (e : (lexT b n wk a).1 = 1) : smL (b a) = true := by
  by_cases c : smL (b a) = true
  · exact c
  · exfalso
    unfold lexT at e
    rw [if_neg c] at e
    repeat' split at e
    · exact absurd (show (3 : Int) = 1 from e) (by omega)
    · exact absurd (show (2 : Int) = 1 from e) (by omega)
    · exact absurd (show (250 : Int) = 1 from e) (by omega)
    · rename_i s
      have := (sgn_or (b a)).mp s
      exact absurd (show b a = 1 from e) (by omega)
    · exact absurd (show (3 : Int) = 1 from e) (by omega)
theorem STD_hd (S : STD n b (t :: L) h) : hI h 395 4 = (t.2.1 : Int) ∧ hI h 395 3 = mt t.1 ∧ (t.1 = 1 → W2R t.2.2 (hJ h 395 10)) ∧ (t.1 = 2 → hI h 395 5 = t.2.2) := by
  obtain ⟨a, ⟨k1, k2, k3⟩, ha, s1, s2⟩ := S
  by_cases c : a < n
  · obtain ⟨m1, m2, m3, m4⟩ := k3 c
    obtain ⟨rfl, -⟩ := List.cons.inj (s1 c)
    exact ⟨k1, m1, fun e => m3 (lexT_1 e) (fun z => absurd (e.symm.trans z) (by decide)), m4⟩
  · obtain ⟨rfl, -⟩ := List.cons.inj (s2 (by omega))
    obtain ⟨m1, m2⟩ := k2 (by omega)
    exact ⟨by rw [k1, show a = n by omega], m1, fun e => absurd (show (4 : Int) = 1 from e) (by omega), fun e => absurd (show (4 : Int) = 2 from e) (by omega)⟩
theorem STD_of {e : Nat} (he : e ≤ n) (K : LKR n b (spn spc b (n - e) e) h) : STD n b (tokb b n wkf (n - e) e ++ [(4, n, 0)]) h := by
  obtain ⟨b1, b2, -⟩ := spn_b (P := spc) (b := b) (n - e) e
  refine ⟨_, K, by omega, fun c => ?_, fun c => ?_⟩
  · rw [tokb_sp (m := n - e) (a := e) (by omega), if_neg (by omega)]
    rfl
  · rw [tokb_sp (m := n - e) (a := e) (by omega), if_pos c]
    rfl
theorem c188_adv (T : txr h n b) (W : lrn h) (S : STD n b (t :: L) h) (hL : L ≠ []) : ∃ h', c188 h = some h' ∧ fj h h' ∧ STD n b L h' := by
  obtain ⟨a, ⟨k1, k2, k3⟩, ha, s1, s2⟩ := S
  by_cases c : a < n
  · obtain ⟨m1, m2, m3, m4⟩ := k3 c
    obtain ⟨-, rfl⟩ := List.cons.inj (s1 c)
    obtain ⟨-, e2⟩ := lexT_end (b := b) (wk := wkf) c
    obtain ⟨h', g1, g2, g3⟩ := c188_e T W m2 e2
    exact ⟨h', g1, g2, STD_of e2 g3⟩
  · exact absurd (List.cons.inj (s2 (by omega))).2 hL
theorem c188_end (T : txr h n b) (W : lrn h) (S : STD n b [t] h) : ∃ h', c188 h = some h' ∧ fj h h' ∧ STD n b [t] h' := by
  obtain ⟨a, ⟨k1, k2, k3⟩, ha, s1, s2⟩ := S
  by_cases c : a < n
  · have := (List.cons.inj (s1 c)).2
    exact absurd this.symm (by simp)
  · obtain ⟨m1, m2⟩ := k2 (by omega)
    obtain ⟨h', g1, g2, g3⟩ := c188_e T W m2 ha
    rw [s2 (by omega)]
    rw [show n - a = 0 by omega] at g3
    exact ⟨h', g1, g2, a, g3, ha, fun z => absurd z c, fun _ => rfl⟩
/-- the faults and the counts are laid anew, the first token is looked at -/
theorem c184_e (T : txr h n b) (H : hI h 395 9 = 0 ∨ lrn h) : ∃ h', c184 h = some h' ∧ STD n b (tokb b n wkf n 0 ++ [(4, n, 0)]) h' ∧ lrn h' ∧ txr h' n b ∧ h'.2.1 = h.2.1 ∧ h'.2.2.2 = h.2.2.2 ∧ hI h' 395 11 = 0 ∧ hI h' 395 12 = -1 ∧ hI h' 395 16 = 0 ∧ hI h' 395 18 = 0 ∧ hI h' 395 20 = 0 ∧ (∀ x j, ¬ (x = 395 ∧ (j = 2 ∨ j = 3 ∨ j = 4 ∨ j = 5 ∨ j = 9 ∨ j = 11 ∨ j = 12 ∨ j = 16 ∨ j = 18 ∨ j = 20)) → hI h' x j = hI h x j) ∧ (∀ x j, ¬ (x = 398 ∨ (x = 395 ∧ j = 10)) → hJ h' x j = hJ h x j) := by
  obtain ⟨h1, g1, g2, g3, g4, g5, g6⟩ := c185_e H
  have T1 : txr h1 n b := ⟨by rw [g5 395 1 (by omega)]; exact T.1, T.2.1, fun i hi => by rw [g5 396 i (by omega)]; exact T.2.2 i hi⟩
  unfold c184
  rw [g1]
  simp only [bsome]
  have fo : ∀ x j, ¬ (x = 395 ∧ (j = 2 ∨ j = 11 ∨ j = 12 ∨ j = 16 ∨ j = 18 ∨ j = 20)) → hI (sI (sI (sI (sI (sI (sI h1 395 11 0) 395 12 (-1)) 395 2 0) 395 16 0) 395 18 0) 395 20 0) x j = hI h1 x j := by
    intro x j hx
    rw [hI_sI, if_neg (by omega), hI_sI, if_neg (by omega), hI_sI, if_neg (by omega), hI_sI, if_neg (by omega), hI_sI, if_neg (by omega), hI_sI, if_neg (by omega)]
  have o20 : hI (sI (sI (sI (sI (sI (sI h1 395 11 0) 395 12 (-1)) 395 2 0) 395 16 0) 395 18 0) 395 20 0) 395 20 = 0 := by rw [hI_sI, if_pos ⟨rfl, rfl⟩]
  have o18 : hI (sI (sI (sI (sI (sI (sI h1 395 11 0) 395 12 (-1)) 395 2 0) 395 16 0) 395 18 0) 395 20 0) 395 18 = 0 := by rw [hI_sI, if_neg (by omega), hI_sI, if_pos ⟨rfl, rfl⟩]
  have o16 : hI (sI (sI (sI (sI (sI (sI h1 395 11 0) 395 12 (-1)) 395 2 0) 395 16 0) 395 18 0) 395 20 0) 395 16 = 0 := by rw [hI_sI, if_neg (by omega), hI_sI, if_neg (by omega), hI_sI, if_pos ⟨rfl, rfl⟩]
  have o2 : hI (sI (sI (sI (sI (sI (sI h1 395 11 0) 395 12 (-1)) 395 2 0) 395 16 0) 395 18 0) 395 20 0) 395 2 = ((0 : Nat) : Int) := by rw [hI_sI, if_neg (by omega), hI_sI, if_neg (by omega), hI_sI, if_neg (by omega), hI_sI, if_pos ⟨rfl, rfl⟩]; rfl
  have o12 : hI (sI (sI (sI (sI (sI (sI h1 395 11 0) 395 12 (-1)) 395 2 0) 395 16 0) 395 18 0) 395 20 0) 395 12 = -1 := by rw [hI_sI, if_neg (by omega), hI_sI, if_neg (by omega), hI_sI, if_neg (by omega), hI_sI, if_neg (by omega), hI_sI, if_pos ⟨rfl, rfl⟩]
  have o11 : hI (sI (sI (sI (sI (sI (sI h1 395 11 0) 395 12 (-1)) 395 2 0) 395 16 0) 395 18 0) 395 20 0) 395 11 = 0 := by rw [hI_sI, if_neg (by omega), hI_sI, if_neg (by omega), hI_sI, if_neg (by omega), hI_sI, if_neg (by omega), hI_sI, if_neg (by omega), hI_sI, if_pos ⟨rfl, rfl⟩]
  have oJ : ∀ x j, hJ (sI (sI (sI (sI (sI (sI h1 395 11 0) 395 12 (-1)) 395 2 0) 395 16 0) 395 18 0) 395 20 0) x j = hJ h1 x j := fun _ _ => rfl
  have oR : (sI (sI (sI (sI (sI (sI h1 395 11 0) 395 12 (-1)) 395 2 0) 395 16 0) 395 18 0) 395 20 0).2.1 = h1.2.1 := rfl
  have oT : (sI (sI (sI (sI (sI (sI h1 395 11 0) 395 12 (-1)) 395 2 0) 395 16 0) 395 18 0) 395 20 0).2.2.2 = h1.2.2.2 := rfl
  generalize sI (sI (sI (sI (sI (sI h1 395 11 0) 395 12 (-1)) 395 2 0) 395 16 0) 395 18 0) 395 20 0 = h0 at fo o20 o18 o16 o2 o12 o11 oJ oR oT ⊢
  have T0 : txr h0 n b := ⟨by rw [fo 395 1 (by omega)]; exact T1.1, T.2.1, fun i hi => by rw [fo 396 i (by omega)]; exact T1.2.2 i hi⟩
  have W0 : lrn h0 := ⟨by rw [fo 395 9 (by omega)]; exact g2.1, fun i hi => by rw [oJ]; exact g2.2 i hi⟩
  obtain ⟨h', k1, k2, k3⟩ := c188_e T0 W0 o2 (Nat.zero_le n)
  rw [k1]
  have F := k2.2.2.1
  refine ⟨h', rfl, STD_of (e := 0) (Nat.zero_le n) k3, lrn_fj W0 k2, txr_fj T0 k2, k2.1.trans (oR.trans g3), k2.2.1.trans (oT.trans g4), (F 395 11 (by omega)).trans o11, (F 395 12 (by omega)).trans o12, (F 395 16 (by omega)).trans o16, (F 395 18 (by omega)).trans o18, (F 395 20 (by omega)).trans o20, ?_, ?_⟩
  · intro x j hx
    exact (F x j (by omega)).trans ((fo x j (by omega)).trans (g5 x j (by omega)))
  · intro x j hx
    exact (k2.2.2.2 x j (by omega)).trans ((oJ x j).trans (g6 x j (by omega)))
end STN
