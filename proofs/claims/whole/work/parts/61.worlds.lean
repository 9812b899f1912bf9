/-! the other side's worlds: reads, writes, searches -/
/-- the first place from i on, c places far, where f is n; -1 where none is -/
def ixf (f : Nat → Int) (n : Int) : Nat → Nat → Int
  | _, 0 => -1
  | i, c + 1 => if f i = n then (i : Int) else ixf f n (i + 1) c
def ix (f : Nat → Int) (n : Int) (c : Nat) : Int := ixf f n 0 c
theorem ixf_congr {f g : Nat → Int} {n : Int} : ∀ {c i : Nat}, (∀ j, i ≤ j → j < i + c → f j = g j) → ixf f n i c = ixf g n i c
  | 0, _, _ => rfl
  | c + 1, i, h => by
    unfold ixf
    rw [h i (by omega) (by omega), ixf_congr (c := c) (fun j h1 h2 => h j (by omega) (by omega))]
theorem ix_congr {f g : Nat → Int} {n : Int} {c : Nat} (h : ∀ j, j < c → f j = g j) : ix f n c = ix g n c := ixf_congr (fun j _ h2 => h j (by omega))
theorem ixf_b {f : Nat → Int} {n : Int} : ∀ {c i : Nat}, ixf f n i c = -1 ∨ ∃ j : Nat, ixf f n i c = (j : Int) ∧ i ≤ j ∧ j < i + c ∧ f j = n ∧ ∀ k, i ≤ k → k < j → f k ≠ n
  | 0, _ => .inl rfl
  | c + 1, i => by
    unfold ixf
    by_cases q : f i = n
    · rw [if_pos q]
      exact .inr ⟨i, rfl, by omega, by omega, q, fun k _ _ => by omega⟩
    · rw [if_neg q]
      rcases ixf_b (f := f) (n := n) (c := c) (i := i + 1) with e | ⟨j, e, h1, h2, h3, h4⟩
      · exact .inl e
      · refine .inr ⟨j, e, by omega, by omega, h3, fun k k1 k2 => ?_⟩
        by_cases qk : k = i
        · rw [qk]; exact q
        · exact h4 k (by omega) k2
theorem ix_b (f : Nat → Int) (n : Int) (c : Nat) : ix f n c = -1 ∨ ∃ j : Nat, ix f n c = (j : Int) ∧ j < c ∧ f j = n ∧ ∀ k, k < j → f k ≠ n := by
  rcases ixf_b (f := f) (n := n) (c := c) (i := 0) with e | ⟨j, e, h1, h2, h3, h4⟩
  · exact .inl e
  · exact .inr ⟨j, e, by omega, h3, fun k k2 => h4 k (by omega) k2⟩
theorem ixf_none {f : Nat → Int} {n : Int} : ∀ {c i : Nat}, ixf f n i c = -1 → ∀ j, i ≤ j → j < i + c → f j ≠ n
  | 0, _, _, j, h1, h2 => by omega
  | c + 1, i, e, j, h1, h2 => by
    unfold ixf at e
    by_cases q : f i = n
    · rw [if_pos q] at e; omega
    · rw [if_neg q] at e
      by_cases qj : j = i
      · rw [qj]; exact q
      · exact ixf_none e j (by omega) (by omega)
theorem ix_none {f : Nat → Int} {n : Int} {c : Nat} (e : ix f n c = -1) : ∀ j, j < c → f j ≠ n := fun j h => ixf_none e j (by omega) (by omega)
/-- a loop that searches -/
theorem lp_ix {f : Int → Option (Int ⊕ (Unit ⊕ Int))} (g : Nat → Int) (n : Int) (c : Nat) (step : ∀ i : Nat, i < c → f (i : Int) = if g i = n then some (.inr (.inr (i : Int))) else some (.inl ((i : Int) + 1))) (stop : f (c : Int) = some (.inr (.inl ()))) : ∀ (m i N : Nat), i + m = c → m < N → lp f N (i : Int) = some (if ixf g n i m = -1 then .inl () else .inr (ixf g n i m))
  | 0, i, N, h1, h2 => by
    obtain ⟨N, rfl⟩ : ∃ N1, N = N1 + 1 := ⟨N - 1, by omega⟩
    have : i = c := by omega
    subst this
    rw [lp_d stop]
    rfl
  | m + 1, i, N, h1, h2 => by
    obtain ⟨N, rfl⟩ : ∃ N1, N = N1 + 1 := ⟨N - 1, by omega⟩
    have hs := step i (by omega)
    unfold ixf
    by_cases q : g i = n
    · rw [if_pos q] at hs
      rw [lp_d hs, if_pos q, if_neg (by omega)]
    · rw [if_neg q] at hs
      rw [lp_n hs, if_neg q]
      have := lp_ix g n c step stop m (i + 1) N (by omega) (by omega)
      rw [show ((i : Int) + 1) = ((i + 1 : Nat) : Int) by omega]
      exact this
theorem xs_ix {r : Int} : xs (if r = -1 then (.inl () : Unit ⊕ Int) else .inr r) (fun _ => some (-1 : Int)) (fun o => some o) = some r := by
  by_cases q : r = -1
  · rw [if_pos q, q]; rfl
  · rw [if_neg q]; rfl
/-- placeIn -/
theorem c29_e {h : hS} {row : Nat} {c : Nat} {n : Int} (ht : hT h row = 1) (hc : c ≤ hL h row) (hl : c ≤ 100000) : c29 row c n h = some (ix (fun i => hI h row i) n c) := by
  unfold c29
  have e := lp_ix (f := fun s => c29_b2 row c n h s) (fun i => hI h row i) n c (by
    intro i hi
    show c29_b2 row c n h i = _
    unfold c29_b2
    rw [if_neg (by omega), lA_s ht]
    simp only [bsome]
    rw [if_neg (by omega), aI_s ht (by omega) (by omega)]
    simp only [bsome, Int.toNat_natCast]
    rw [wadd_e (by omega) (by omega)]) (by
    show c29_b2 row c n h c = _
    unfold c29_b2
    rw [if_pos (by omega)]) c 0 hF0 (by omega) (hF0_lt (by omega))
  have e : lp (fun s => c29_b2 row c n h s) hF0 0 = _ := e
  rw [e]
  exact xs_ix
/-! a world's rows -/
def wg (h : hS) (w k f : Int) : Int := hI h 400 (769 * w + 1 + 64 * k + f).toNat
def wm (h : hS) (w : Int) : Int := hI h 400 (769 * w).toNat
def wset (h : hS) (w k f v : Int) : hS := sI h 400 (769 * w + 1 + 64 * k + f).toNat v
section WLD
variable {h : hS} {w k f n : Int}
theorem c198_e (w0 : 0 ≤ w) (w1 : w < 3) : c198 w h = some (wm h w) := by
  unfold c198
  rw [wmul_e (by omega) (by omega), aIs_s (by omega) (by omega)]
  rfl
theorem c199_e (w0 : 0 ≤ w) (w1 : w < 3) (k0 : 0 ≤ k) (k1 : k < 12) (f0 : 0 ≤ f) (f1 : f < 64) : c199 w k f h = some (wg h w k f) := by
  unfold c199
  rw [wmul_e (x := 769) (by omega) (by omega), wmul_e (x := 64) (by omega) (by omega), wadd_e (y := 1) (by omega) (by omega), wadd_e (y := 64 * k) (by omega) (by omega), wadd_e (y := f) (by omega) (by omega), aIs_s (by omega) (by omega)]
  rfl
theorem c201_e {v : Int} (w0 : 0 ≤ w) (w1 : w < 3) (k0 : 0 ≤ k) (k1 : k < 12) (f0 : 0 ≤ f) (f1 : f < 64) : c201 w k f v h = some (wset h w k f v) := by
  unfold c201
  rw [wmul_e (x := 769) (by omega) (by omega), wmul_e (x := 64) (by omega) (by omega), wadd_e (y := 1) (by omega) (by omega), wadd_e (y := 64 * k) (by omega) (by omega), wadd_e (y := f) (by omega) (by omega), wIs_s (by omega) (by omega)]
  rfl
theorem wg_set {v w' k' f' : Int} (w0 : 0 ≤ w) (k0 : 0 ≤ k) (f0 : 0 ≤ f) (f1 : f < 64) (k1 : k < 12) (w0' : 0 ≤ w') (k0' : 0 ≤ k') (f0' : 0 ≤ f') (f1' : f' < 64) (k1' : k' < 12) : wg (wset h w k f v) w' k' f' = if w' = w ∧ k' = k ∧ f' = f then v else wg h w' k' f' := by
  unfold wg wset
  rw [hI_sI]
  by_cases q : w' = w ∧ k' = k ∧ f' = f
  · obtain ⟨rfl, rfl, rfl⟩ := q
    rw [if_pos ⟨rfl, rfl⟩, if_pos ⟨rfl, rfl, rfl⟩]
  · rw [if_neg q, if_neg]
    rintro ⟨-, e⟩
    have e : (769 * w' + 1 + 64 * k' + f').toNat = (769 * w + 1 + 64 * k + f).toNat := e
    have e : 769 * w' + 1 + 64 * k' + f' = 769 * w + 1 + 64 * k + f := by omega
    have hw : w' = w := by
      by_cases q1 : w' < w
      · exfalso; omega
      · by_cases q2 : w < w'
        · exfalso; omega
        · omega
    subst hw
    have hk : k' = k := by omega
    subst hk
    exact q ⟨rfl, rfl, by omega⟩
theorem wm_set {v w' : Int} (w0 : 0 ≤ w) (k0 : 0 ≤ k) (f0 : 0 ≤ f) (f1 : f < 64) (k1 : k < 12) (w0' : 0 ≤ w') : wm (wset h w k f v) w' = wm h w' := by
  unfold wm wset
  rw [hI_sI, if_neg]
  rintro ⟨-, e⟩
  have e : (769 * w').toNat = (769 * w + 1 + 64 * k + f).toNat := e
  have e : 769 * w' = 769 * w + 1 + 64 * k + f := by omega
  by_cases q1 : w' ≤ w <;> omega
/-- find -/
theorem c197_e {m : Nat} (w0 : 0 ≤ w) (w1 : w < 3) (hm : wm h w = (m : Int)) (h12 : m ≤ 12) : c197 w n h = some (ix (fun k => wg h w k 0) n m) := by
  unfold c197
  have e := lp_ix (f := fun s => c197_b2 w n h s) (fun k => wg h w k 0) n m (by
    intro i hi
    show c197_b2 w n h i = _
    unfold c197_b2
    rw [c198_e w0 w1]
    simp only [bsome]
    rw [if_neg (by omega), c199_e w0 w1 (by omega) (by omega) (by omega) (by omega)]
    simp only [bsome]
    rw [wadd_e (by omega) (by omega)]) (by
    show c197_b2 w n h m = _
    unfold c197_b2
    rw [c198_e w0 w1]
    simp only [bsome]
    rw [if_pos (by omega)]) m 0 hF0 (by omega) (hF0_lt (by omega))
  have e : lp (fun s => c197_b2 w n h s) hF0 0 = _ := e
  rw [e]
  exact xs_ix
/-- field, fixedOf, actOf -/
theorem c207_e {m : Nat} (w0 : 0 ≤ w) (w1 : w < 3) (k0 : 0 ≤ k) (k1 : k < 12) (hm : wg h w k 5 = (m : Int)) (h8 : m ≤ 8) : c207 w k n h = some (ix (fun i => wg h w k (6 + i)) n m) := by
  unfold c207
  have e := lp_ix (f := fun s => c207_b3 w k n h s) (fun i => wg h w k (6 + i)) n m (by
    intro i hi
    show c207_b3 w k n h i = _
    unfold c207_b3
    rw [c199_e w0 w1 k0 k1 (by omega) (by omega)]
    simp only [bsome]
    rw [if_neg (by omega), wadd_e (x := 6) (by omega) (by omega), c199_e w0 w1 k0 k1 (by omega) (by omega)]
    simp only [bsome]
    rw [wadd_e (by omega) (by omega)]) (by
    show c207_b3 w k n h m = _
    unfold c207_b3
    rw [c199_e w0 w1 k0 k1 (by omega) (by omega)]
    simp only [bsome]
    rw [if_pos (by omega)]) m 0 hF0 (by omega) (hF0_lt (by omega))
  have e : lp (fun s => c207_b3 w k n h s) hF0 0 = _ := e
  rw [e]
  exact xs_ix
theorem c208_e {m : Nat} (w0 : 0 ≤ w) (w1 : w < 3) (k0 : 0 ≤ k) (k1 : k < 12) (hm : wg h w k 30 = (m : Int)) (h8 : m ≤ 4) : c208 w k n h = some (ix (fun i => wg h w k (31 + i)) n m) := by
  unfold c208
  have e := lp_ix (f := fun s => c208_b3 w k n h s) (fun i => wg h w k (31 + i)) n m (by
    intro i hi
    show c208_b3 w k n h i = _
    unfold c208_b3
    rw [c199_e w0 w1 k0 k1 (by omega) (by omega)]
    simp only [bsome]
    rw [if_neg (by omega), wadd_e (x := 31) (by omega) (by omega), c199_e w0 w1 k0 k1 (by omega) (by omega)]
    simp only [bsome]
    rw [wadd_e (by omega) (by omega)]) (by
    show c208_b3 w k n h m = _
    unfold c208_b3
    rw [c199_e w0 w1 k0 k1 (by omega) (by omega)]
    simp only [bsome]
    rw [if_pos (by omega)]) m 0 hF0 (by omega) (hF0_lt (by omega))
  have e : lp (fun s => c208_b3 w k n h s) hF0 0 = _ := e
  rw [e]
  exact xs_ix
theorem c205_e {m : Nat} (w0 : 0 ≤ w) (w1 : w < 3) (k0 : 0 ≤ k) (k1 : k < 12) (hm : wg h w k 39 = (m : Int)) (h8 : m ≤ 8) : c205 w k n h = some (ix (fun i => wg h w k (40 + i)) n m) := by
  unfold c205
  have e := lp_ix (f := fun s => c205_b3 w k n h s) (fun i => wg h w k (40 + i)) n m (by
    intro i hi
    show c205_b3 w k n h i = _
    unfold c205_b3
    rw [c199_e w0 w1 k0 k1 (by omega) (by omega)]
    simp only [bsome]
    rw [if_neg (by omega), wadd_e (x := 40) (by omega) (by omega), c199_e w0 w1 k0 k1 (by omega) (by omega)]
    simp only [bsome]
    rw [wadd_e (by omega) (by omega)]) (by
    show c205_b3 w k n h m = _
    unfold c205_b3
    rw [c199_e w0 w1 k0 k1 (by omega) (by omega)]
    simp only [bsome]
    rw [if_pos (by omega)]) m 0 hF0 (by omega) (hF0_lt (by omega))
  have e : lp (fun s => c205_b3 w k n h s) hF0 0 = _ := e
  rw [e]
  exact xs_ix
end WLD
