/-! chains of kinds in a world of the other side -/
def clb (P : Int → Bool) (up : Int → Int) : Nat → Int → Int
  | 0, _ => -1
  | f + 1, u => if u = -1 then -1 else if P u = true then u else clb P up f (up u)
theorem lp_clb {f : Int → Option (Int ⊕ Int)} (P : Int → Bool) (up : Int → Int) (r : Int → Nat) (ok : Int → Prop) (h1 : f (-1) = some (.inr (-1))) (h2 : ∀ u, ok u → f u = if P u = true then some (.inr u) else some (.inl (up u))) (h3 : ∀ u, ok u → up u = -1 ∨ (ok (up u) ∧ r (up u) < r u)) (hne : ∀ u, ok u → u ≠ -1) : ∀ (m N : Nat) (u : Int), (u = -1 ∨ (ok u ∧ r u < m)) → m < N → lp f N u = some (clb P up (m + 1) u)
  | 0, N, u, hu, hN => by
    obtain ⟨N, rfl⟩ : ∃ N1, N = N1 + 1 := ⟨N - 1, by omega⟩
    rcases hu with rfl | ⟨-, hr⟩
    · rw [lp_d h1]; rfl
    · omega
  | m + 1, N, u, hu, hN => by
    obtain ⟨N, rfl⟩ : ∃ N1, N = N1 + 1 := ⟨N - 1, by omega⟩
    rcases hu with rfl | ⟨hok, hr⟩
    · rw [lp_d h1]; rfl
    · have e := h2 u hok
      show _ = some (if u = -1 then -1 else if P u = true then u else clb P up (m + 1) (up u))
      rw [if_neg (hne u hok)]
      by_cases q : P u = true
      · rw [if_pos q] at e
        rw [lp_d e, if_pos q]
      · rw [if_neg q] at e
        rw [lp_n e, if_neg q]
        refine lp_clb P up r ok h1 h2 h3 hne m N (up u) ?_ (by omega)
        rcases h3 u hok with q1 | ⟨q1, q2⟩
        · exact .inl q1
        · exact .inr ⟨q1, by omega⟩
/-- what a climb finds: nothing, or a place of the chain where P holds -/
theorem clb_b (P : Int → Bool) (up : Int → Int) (ok : Int → Prop) (h3 : ∀ u, ok u → up u = -1 ∨ ok (up u)) : ∀ (f : Nat) (u : Int), (u = -1 ∨ ok u) → clb P up f u = -1 ∨ (ok (clb P up f u) ∧ P (clb P up f u) = true)
  | 0, _, _ => .inl rfl
  | f + 1, u, hu => by
    unfold clb
    by_cases q : u = -1
    · rw [if_pos q]; exact .inl rfl
    · rw [if_neg q]
      have hok : ok u := hu.resolve_left q
      by_cases q2 : P u = true
      · rw [if_pos q2]; exact .inr ⟨hok, q2⟩
      · rw [if_neg q2]
        exact clb_b P up ok h3 f (up u) (h3 u hok)
/-- a world that is whole: so many kinds, their counts, their chains -/
def WF (h : hS) (w : Int) (m : Nat) (r : Int → Nat) : Prop :=
  wm h w = m ∧ m ≤ 12 ∧ ∀ k : Int, 0 ≤ k → k < m → r k < 12 ∧ (wg h w k 1 = -1 ∨ (0 ≤ wg h w k 1 ∧ wg h w k 1 < m ∧ r (wg h w k 1) < r k)) ∧ (0 ≤ wg h w k 5 ∧ wg h w k 5 ≤ 8) ∧ (0 ≤ wg h w k 30 ∧ wg h w k 30 ≤ 4) ∧ (0 ≤ wg h w k 39 ∧ wg h w k 39 ≤ 8)
def fIx (h : hS) (w k n : Int) : Int := ix (fun i => wg h w k (6 + i)) n (wg h w k 5).toNat
def sIx (h : hS) (w k n : Int) : Int := ix (fun i => wg h w k (31 + i)) n (wg h w k 30).toNat
def aIx (h : hS) (w k n : Int) : Int := ix (fun i => wg h w k (40 + i)) n (wg h w k 39).toNat
def fAt (h : hS) (w k n : Int) : Int := clb (fun u => decide (fIx h w u n ≠ -1)) (fun u => wg h w u 1) 13 k
def sAt (h : hS) (w k n : Int) : Int := clb (fun u => decide (sIx h w u n ≠ -1)) (fun u => wg h w u 1) 13 k
def aAt (h : hS) (w k n : Int) : Int := clb (fun u => decide (aIx h w u n ≠ -1)) (fun u => wg h w u 1) 13 k
section WFS
variable {h : hS} {w k n : Int} {m : Nat} {r : Int → Nat}
theorem c207_w (W : WF h w m r) (w0 : 0 ≤ w) (w1 : w < 3) (k0 : 0 ≤ k) (k1 : k < m) : c207 w k n h = some (fIx h w k n) := by
  have H := W.2.2 k k0 k1
  have := W.2.1
  exact c207_e w0 w1 k0 (by omega) (by omega) (by omega)
theorem c208_w (W : WF h w m r) (w0 : 0 ≤ w) (w1 : w < 3) (k0 : 0 ≤ k) (k1 : k < m) : c208 w k n h = some (sIx h w k n) := by
  have H := W.2.2 k k0 k1
  have := W.2.1
  exact c208_e w0 w1 k0 (by omega) (by omega) (by omega)
theorem c205_w (W : WF h w m r) (w0 : 0 ≤ w) (w1 : w < 3) (k0 : 0 ≤ k) (k1 : k < m) : c205 w k n h = some (aIx h w k n) := by
  have H := W.2.2 k k0 k1
  have := W.2.1
  exact c205_e w0 w1 k0 (by omega) (by omega) (by omega)
theorem fIx_lt (W : WF h w m r) (k0 : 0 ≤ k) (k1 : k < m) (q : fIx h w k n ≠ -1) : 0 ≤ fIx h w k n ∧ fIx h w k n < wg h w k 5 ∧ wg h w k (6 + fIx h w k n) = n := by
  have H := W.2.2 k k0 k1
  unfold fIx at q ⊢
  rcases ix_b (fun i : Nat => wg h w k (6 + (i : Int))) n (wg h w k 5).toNat with e | ⟨j, e, h1, h2, -⟩
  · exact absurd e q
  · rw [e]
    exact ⟨by omega, by omega, h2⟩
theorem sIx_lt (W : WF h w m r) (k0 : 0 ≤ k) (k1 : k < m) (q : sIx h w k n ≠ -1) : 0 ≤ sIx h w k n ∧ sIx h w k n < wg h w k 30 ∧ wg h w k (31 + sIx h w k n) = n := by
  have H := W.2.2 k k0 k1
  unfold sIx at q ⊢
  rcases ix_b (fun i : Nat => wg h w k (31 + (i : Int))) n (wg h w k 30).toNat with e | ⟨j, e, h1, h2, -⟩
  · exact absurd e q
  · rw [e]
    exact ⟨by omega, by omega, h2⟩
theorem aIx_lt (W : WF h w m r) (k0 : 0 ≤ k) (k1 : k < m) (q : aIx h w k n ≠ -1) : 0 ≤ aIx h w k n ∧ aIx h w k n < wg h w k 39 ∧ wg h w k (40 + aIx h w k n) = n := by
  have H := W.2.2 k k0 k1
  unfold aIx at q ⊢
  rcases ix_b (fun i : Nat => wg h w k (40 + (i : Int))) n (wg h w k 39).toNat with e | ⟨j, e, h1, h2, -⟩
  · exact absurd e q
  · rw [e]
    exact ⟨by omega, by omega, h2⟩
theorem c206_w (W : WF h w m r) (w0 : 0 ≤ w) (w1 : w < 3) (k0 : 0 ≤ k) (k1 : k < m) : c206 w k n h = some (if fIx h w k n = -1 ∧ sIx h w k n = -1 then 0 else 1) := by
  unfold c206
  rw [c207_w W w0 w1 k0 k1]
  simp only [bsome]
  by_cases q : fIx h w k n = -1
  · rw [if_pos q, c208_w W w0 w1 k0 k1]
    simp only [bsome]
    by_cases q2 : sIx h w k n = -1
    · rw [if_pos q2, if_pos ⟨q, q2⟩]
    · rw [if_neg q2, if_neg (fun c => q2 c.2)]
      rfl
  · rw [if_neg q, if_neg (fun c => q c.1)]
    rfl
theorem WF_up (W : WF h w m r) {u : Int} (hu : 0 ≤ u ∧ u < m) : wg h w u 1 = -1 ∨ (0 ≤ wg h w u 1 ∧ wg h w u 1 < m) := by
  rcases (W.2.2 u hu.1 hu.2).2.1 with q | ⟨q1, q2, -⟩
  · exact .inl q
  · exact .inr ⟨q1, q2⟩
theorem c237_w (W : WF h w m r) (w0 : 0 ≤ w) (w1 : w < 3) (hk : k = -1 ∨ (0 ≤ k ∧ k < m)) : c237 w k n h = some (fAt h w k n) := by
  unfold c237
  have hm := W.2.1
  have e := lp_clb (f := fun s => c237_b3 w n h s) (fun u => decide (fIx h w u n ≠ -1)) (fun u => wg h w u 1) r (fun u => 0 ≤ u ∧ u < m) rfl (by
    rintro u ⟨u0, u1⟩
    show c237_b3 w n h u = _
    unfold c237_b3
    rw [if_neg (by omega), c207_w W w0 w1 u0 u1]
    simp only [bsome]
    by_cases q : fIx h w u n = -1
    · rw [if_pos q, if_neg (by simp [q]), c199_e w0 w1 u0 (by omega) (by omega) (by omega)]
      rfl
    · rw [if_neg q, if_pos (by simp [q])]) (by
    rintro u ⟨u0, u1⟩
    rcases (W.2.2 u u0 u1).2.1 with q | ⟨q1, q2, q3⟩
    · exact .inl q
    · exact .inr ⟨⟨q1, q2⟩, q3⟩) (by rintro u ⟨u0, u1⟩; omega) 12 hF0 k (by
    rcases hk with q | ⟨q1, q2⟩
    · exact .inl q
    · exact .inr ⟨⟨q1, q2⟩, (W.2.2 k q1 q2).1⟩) (hF0_lt (by omega))
  rw [e]
  rfl
theorem c248_w (W : WF h w m r) (w0 : 0 ≤ w) (w1 : w < 3) (hk : k = -1 ∨ (0 ≤ k ∧ k < m)) : c248 w k n h = some (sAt h w k n) := by
  unfold c248
  have hm := W.2.1
  have e := lp_clb (f := fun s => c248_b3 w n h s) (fun u => decide (sIx h w u n ≠ -1)) (fun u => wg h w u 1) r (fun u => 0 ≤ u ∧ u < m) rfl (by
    rintro u ⟨u0, u1⟩
    show c248_b3 w n h u = _
    unfold c248_b3
    rw [if_neg (by omega), c208_w W w0 w1 u0 u1]
    simp only [bsome]
    by_cases q : sIx h w u n = -1
    · rw [if_pos q, if_neg (by simp [q]), c199_e w0 w1 u0 (by omega) (by omega) (by omega)]
      rfl
    · rw [if_neg q, if_pos (by simp [q])]) (by
    rintro u ⟨u0, u1⟩
    rcases (W.2.2 u u0 u1).2.1 with q | ⟨q1, q2, q3⟩
    · exact .inl q
    · exact .inr ⟨⟨q1, q2⟩, q3⟩) (by rintro u ⟨u0, u1⟩; omega) 12 hF0 k (by
    rcases hk with q | ⟨q1, q2⟩
    · exact .inl q
    · exact .inr ⟨⟨q1, q2⟩, (W.2.2 k q1 q2).1⟩) (hF0_lt (by omega))
  rw [e]
  rfl
theorem fAt_b (W : WF h w m r) (hk : k = -1 ∨ (0 ≤ k ∧ k < m)) : fAt h w k n = -1 ∨ ((0 ≤ fAt h w k n ∧ fAt h w k n < m) ∧ fIx h w (fAt h w k n) n ≠ -1) := by
  rcases clb_b (fun u => decide (fIx h w u n ≠ -1)) (fun u => wg h w u 1) (fun u => 0 ≤ u ∧ u < (m : Int)) (fun u hu => WF_up W hu) 13 k hk with q | ⟨q1, q2⟩
  · exact .inl q
  · exact .inr ⟨q1, of_decide_eq_true q2⟩
theorem sAt_b (W : WF h w m r) (hk : k = -1 ∨ (0 ≤ k ∧ k < m)) : sAt h w k n = -1 ∨ ((0 ≤ sAt h w k n ∧ sAt h w k n < m) ∧ sIx h w (sAt h w k n) n ≠ -1) := by
  rcases clb_b (fun u => decide (sIx h w u n ≠ -1)) (fun u => wg h w u 1) (fun u => 0 ≤ u ∧ u < (m : Int)) (fun u hu => WF_up W hu) 13 k hk with q | ⟨q1, q2⟩
  · exact .inl q
  · exact .inr ⟨q1, of_decide_eq_true q2⟩
theorem aAt_b (W : WF h w m r) (hk : k = -1 ∨ (0 ≤ k ∧ k < m)) : aAt h w k n = -1 ∨ ((0 ≤ aAt h w k n ∧ aAt h w k n < m) ∧ aIx h w (aAt h w k n) n ≠ -1) := by
  rcases clb_b (fun u => decide (aIx h w u n ≠ -1)) (fun u => wg h w u 1) (fun u => 0 ≤ u ∧ u < (m : Int)) (fun u hu => WF_up W hu) 13 k hk with q | ⟨q1, q2⟩
  · exact .inl q
  · exact .inr ⟨q1, of_decide_eq_true q2⟩
end WFS
theorem c191_e {a b c : Int} {h : hS} : c191 a b c h = some (if b ≤ a ∧ a ≤ c then 1 else 0) := by
  unfold c191
  by_cases q1 : a < b
  · rw [if_pos q1, if_neg (by omega)]
  · rw [if_neg q1]
    by_cases q2 : c < a
    · rw [if_pos q2, if_neg (by omega)]
    · rw [if_neg q2, if_pos (by omega)]
