/-! the class's kinds and ponds beside the other side's worlds -/
/-- the rows of a kind: slot, place behind the kind, tag, length -/
def karL : List (Nat × Nat × Nat × Nat) := [(5, 1, 1, 8), (6, 2, 1, 8), (7, 3, 1, 8), (9, 4, 1, 4), (10, 5, 1, 4), (12, 6, 1, 8), (13, 7, 21, 8), (14, 8, 3, 40), (15, 9, 17, 40), (16, 10, 1, 40), (17, 11, 17, 40), (18, 12, 1, 40)]
def KD (h : hS) (k : Nat) : Prop := 448 ≤ k ∧ k + 12 < hN h ∧ hT h k = 24 ∧ ∀ e ∈ karL, hR h k e.1 = k + e.2.1 ∧ hT h (k + e.2.1) = e.2.2.1 ∧ hL h (k + e.2.1) = e.2.2.2
theorem KD_at {h : hS} {k : Nat} (K : KD h k) {i : Nat} {e : Nat × Nat × Nat × Nat} (hi : karL[i]? = some e) : hR h k e.1 = k + e.2.1 ∧ hT h (k + e.2.1) = e.2.2.1 ∧ hL h (k + e.2.1) = e.2.2.2 := K.2.2.2 e (List.mem_of_getElem? hi)
theorem KD5 {h : hS} {k : Nat} (K : KD h k) : hR h k 5 = k + 1 ∧ hT h (k + 1) = 1 ∧ hL h (k + 1) = 8 := KD_at K (i := 0) rfl
theorem KD6 {h : hS} {k : Nat} (K : KD h k) : hR h k 6 = k + 2 ∧ hT h (k + 2) = 1 ∧ hL h (k + 2) = 8 := KD_at K (i := 1) rfl
theorem KD7 {h : hS} {k : Nat} (K : KD h k) : hR h k 7 = k + 3 ∧ hT h (k + 3) = 1 ∧ hL h (k + 3) = 8 := KD_at K (i := 2) rfl
theorem KD9 {h : hS} {k : Nat} (K : KD h k) : hR h k 9 = k + 4 ∧ hT h (k + 4) = 1 ∧ hL h (k + 4) = 4 := KD_at K (i := 3) rfl
theorem KD10 {h : hS} {k : Nat} (K : KD h k) : hR h k 10 = k + 5 ∧ hT h (k + 5) = 1 ∧ hL h (k + 5) = 4 := KD_at K (i := 4) rfl
theorem KD12 {h : hS} {k : Nat} (K : KD h k) : hR h k 12 = k + 6 ∧ hT h (k + 6) = 1 ∧ hL h (k + 6) = 8 := KD_at K (i := 5) rfl
theorem KD13 {h : hS} {k : Nat} (K : KD h k) : hR h k 13 = k + 7 ∧ hT h (k + 7) = 21 ∧ hL h (k + 7) = 8 := KD_at K (i := 6) rfl
theorem KD14 {h : hS} {k : Nat} (K : KD h k) : hR h k 14 = k + 8 ∧ hT h (k + 8) = 3 ∧ hL h (k + 8) = 40 := KD_at K (i := 7) rfl
theorem KD15 {h : hS} {k : Nat} (K : KD h k) : hR h k 15 = k + 9 ∧ hT h (k + 9) = 17 ∧ hL h (k + 9) = 40 := KD_at K (i := 8) rfl
theorem KD16 {h : hS} {k : Nat} (K : KD h k) : hR h k 16 = k + 10 ∧ hT h (k + 10) = 1 ∧ hL h (k + 10) = 40 := KD_at K (i := 9) rfl
theorem KD17 {h : hS} {k : Nat} (K : KD h k) : hR h k 17 = k + 11 ∧ hT h (k + 11) = 17 ∧ hL h (k + 11) = 40 := KD_at K (i := 10) rfl
theorem KD18 {h : hS} {k : Nat} (K : KD h k) : hR h k 18 = k + 12 ∧ hT h (k + 12) = 1 ∧ hL h (k + 12) = 40 := KD_at K (i := 11) rfl
/-- the object of the kind number u of the pond p; null for -1 -/
def kd (h : hS) (p : Nat) (u : Int) : Nat := if u = -1 then 0 else hR h (p + 1) u.toNat
/-- one kind: what it is called, what is above, its generation, its own members -/
def KR (hc hr : hS) (C : Nat → Int → Prop) (p : Nat) (w : Int) (j : Int) : Prop :=
  KD hc (kd hc p j) ∧ (hI hc (kd hc p j) 0 = wg hr w j 0 ∧ 0 ≤ wg hr w j 0 ∧ wg hr w j 0 < 40) ∧ hR hc (kd hc p j) 1 = kd hc p (wg hr w j 1) ∧ hI hc (kd hc p j) 2 = wg hr w j 2 ∧
  (hI hc (kd hc p j) 4 = wg hr w j 5 ∧ ∀ i : Nat, (i : Int) < wg hr w j 5 → hI hc (kd hc p j + 1) i = wg hr w j (6 + i) ∧ hI hc (kd hc p j + 2) i = wg hr w j (14 + i) ∧ 0 ≤ wg hr w j (6 + i) ∧ wg hr w j (6 + i) < 40) ∧
  (hI hc (kd hc p j) 8 = wg hr w j 30 ∧ ∀ i : Nat, (i : Int) < wg hr w j 30 → hI hc (kd hc p j + 4) i = wg hr w j (31 + i) ∧ hI hc (kd hc p j + 5) i = wg hr w j (35 + i) ∧ 0 ≤ wg hr w j (31 + i) ∧ wg hr w j (31 + i) < 40) ∧
  (hI hc (kd hc p j) 11 = wg hr w j 39 ∧ ∀ i : Nat, (i : Int) < wg hr w j 39 → hI hc (kd hc p j + 6) i = wg hr w j (40 + i) ∧ C (hR hc (kd hc p j + 7) i) (wg hr w j (48 + i)) ∧ 0 ≤ wg hr w j (40 + i) ∧ wg hr w j (40 + i) < 40)
/-- a pond beside a world -/
def PW (hc hr : hS) (C : Nat → Int → Prop) (p : Nat) (w : Int) (m : Nat) (r : Int → Nat) : Prop :=
  WF hr w m r ∧ (213 ≤ p ∧ p + 1 < hN hc ∧ hT hc p = 18 ∧ hR hc p 0 = p + 1 ∧ hT hc (p + 1) = 17 ∧ hL hc (p + 1) = 12 ∧ hI hc p 1 = m) ∧ (∀ j : Int, 0 ≤ j → j < m → KR hc hr C p w j) ∧ (∀ i j : Int, 0 ≤ i → i < m → 0 ≤ j → j < m → wg hr w i 0 = wg hr w j 0 → i = j)
/-- what the names mean, worked out -/
def TB (hc hr : hS) (p : Nat) (w : Int) (m : Nat) : Prop := ∀ j : Int, 0 ≤ j → j < m → ∀ n : Nat, n < 40 →
  hI hc (kd hc p j + 8) n = (if fAt hr w j n = -1 then 0 else 1) ∧
  (hR hc (kd hc p j + 9) n = kd hc p (sAt hr w j n) ∧ (sAt hr w j n ≠ -1 → hI hc (kd hc p j + 10) n = sIx hr w (sAt hr w j n) n)) ∧
  (hR hc (kd hc p j + 11) n = kd hc p (aAt hr w j n) ∧ (aAt hr w j n ≠ -1 → hI hc (kd hc p j + 12) n = aIx hr w (aAt hr w j n) n))
theorem lp_ixv {α : Type} {f : Int → Option (Int ⊕ (Unit ⊕ α))} (g : Nat → Int) (v : Int → α) (n : Int) (c : Nat) (step : ∀ i : Nat, i < c → f (i : Int) = if g i = n then some (.inr (.inr (v i))) else some (.inl ((i : Int) + 1))) (stop : f (c : Int) = some (.inr (.inl ()))) : ∀ (m i N : Nat), i + m = c → m < N → lp f N (i : Int) = some (if ixf g n i m = -1 then .inl () else .inr (v (ixf g n i m)))
  | 0, i, N, h1, h2 => by
    obtain ⟨N, rfl⟩ : ∃ N1, N = N1 + 1 := ⟨N - 1, by omega⟩
    have : i = c := by omega
    subst this
    rw [lp_d stop]
    rfl
  | m + 1, i, N, h1, h2 => by
    obtain ⟨N, rfl⟩ : ∃ N1, N = N1 + 1 := ⟨N - 1, by omega⟩
    have hs := step i (by omega)
    unfold ixf
    by_cases q : g i = n
    · rw [if_pos q] at hs
      rw [lp_d hs, if_pos q, if_neg (by omega)]
    · rw [if_neg q] at hs
      rw [lp_n hs, if_neg q]
      have := lp_ixv g v n c step stop m (i + 1) N (by omega) (by omega)
      rw [show ((i : Int) + 1) = ((i + 1 : Nat) : Int) by omega]
      exact this
section PWS
variable {hc hr : hS} {C : Nat → Int → Prop} {p m : Nat} {w : Int} {r : Int → Nat}
theorem kd_8 (P : PW hc hr C p w m r) {j : Int} (j0 : 0 ≤ j) (j1 : j < m) : 448 ≤ kd hc p j := (P.2.2.1 j j0 j1).1.1
theorem kd_n {h : hS} {j : Int} (j0 : 0 ≤ j) : kd h p j = hR h (p + 1) j.toNat := if_neg (by omega)
/-- find -/
theorem c47_e (P : PW hc hr C p w m r) (n : Int) : c47 p n hc = some (kd hc p (ix (fun j => wg hr w j 0) n m)) := by
  obtain ⟨W, ⟨p1, p2, p3, p4, p5, p6, p7⟩, P3, P4⟩ := P
  have hm := W.2.1
  unfold c47
  have e := lp_ixv (f := fun s => c47_b2 p n hc s) (fun j => wg hr w j 0) (fun u => kd hc p u) n m (by
    intro i hi
    show c47_b2 p n hc i = _
    unfold c47_b2
    have K := P3 (i : Int) (by omega) (by omega)
    have ek : kd hc p (i : Int) = hR hc (p + 1) i := kd_n (by omega)
    rw [gI_s p3]
    simp only [bsome]
    rw [p7, if_neg (by omega), gR_s p3]
    simp only [bsome]
    rw [p4, aR_s p5 (by omega) (by omega)]
    simp only [bsome, Int.toNat_natCast]
    rw [← ek, gI_s K.1.2.2.1]
    simp only [bsome]
    rw [K.2.1.1, wadd_e (by omega) (by omega)]) (by
    show c47_b2 p n hc m = _
    unfold c47_b2
    rw [gI_s p3]
    simp only [bsome]
    rw [p7, if_pos (by omega)]) m 0 hF0 (by omega) (hF0_lt (by omega))
  have e : lp (fun s => c47_b2 p n hc s) hF0 0 = _ := e
  rw [e]
  simp only [bsome]
  by_cases q : ix (fun j : Nat => wg hr w (j : Int) 0) n m = -1
  · have q' : ixf (fun j : Nat => wg hr w (j : Int) 0) n 0 m = -1 := q
    rw [if_pos q', q]
    rfl
  · have q' : ¬ ixf (fun j : Nat => wg hr w (j : Int) 0) n 0 m = -1 := q
    rw [if_neg q']
    rfl
theorem ix_kind (P : PW hc hr C p w m r) (n : Int) : ix (fun j : Nat => wg hr w (j : Int) 0) n m = -1 ∨ (0 ≤ ix (fun j : Nat => wg hr w (j : Int) 0) n m ∧ ix (fun j : Nat => wg hr w (j : Int) 0) n m < m) := by
  rcases ix_b (fun j : Nat => wg hr w (j : Int) 0) n m with e | ⟨j, e, h1, -⟩
  · exact .inl e
  · exact .inr ⟨by omega, by omega⟩
end PWS
/-- hasField, holderOfStatic, holderOfAct -/
theorem c106_e {h : hS} {k : Nat} {n : Int} (K : KD h k) : c106 k n h = some (if (0 ≤ n ∧ n < 40) ∧ hI h (k + 8) n.toNat ≠ 0 then 1 else 0) := by
  obtain ⟨q1, q2, q3⟩ := KD14 K
  unfold c106
  by_cases a : n < 0
  · rw [if_pos a, if_neg (by omega)]
  · rw [if_neg a]
    by_cases b : 40 ≤ n
    · rw [if_pos b, if_neg (by omega)]
    · rw [if_neg b, gR_s K.2.2.1]
      simp only [bsome]
      rw [q1, aI_s q2 (by omega) (by rw [q3]; omega)]
      simp only [bsome]
      by_cases c : hI h (k + 8) n.toNat = 0
      · rw [if_pos c, if_neg (fun d => d.2 c)]
      · rw [if_neg c, if_pos ⟨by omega, c⟩]
theorem c111_e {h : hS} {k : Nat} {n : Int} (K : KD h k) : c111 k n h = some (if 0 ≤ n ∧ n < 40 then hR h (k + 9) n.toNat else 0) := by
  obtain ⟨q1, q2, q3⟩ := KD15 K
  unfold c111
  by_cases a : n < 0
  · rw [if_pos a, if_neg (by omega)]; rfl
  · rw [if_neg a]
    by_cases b : 40 ≤ n
    · rw [if_pos b, if_neg (by omega)]; rfl
    · rw [if_neg b, gR_s K.2.2.1]
      simp only [bsome]
      rw [q1, aR_s q2 (by omega) (by rw [q3]; omega), if_pos ⟨by omega, by omega⟩]
      rfl
theorem c115_e {h : hS} {k : Nat} {n : Int} (K : KD h k) : c115 k n h = some (if 0 ≤ n ∧ n < 40 then hR h (k + 11) n.toNat else 0) := by
  obtain ⟨q1, q2, q3⟩ := KD17 K
  unfold c115
  by_cases a : n < 0
  · rw [if_pos a, if_neg (by omega)]; rfl
  · rw [if_neg a]
    by_cases b : 40 ≤ n
    · rw [if_pos b, if_neg (by omega)]; rfl
    · rw [if_neg b, gR_s K.2.2.1]
      simp only [bsome]
      rw [q1, aR_s q2 (by omega) (by rw [q3]; omega), if_pos ⟨by omega, by omega⟩]
      rfl
