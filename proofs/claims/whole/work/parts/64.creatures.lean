/-! the creatures of both sides -/
/-- the cells of the creatures: those that live, and those that a patch carries -/
def SHc (h : hS) (a c : Nat) : Prop := hT h a = 16 ∧ hR h a 3 = a + 1 ∧ hR h a 4 = a + 2 ∧ hR h a 5 = a + 3 ∧ (hT h (a + 1) = 1 ∧ hT h (a + 2) = 3 ∧ hT h (a + 3) = 1) ∧ (hL h (a + 1) = 40 ∧ hL h (a + 2) = 40 ∧ hL h (a + 3) = 40) ∧ hI h a 0 = c
def SH (h : hS) : Prop := (∀ c : Nat, c < 40 → hR h 19 c = 215 + 4 * c ∧ SHc h (215 + 4 * c) c) ∧ (∀ c : Nat, c < 40 → hR h 49 c = 53 + 4 * c ∧ SHc h (53 + 4 * c) c)
/-- a creature: living, its kind, its values, what it has lost -/
def C1 (hc hr : hS) (p m : Nat) (c : Nat) : Prop :=
  (0 ≤ hI hr 404 c ∧ hI hr 404 c < m ∧ hR hc (215 + 4 * c) 2 = kd hc p (hI hr 404 c)) ∧ ∀ n : Nat, n < 40 → (fAt hr 0 (hI hr 404 c) n ≠ -1 → hI hc (215 + 4 * c + 1) n = hI hr 405 (40 * c + n)) ∧ (hI hc (215 + 4 * c + 2) n = 0 ∨ hI hc (215 + 4 * c + 2) n = 1) ∧ hI hr 407 (40 * c + n) = hI hc (215 + 4 * c + 2) n ∧ (hI hc (215 + 4 * c + 2) n = 1 → hI hc (215 + 4 * c + 3) n = hI hr 406 (40 * c + n))
def CR (hc hr : hS) (p m q : Nat) : Prop := hI hc 8 8 = q ∧ hI hr 395 33 = q ∧ q ≤ 40 ∧ ∀ c : Nat, c < 40 → (hI hc (215 + 4 * c) 1 = 0 ∨ hI hc (215 + 4 * c) 1 = 1) ∧ (c < q → hI hr 403 c = hI hc (215 + 4 * c) 1) ∧ (q ≤ c → hI hc (215 + 4 * c) 1 = 0) ∧ (hI hc (215 + 4 * c) 1 = 1 → C1 hc hr p m c)
section CRS
variable {hc hr : hS} {C : Nat → Int → Prop} {p m q : Nat} {r : Int → Nat}
/-- does creature n live -/
def lvs (h : hS) (n : Int) : Bool := decide (0 ≤ n ∧ n < 40) && decide (hI h (215 + 4 * n.toNat) 1 = 1)
theorem c103_e (S : SH hc) (R : CR hc hr p m q) (n : Int) : c103 n hc = some (if lvs hc n = true then 1 else 0) := by
  unfold c103 lvs
  by_cases a : n < 0
  · rw [if_pos a, if_neg (by simp; omega)]
  · rw [if_neg a]
    by_cases b : 40 ≤ n
    · rw [if_pos b, if_neg (by simp; omega)]
    · rw [if_neg b, aRs_s (by omega) (by omega)]
      simp only [bsome]
      have hs := S.1 n.toNat (by omega)
      rw [hs.1, gI_s hs.2.1]
      simp only [bsome]
      have hq := (R.2.2.2 n.toNat (by omega)).1
      rcases hq with e | e
      · rw [e, if_pos rfl, if_neg (by simp)]
      · rw [e, if_neg (by omega), if_pos (by simp; omega)]
theorem c241_e (R : CR hc hr p m q) (n : Int) : c241 n hr = some (if lvs hc n = true then 1 else 0) := by
  obtain ⟨r1, r2, r3, r4⟩ := R
  unfold c241
  rw [r2, wsub_e (by omega) (by omega), c191_e]
  simp only [bsome]
  by_cases a : 0 ≤ n ∧ n ≤ (q : Int) - 1
  · rw [if_pos a, if_neg (by omega), aIs_s (by omega) (by omega)]
    simp only [bsome]
    obtain ⟨s1, s2, s3, s4⟩ := r4 n.toNat (by omega)
    rw [s2 (by omega)]
    unfold lvs
    rcases s1 with e | e
    · rw [e, if_pos rfl, if_neg (by simp)]
    · rw [e, if_neg (by omega), if_pos (by simp; omega)]
  · rw [if_neg a, if_pos rfl]
    unfold lvs
    by_cases b : 0 ≤ n ∧ n < 40
    · have := (r4 n.toNat (by omega)).2.2.1 (by omega)
      rw [if_neg (by simp [this])]
    · rw [if_neg (by simp; omega)]
theorem lvs_b {h : hS} {n : Int} (e : lvs h n = true) : (0 ≤ n ∧ n < 40) ∧ hI h (215 + 4 * n.toNat) 1 = 1 := by
  unfold lvs at e
  rw [Bool.and_eq_true] at e
  exact ⟨of_decide_eq_true e.1, of_decide_eq_true e.2⟩
theorem lvs_1 (R : CR hc hr p m q) {n : Int} (e : lvs hc n = true) : C1 hc hr p m n.toNat ∧ n < q := by
  obtain ⟨h1, h2⟩ := lvs_b e
  obtain ⟨s1, s2, s3, s4⟩ := R.2.2.2 n.toNat (by omega)
  refine ⟨s4 h2, ?_⟩
  by_cases a : n < (q : Int)
  · exact a
  · have := s3 (by omega)
    omega
/-- kindOf, generation, has, value -/
theorem api9 (S : SH hc) (P : PW hc hr C p 0 m r) (R : CR hc hr p m q) (n : Int) : ∃ v, c102 n hc = some v ∧ c240 n hr = some v := by
  have hm := P.1.2.1
  unfold c102 c240
  rw [c103_e S R, c241_e R]
  simp only [bsome]
  by_cases a : lvs hc n = true
  · obtain ⟨⟨⟨k0, k1, k2⟩, -⟩, hq⟩ := lvs_1 R a
    obtain ⟨⟨n0, n1⟩, -⟩ := lvs_b a
    have hs := S.1 n.toNat (by omega)
    have K := P.2.2.1 _ k0 k1
    rw [if_pos a, if_neg (by omega), if_neg (by omega), aRs_s (by omega) (by omega), aIs_s (by omega) (by omega)]
    simp only [bsome]
    rw [hs.1, gR_s hs.2.1]
    simp only [bsome]
    rw [k2, gI_s K.1.2.2.1, c199_e (by omega) (by omega) k0 (by omega) (by omega) (by omega)]
    simp only [bsome]
    exact ⟨_, rfl, by rw [K.2.1.1]⟩
  · rw [if_neg a, if_pos rfl, if_pos rfl]
    exact ⟨_, rfl, rfl⟩
theorem api10 (S : SH hc) (P : PW hc hr C p 0 m r) (R : CR hc hr p m q) (n : Int) : ∃ v, c104 n hc = some v ∧ c242 n hr = some v := by
  have hm := P.1.2.1
  unfold c104 c242
  rw [c103_e S R, c241_e R]
  simp only [bsome]
  by_cases a : lvs hc n = true
  · obtain ⟨⟨⟨k0, k1, k2⟩, -⟩, hq⟩ := lvs_1 R a
    obtain ⟨⟨n0, n1⟩, -⟩ := lvs_b a
    have hs := S.1 n.toNat (by omega)
    have K := P.2.2.1 _ k0 k1
    rw [if_pos a, if_neg (by omega), if_neg (by omega), aRs_s (by omega) (by omega), aIs_s (by omega) (by omega)]
    simp only [bsome]
    rw [hs.1, gR_s hs.2.1]
    simp only [bsome]
    rw [k2, gI_s K.1.2.2.1, c199_e (by omega) (by omega) k0 (by omega) (by omega) (by omega)]
    simp only [bsome]
    exact ⟨_, rfl, by rw [K.2.2.2.1]⟩
  · rw [if_neg a, if_pos rfl, if_pos rfl]
    exact ⟨_, rfl, rfl⟩
end CRS
