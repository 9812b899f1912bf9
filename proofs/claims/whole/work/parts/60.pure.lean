/-! pure reckoning over the heap -/
theorem wadd_e {x y : Int} (h1 : -2147483648 ≤ x + y) (h2 : x + y < 2147483648) : wadd x y = x + y := by
  unfold wadd
  rw [← Int32.ofInt_add]
  exact Int32.toInt_ofInt_of_le h1 h2
theorem wsub_e {x y : Int} (h1 : -2147483648 ≤ x - y) (h2 : x - y < 2147483648) : wsub x y = x - y := by
  unfold wsub
  rw [← Int32.ofInt_sub]
  exact Int32.toInt_ofInt_of_le h1 h2
theorem wmul_e {x y : Int} (h1 : -2147483648 ≤ x * y) (h2 : x * y < 2147483648) : wmul x y = x * y := by
  unfold wmul
  rw [← Int32.ofInt_mul]
  exact Int32.toInt_ofInt_of_le h1 h2
theorem wneg_e {x : Int} (h1 : -2147483648 ≤ -x) (h2 : -x < 2147483648) : wneg x = -x := by
  unfold wneg
  rw [← Int32.ofInt_neg]
  exact Int32.toInt_ofInt_of_le h1 h2
theorem wdiv_e {x y : Int} (h1 : 0 ≤ x) (h2 : x < 2147483648) (h3 : 0 < y) (h4 : y < 2147483648) : wdiv x y = x / y := by
  unfold wdiv
  have e : Int32.ofInt x / Int32.ofInt y = Int32.ofInt (x / y) := by
    rw [← Int.tdiv_eq_ediv_of_nonneg h1]
    refine (Int32.ofInt_tdiv ?_ ?_ ?_ ?_).symm
    · show (-2147483648 : Int) ≤ x; omega
    · show x ≤ (2147483647 : Int); omega
    · show (-2147483648 : Int) ≤ y; omega
    · show y ≤ (2147483647 : Int); omega
  rw [e]
  have q1 : 0 ≤ x / y := Int.ediv_nonneg h1 (by omega)
  have q2 : x / y ≤ x := Int.ediv_le_self _ h1
  exact Int32.toInt_ofInt_of_le (by omega) (by omega)
theorem wrem_e {x y : Int} (h1 : 0 ≤ x) (h2 : x < 2147483648) (h3 : 0 < y) (h4 : y < 2147483648) : wrem x y = x % y := by
  have e := wdiv_e h1 h2 h3 h4
  unfold wdiv at e
  unfold wrem
  have e2 : Int32.ofInt x / Int32.ofInt y = Int32.ofInt (x / y) := by
    rw [← e, Int32.ofInt_toInt]
  rw [e2, ← Int32.ofInt_mul, ← Int32.ofInt_sub]
  have q : x - x / y * y = x % y := by
    have := Int.emod_add_mul_ediv x y
    rw [Int.mul_comm] at this
    omega
  rw [q]
  have q1 := Int.emod_nonneg x (show y ≠ 0 by omega)
  have q2 := Int.emod_lt_of_pos x h3
  exact Int32.toInt_ofInt_of_le (by omega) (by omega)
theorem wmax_e {x y : Int} (hx : rg x) (hy : rg y) : wmax x y = if x < y then y else x := by
  unfold wmax mm_max
  by_cases q : x < y
  · rw [if_pos q, if_pos (Int32.lt_iff_toInt_lt.mpr (by rw [hx, hy]; exact q))]
    exact hy
  · rw [if_neg q, if_neg (fun c => q (by have := Int32.lt_iff_toInt_lt.mp c; rw [hx, hy] at this; exact this))]
    exact hx
theorem wmin_e {x y : Int} (hx : rg x) (hy : rg y) : wmin x y = if y < x then y else x := by
  unfold wmin mm_min
  by_cases q : y < x
  · rw [if_pos q, if_pos (Int32.lt_iff_toInt_lt.mpr (by rw [hx, hy]; exact q))]
    exact hy
  · rw [if_neg q, if_neg (fun c => q (by have := Int32.lt_iff_toInt_lt.mp c; rw [hx, hy] at this; exact this))]
    exact hx
theorem wbol_0 : wbol 0 = 0 := rfl
theorem wbol_1 : wbol 1 = 1 := rfl
theorem wbol_e {v : Int} (h : v = 0 ∨ v = 1) : wbol v = v := by rcases h with rfl | rfl <;> rfl
/-! reads behind writes -/
section HRW
variable {h : hS} {x i : Nat}
theorem hI_sI {v : Int} {y j : Nat} : hI (sI h x i v) y j = if y = x ∧ j = i then v else hI h y j := rfl
theorem hI_sR {v : Nat} {y j : Nat} : hI (sR h x i v) y j = hI h y j := rfl
theorem hI_sJ {v : Int64} {y j : Nat} : hI (sJ h x i v) y j = hI h y j := rfl
theorem hR_sI {v : Int} {y j : Nat} : hR (sI h x i v) y j = hR h y j := rfl
theorem hR_sR {v : Nat} {y j : Nat} : hR (sR h x i v) y j = if y = x ∧ j = i then v else hR h y j := rfl
theorem hR_sJ {v : Int64} {y j : Nat} : hR (sJ h x i v) y j = hR h y j := rfl
theorem hJ_sI {v : Int} {y j : Nat} : hJ (sI h x i v) y j = hJ h y j := rfl
theorem hJ_sR {v : Nat} {y j : Nat} : hJ (sR h x i v) y j = hJ h y j := rfl
theorem hJ_sJ {v : Int64} {y j : Nat} : hJ (sJ h x i v) y j = if y = x ∧ j = i then v else hJ h y j := rfl
theorem hT_sI {v : Int} {y : Nat} : hT (sI h x i v) y = hT h y := rfl
theorem hT_sR {v : Nat} {y : Nat} : hT (sR h x i v) y = hT h y := rfl
theorem hT_sJ {v : Int64} {y : Nat} : hT (sJ h x i v) y = hT h y := rfl
theorem hL_sI {v : Int} {y : Nat} : hL (sI h x i v) y = hL h y := rfl
theorem hL_sR {v : Nat} {y : Nat} : hL (sR h x i v) y = hL h y := rfl
theorem hL_sJ {v : Int64} {y : Nat} : hL (sJ h x i v) y = hL h y := rfl
theorem hN_sI {v : Int} : hN (sI h x i v) = hN h := rfl
theorem hN_sR {v : Nat} : hN (sR h x i v) = hN h := rfl
theorem hN_sJ {v : Int64} : hN (sJ h x i v) = hN h := rfl
theorem hM_sI {v : Int} : hM (sI h x i v) = hM h := rfl
theorem hM_sR {v : Nat} : hM (sR h x i v) = hM h := rfl
theorem hM_sJ {v : Int64} : hM (sJ h x i v) = hM h := rfl
theorem hI_mk {t n y j : Nat} : hI (mkH h t n) y j = if y = hN h then 0 else hI h y j := rfl
theorem hR_mk {t n y j : Nat} : hR (mkH h t n) y j = if y = hN h then 0 else hR h y j := rfl
theorem hJ_mk {t n y j : Nat} : hJ (mkH h t n) y j = if y = hN h then 0 else hJ h y j := rfl
theorem hT_mk {t n y : Nat} : hT (mkH h t n) y = if y = hN h then t else hT h y := rfl
theorem hL_mk {t n y : Nat} : hL (mkH h t n) y = if y = hN h then n else hL h y := rfl
theorem hN_mk {t n : Nat} : hN (mkH h t n) = hN h + 1 := rfl
theorem hM_mk {t n : Nat} : hM (mkH h t n) = hM h + n := rfl
/-! reads and writes that stay within -/
theorem gI_s {t b : Nat} (q : hT h x = t) : gI h x t b = some (hI h x b) := if_pos q
theorem gR_s {t b : Nat} (q : hT h x = t) : gR h x t b = some (hR h x b) := if_pos q
theorem pI_s {t b : Nat} {v : Int} (q : hT h x = t) : pI h x t b v = some (sI h x b v) := if_pos q
theorem pR_s {t b v : Nat} (q : hT h x = t) : pR h x t b v = some (sR h x b v) := if_pos q
theorem kT_s {t : Nat} (q : hT h x = t) : kT h x t = some () := if_pos q
theorem k8_s (q : 8 ≤ x) : k8 x = some () := if_pos q
theorem kB_s {v : Int} (q : v = 0 ∨ v = 1) : kB v = some () := if_pos q
theorem aI_s {t : Nat} {i : Int} (q : hT h x = t) (q0 : 0 ≤ i) (q1 : i < (hL h x : Int)) : aI h x t i = some (hI h x i.toNat) := if_pos ⟨q, q0, q1⟩
theorem aR_s {t : Nat} {i : Int} (q : hT h x = t) (q0 : 0 ≤ i) (q1 : i < (hL h x : Int)) : aR h x t i = some (hR h x i.toNat) := if_pos ⟨q, q0, q1⟩
theorem aIs_s {n : Nat} {i : Int} (q0 : 0 ≤ i) (q1 : i < (n : Int)) : aIs h x n i = some (hI h x i.toNat) := if_pos ⟨q0, q1⟩
theorem aRs_s {n : Nat} {i : Int} (q0 : 0 ≤ i) (q1 : i < (n : Int)) : aRs h x n i = some (hR h x i.toNat) := if_pos ⟨q0, q1⟩
theorem aJs_s {n : Nat} {i : Int} (q0 : 0 ≤ i) (q1 : i < (n : Int)) : aJs h x n i = some (hJ h x i.toNat) := if_pos ⟨q0, q1⟩
theorem wI_s {t : Nat} {i v : Int} (q : hT h x = t) (q0 : 0 ≤ i) (q1 : i < (hL h x : Int)) : wI h x t i v = some (sI h x i.toNat v) := if_pos ⟨q, q0, q1⟩
theorem wIs_s {n : Nat} {i v : Int} (q0 : 0 ≤ i) (q1 : i < (n : Int)) : wIs h x n i v = some (sI h x i.toNat v) := if_pos ⟨q0, q1⟩
theorem wJs_s {n : Nat} {i : Int} {v : Int64} (q0 : 0 ≤ i) (q1 : i < (n : Int)) : wJs h x n i v = some (sJ h x i.toNat v) := if_pos ⟨q0, q1⟩
theorem lA_s {t : Nat} (q : hT h x = t) : lA h x t = some (hL h x : Int) := if_pos q
theorem hnul_0 : hnul 0 = some true := rfl
theorem hnul_8 (q : 8 ≤ x) : hnul x = some false := by unfold hnul; rw [rv_ge q]
end HRW
theorem xs_il {α β γ : Type} {x : α} {f : α → γ} {g : β → γ} : xs (.inl x) f g = f x := rfl
theorem xs_ir {α β γ : Type} {y : β} {f : α → γ} {g : β → γ} : xs (.inr y) f g = g y := rfl
theorem bsome {α β : Type} {x : α} {f : α → Option β} : (some x).bind f = f x := rfl
/-! loops -/
theorem lp_n {σ ρ : Type} {f : σ → Option (σ ⊕ ρ)} {n : Nat} {s s' : σ} (e : f s = some (.inl s')) : lp f (n + 1) s = lp f n s' := by
  show (match f s with | none => none | some (.inl s') => lp f n s' | some (.inr r) => some r) = _
  rw [e]
theorem lp_d {σ ρ : Type} {f : σ → Option (σ ⊕ ρ)} {n : Nat} {s : σ} {r : ρ} (e : f s = some (.inr r)) : lp f (n + 1) s = some r := by
  show (match f s with | none => none | some (.inl s') => lp f n s' | some (.inr r) => some r) = _
  rw [e]
/-- a loop with a measure: I says how many turns are left at most -/
theorem lp_inv {σ ρ : Type} {f : σ → Option (σ ⊕ ρ)} (I : Nat → σ → Prop) (Q : ρ → Prop) (step : ∀ m s, I m s → (∃ r, f s = some (.inr r) ∧ Q r) ∨ (∃ s' m', f s = some (.inl s') ∧ m' < m ∧ I m' s')) : ∀ (n m : Nat) (s : σ), I m s → m < n → ∃ r, lp f n s = some r ∧ Q r
  | 0, m, s, _, h => absurd h (by omega)
  | n + 1, m, s, hs, h => by
    rcases step m s hs with ⟨r, e, q⟩ | ⟨s', m', e, hm, hi⟩
    · exact ⟨r, lp_d e, q⟩
    · obtain ⟨r, e2, q⟩ := lp_inv I Q step n m' s' hi (by omega)
      exact ⟨r, by rw [lp_n e]; exact e2, q⟩
theorem hF0_lt {m : Nat} (h : m < 2000000) : m < hF0 := h
/-! one byte out of an int: by the shift without a sign, by the shift with one -/
theorem byte_bv (x : BitVec 32) (k : Nat) (hk : k ≤ 24) : (x >>> k) &&& 255#32 = (x.sshiftRight k) &&& 255#32 := by
  apply BitVec.eq_of_getLsbD_eq
  intro i hi
  rw [BitVec.getLsbD_and, BitVec.getLsbD_and]
  by_cases q : i < 8
  · congr 1
    rw [BitVec.getLsbD_ushiftRight, BitVec.getLsbD_sshiftRight]
    have h1 : decide (32 ≤ i) = false := decide_eq_false (by omega)
    simp only [h1, Bool.not_false, Bool.true_and]
    rw [if_pos (by omega)]
  · have e : (255#32).getLsbD i = false := by
      rw [BitVec.getLsbD_ofNat, show (255 : Nat) = 2 ^ 8 - 1 from rfl, Nat.testBit_two_pow_sub_one, decide_eq_false q, Bool.and_false]
    rw [e, Bool.and_false, Bool.and_false]
theorem byte_e (v : Int) (s : Nat) (hs : s = 0 ∨ s = 8 ∨ s = 16 ∨ s = 24) : wand (wushr v s) 255 = wand (wshr v s) 255 := by
  have key : ∀ (x : Int32) (k : Int32), (k = 0 ∨ k = 8 ∨ k = 16 ∨ k = 24) → (x.toUInt32 >>> (k.toUInt32 &&& Int32.toUInt32 31)).toInt32 &&& 255 = x >>> (k &&& 31) &&& 255 := by
    intro x k hk
    apply Int32.toBitVec_inj.mp
    rcases hk with rfl | rfl | rfl | rfl
    · exact byte_bv x.toBitVec 0 (by omega)
    · exact byte_bv x.toBitVec 8 (by omega)
    · exact byte_bv x.toBitVec 16 (by omega)
    · exact byte_bv x.toBitVec 24 (by omega)
  have k2 := key (Int32.ofInt v) (Int32.ofInt s) (by rcases hs with rfl | rfl | rfl | rfl; exact .inl rfl; exact .inr (.inl rfl); exact .inr (.inr (.inl rfl)); exact .inr (.inr (.inr rfl)))
  unfold wand wushr wshr
  rw [Int32.ofInt_toInt, Int32.ofInt_toInt]
  exact congrArg Int32.toInt k2
