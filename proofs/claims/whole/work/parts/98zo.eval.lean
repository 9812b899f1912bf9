/-! an expression is worked out alike -/
/-- the other side's way down, its leaf, its way back up to nc: v7 behind the leaf; both come to the value, or both fail -/
def DVq (tx : Nat) (F q L n nc f d i : Nat) (h t : hS) : Prop := ∃ (z : Int) (t1 : hS) (v7 : Int × hS) (j : Nat), j ≤ i ∧ (∀ N, i < N → lp (fun s => c258_b8 s.1 s.2) N (gn tx i, t) = some (z, t1)) ∧ g258 f 259 [z, (d : Int)] t1 = some v7 ∧ ((∃ (t' h' : hS) (kk : Nat) (v : Int), kk ≤ L ∧ runE F kk h h' ∧ okE F q L n h h' v ∧ fe nc t t' ∧ hI t' 395 52 = v ∧ hI t' 395 54 = (nc : Int) ∧ hI t' 395 39 = hI t 395 39 ∧ ∀ fr : Nat, fr ≤ nc → ∀ N, lp (fun s => c258_b62 (g258 f) (d : Int) (fr : Int) s.1 s.2) (N + j) v7 = lp (fun s => c258_b62 (g258 f) (d : Int) (fr : Int) s.1 s.2) N (1, t')) ∨ (∃ (t' h' : hS) (kk : Nat) (e : Int), kk ≤ L ∧ runE F kk h h' ∧ noE F h h' e ∧ fe nc t t' ∧ hI t' 395 39 = e ∧ ∀ fr : Nat, fr ≤ nc → ∀ N, lp (fun s => c258_b62 (g258 f) (d : Int) (fr : Int) s.1 s.2) (N + j + 1) v7 = some (0, t')))
/-- the call of eval -/
def CVq (tx : Nat) (F q L n nc f d i : Nat) (h t : hS) : Prop := (∃ (t' h' : hS) (kk : Nat) (v : Int), kk ≤ L ∧ runE F kk h h' ∧ okE F q L n h h' v ∧ fe nc t t' ∧ hI t' 395 52 = v ∧ hI t' 395 54 = (nc : Int) ∧ hI t' 395 39 = hI t 395 39 ∧ c258 (g258 f) (gn tx i) (d : Int) t = some (1, t')) ∨ (∃ (t' h' : hS) (kk : Nat) (e : Int), kk ≤ L ∧ runE F kk h h' ∧ noE F h h' e ∧ fe nc t t' ∧ hI t' 395 39 = e ∧ hI t' 395 54 = (nc : Int) ∧ c258 (g258 f) (gn tx i) (d : Int) t = some (0, t'))
section EVA
variable {tx i f nc F x c d p m qq n q L s k a0 : Nat} {h h' t t' t1 : hS} {K : Nat → Int → Prop} {r : Int → Nat} {C : List Int}
theorem g258_8 {a b : Int} : g258 (f + 1) 258 [a, b] h = c258 (g258 f) a b h := rfl
theorem g258_9 {a b : Int} : g258 (f + 1) 259 [a, b] h = c259 (g258 f) a b h := rfl
theorem DV_C (D : DVq tx F q L n nc f d i h t) (e54 : hI t 395 54 = (nc : Int)) (hi : i < 1200) : CVq tx F q L n nc f d i h t := by
  obtain ⟨z, t1, v7, j, hj, e1, e2, g⟩ := D
  have a1 := e1 hF0 (hF0_lt (by omega))
  rcases g with ⟨t', h', kk, v, b1, b2, b3, b4, b5, b6, b7, b8⟩ | ⟨t', h', kk, e, b1, b2, b3, b4, b5, b6⟩
  · have a2 := b8 nc (Nat.le_refl _) (hF0 - j)
    rw [show hF0 - j + j = hF0 from Nat.sub_add_cancel (Nat.le_of_lt (hF0_lt (by omega)))] at a2
    have a3 : lp (fun s => c258_b62 (g258 f) (d : Int) (nc : Int) s.1 s.2) (hF0 - j) (1, t') = some (1, t') := by
      obtain ⟨N, hN⟩ : ∃ N, hF0 - j = N + 1 := ⟨hF0 - j - 1, by have : j < hF0 := hF0_lt (by omega); omega⟩
      rw [hN, lp_d]
      show c258_b62 (g258 f) (d : Int) (nc : Int) 1 t' = _
      unfold c258_b62
      rw [if_neg (by omega), b6, if_pos (by omega)]
    refine .inl ⟨sI t' 395 54 (nc : Int), h', kk, v, b1, b2, b3, fe_tr b4 (fe_sI (by omega)), by rw [hI_sI, if_neg (by omega)]; exact b5, by rw [hI_sI, if_pos ⟨rfl, rfl⟩], by rw [hI_sI, if_neg (by omega)]; exact b7, ?_⟩
    unfold c258
    refine bnd a1 ?_
    refine bnd e2 ?_
    rw [e54]
    refine bnd (a2.trans a3) ?_
    rfl
  · have a2 := b6 nc (Nat.le_refl _) (hF0 - j - 1)
    rw [show hF0 - j - 1 + j + 1 = hF0 from by have : j < hF0 := hF0_lt (by omega); omega] at a2
    refine .inr ⟨sI t' 395 54 (nc : Int), h', kk, e, b1, b2, b3, fe_tr b4 (fe_sI (by omega)), by rw [hI_sI, if_neg (by omega)]; exact b5, by rw [hI_sI, if_pos ⟨rfl, rfl⟩], ?_⟩
    unfold c258
    refine bnd a1 ?_
    refine bnd e2 ?_
    rw [e54]
    refine bnd a2 ?_
    rfl
theorem EX_b {N : Nat → Nat → Int} (E : EX N (k + 1) s i C) : (N i 0 < 10 ∧ 1 ≤ N i 0) ∨ (10 ≤ N i 0 ∧ N i 0 ≤ 15) := by
  obtain ⟨-, e | e | e | e | ⟨e, -⟩ | ⟨a, c, A, B, op, -, -, -, -, e, -⟩⟩ := E
  · omega
  · omega
  · omega
  · omega
  · omega
  · unfold opR at e
    omega
theorem b8_leaf (ht : tx ≤ 6) (hi : i < 1200) (e : ntx t tx i 0 < 10) : ∀ N, i < N → lp (fun s => c258_b8 s.1 s.2) N (gn tx i, t) = some (gn tx i, t) := fun N hN => by
  obtain ⟨N', rfl⟩ : ∃ N', N = N' + 1 := ⟨N - 1, by omega⟩
  refine lp_d ?_
  show c258_b8 (gn tx i) t = _
  unfold c258_b8
  refine bnd (c256_e (f := 0) ht hi (by omega)) ?_
  rw [if_pos e]
theorem b62_0 {fr N : Nat} : lp (fun s => c258_b62 (g258 f) (d : Int) (fr : Int) s.1 s.2) (N + 1) (0, t') = some (0, t') := by
  refine lp_d ?_
  show c258_b62 (g258 f) (d : Int) (fr : Int) 0 t' = _
  unfold c258_b62
  rw [if_pos rfl]
/-- a leaf -/
theorem EV_lf (X : XCg h t F x a0 c d) (ht : tx ≤ 6) (cd : ∀ (j : Nat) (v : Int), C[j]? = some v → hI h x (q + j) = v) (hL' : q + C.length ≤ hL h x) (hq : hI h F 4 = (q : Int)) (hn : hI h 22 5 = (n : Int)) (h64 : n + 1 ≤ 64) (h7 : hI h 22 7 = -1) (e54 : hI t 395 54 = (nc : Int)) (hi : i < 1200) (E : (ntx t tx i 0 = 1 ∧ C = [2, ntx t tx i 1]) ∨ (ntx t tx i 0 = 2 ∧ C = [1, ntx t tx i 1] ∧ 0 ≤ ntx t tx i 1 ∧ ntx t tx i 1 < 40) ∨ (ntx t tx i 0 = 3 ∧ C = [214]) ∨ (ntx t tx i 0 = 4 ∧ C = [215])) : DVq tx F q C.length n nc (f + 1) d i h t := by
  obtain ⟨FC, cr, d1, d2, d3, d4, -⟩ := id X
  have hF := FC.2.2.2.2.2
  have hF22 : F ≠ 22 := by omega
  have e408 : aIs t 408 21 (d : Int) = some (c : Int) := by rw [aIs_s (by omega) (by omega), Int.toNat_natCast, d2]
  have e0 := c256_e (t := t) (f := 0) ht hi (by omega)
  have e1 := c256_e (t := t) (f := 1) ht hi (by omega)
  have fin : ∀ (v : Int) (h' : hS) (kk : Nat), kk ≤ C.length → runE F kk h h' → okE F q C.length n h h' v → c259 (g258 f) (gn tx i) (d : Int) t = some (1, sI t 395 52 v) → ntx t tx i 0 < 10 → DVq tx F q C.length n nc (f + 1) d i h t := fun v h' kk a1 a2 a3 a4 a5 => by
    refine ⟨gn tx i, t, (1, sI t 395 52 v), 0, Nat.zero_le _, b8_leaf ht hi a5, a4, .inl ⟨sI t 395 52 v, h', kk, v, a1, a2, a3, fe_sI (by omega), by rw [hI_sI, if_pos ⟨rfl, rfl⟩], by rw [hI_sI, if_neg (by omega)]; exact e54, by rw [hI_sI, if_neg (by omega)], fun fr hfr N => rfl⟩⟩
  rcases E with ⟨s0, rfl⟩ | ⟨s0, rfl, n0⟩ | ⟨s0, rfl⟩ | ⟨s0, rfl⟩
  · have hl : q + 1 < hL h x := hL'
    obtain ⟨h', w1, w2⟩ := num_s FC hq hl (cd 0 2 rfl) (cd 1 _ rfl) hn (by omega) h7
    refine fin _ h' 1 (by show 1 ≤ 2; omega) (runE_one w1 h7 w2.1 hF22) w2 ?_ (by omega)
    unfold c259
    refine bnd e0 ?_
    refine bnd e408 ?_
    rw [if_pos s0]
    exact bnd e1 rfl
  · have hl : q + 1 < hL h x := hL'
    rcases name_s X n0 hq hl (cd 0 1 rfl) (cd 1 _ rfl) hn (by omega) h7 with ⟨v, h', w1, w2, w3⟩ | ⟨h', w1, w2, w3⟩
    · refine fin v h' 1 (by show 1 ≤ 2; omega) (runE_one w1 h7 w2.1 hF22) w2 ?_ (by omega)
      have := w3 (Int × hS) (fun v => c259_j192 v t) ((c261 1001 t).bind (fun v29 => (kB v29.1).bind (fun u30 => some (v29.1, v29.2))))
      unfold c259
      refine bnd e0 ?_
      refine bnd e408 ?_
      rw [if_neg (by omega), if_neg (by omega), if_neg (by omega), if_pos s0]
      refine bnd e1 ?_
      exact this
    · refine ⟨gn tx i, t, (0, sI t 395 39 1001), 0, Nat.zero_le _, b8_leaf ht hi (by omega), ?_, .inr ⟨sI t 395 39 1001, h', 1, 1001, by show 1 ≤ 2; omega, runE_one w1 h7 w2.1 hF22, w2, fe_sI (by omega), by rw [hI_sI, if_pos ⟨rfl, rfl⟩], fun fr hfr N => b62_0⟩⟩
      show c259 (g258 f) (gn tx i) (d : Int) t = _
      unfold c259
      refine bnd e0 ?_
      refine bnd e408 ?_
      rw [if_neg (by omega), if_neg (by omega), if_neg (by omega), if_pos s0]
      refine bnd e1 ?_
      refine bnd w3 ?_
      rw [if_pos rfl]
      rfl
  · have hl : q < hL h x := hL'
    obtain ⟨h', w1, w2⟩ := vl_s (.inl ⟨rfl, rfl⟩) FC hq hl (cd 0 214 rfl) hn (by omega) h7
    refine fin _ h' 1 (Nat.le_refl _) (runE_one w1 h7 w2.1 hF22) w2 ?_ (by omega)
    unfold c259
    refine bnd e0 ?_
    refine bnd e408 ?_
    rw [if_neg (by omega), if_pos s0]
    unfold c259_j42
    rw [s0, if_pos rfl, aIs_s (by omega) (by omega), Int.toNat_natCast, d3]
    rfl
  · have hl : q < hL h x := hL'
    obtain ⟨h', w1, w2⟩ := vl_s (.inr ⟨rfl, rfl⟩) FC hq hl (cd 0 215 rfl) hn (by omega) h7
    refine fin _ h' 1 (Nat.le_refl _) (runE_one w1 h7 w2.1 hF22) w2 ?_ (by omega)
    unfold c259
    refine bnd e0 ?_
    refine bnd e408 ?_
    rw [if_neg (by omega), if_neg (by omega), if_pos s0]
    unfold c259_j42
    rw [s0, if_neg (by omega), aIs_s (by omega) (by omega), Int.toNat_natCast, d4]
    rfl
end EVA
