/-! code on one side, nodes on the other -/
def opR (s op : Int) : Prop := (s = 10 ∧ op = 43) ∨ (s = 11 ∧ op = 45) ∨ (s = 12 ∧ op = 42) ∨ (s = 13 ∧ op = 47) ∨ (s = 14 ∧ op = 60) ∨ (s = 15 ∧ op = 250)
/-- node i stands for the expression whose code is C; k bounds how deep it goes, s how many numbers wait on the way -/
def EX (N : Nat → Nat → Int) : Nat → Nat → Nat → List Int → Prop
  | 0, _, _, _ => False
  | k + 1, s, i, C => 1 ≤ s ∧ ((N i 0 = 1 ∧ C = [2, N i 1]) ∨ (N i 0 = 2 ∧ C = [1, N i 1] ∧ 0 ≤ N i 1 ∧ N i 1 < 40) ∨ (N i 0 = 3 ∧ C = [214]) ∨ (N i 0 = 4 ∧ C = [215]) ∨ (N i 0 = 5 ∧ ∃ (a : Nat) (A : List Int), N i 1 = (a : Int) ∧ a < i ∧ EX N k (s - 1) a A ∧ C = A ++ [252]) ∨ (∃ (a c : Nat) (A B : List Int) (op : Int), N i 1 = (a : Int) ∧ N i 2 = (c : Int) ∧ a < i ∧ c < i ∧ opR (N i 0) op ∧ EX N k s a A ∧ EX N k (s - 1) c B ∧ C = A ++ (B ++ [op])))
theorem EX_up {N : Nat → Nat → Int} : ∀ {k k' s s' i : Nat} {C : List Int}, EX N k s i C → k ≤ k' → s ≤ s' → EX N k' s' i C
  | 0, _, _, _, _, _, h, _, _ => False.elim h
  | k + 1, 0, _, _, _, _, _, h2, _ => absurd h2 (by omega)
  | k + 1, k' + 1, s, s', i, C, ⟨h0, h⟩, h2, hs => by
    refine ⟨by omega, ?_⟩
    rcases h with h | h | h | h | ⟨h, a, A, h3, h4, h5, h6⟩ | ⟨a, c, A, B, op, h3, h4, h5, h6, h7, h8, h9, h10⟩
    · exact .inl h
    · exact .inr (.inl h)
    · exact .inr (.inr (.inl h))
    · exact .inr (.inr (.inr (.inl h)))
    · exact .inr (.inr (.inr (.inr (.inl ⟨h, a, A, h3, h4, EX_up h5 (by omega) (by omega), h6⟩))))
    · exact .inr (.inr (.inr (.inr (.inr ⟨a, c, A, B, op, h3, h4, h5, h6, h7, EX_up h8 (by omega) hs, EX_up h9 (by omega) (by omega), h10⟩))))
theorem EX_cg {N N' : Nat → Nat → Int} : ∀ {k s i : Nat} {C : List Int}, EX N k s i C → (∀ t, t ≤ i → ∀ j, j < 3 → N' t j = N t j) → EX N' k s i C
  | 0, _, _, _, h, _ => False.elim h
  | k + 1, s, i, C, ⟨h0, h⟩, e => by
    have e0 := e i (Nat.le_refl i) 0 (by omega)
    have e1 := e i (Nat.le_refl i) 1 (by omega)
    have e2 := e i (Nat.le_refl i) 2 (by omega)
    refine ⟨h0, ?_⟩
    rcases h with h | h | h | h | ⟨h, a, A, h3, h4, h5, h6⟩ | ⟨a, c, A, B, op, h3, h4, h5, h6, h7, h8, h9, h10⟩
    · exact .inl (by rw [e0, e1]; exact h)
    · exact .inr (.inl (by rw [e0, e1]; exact h))
    · exact .inr (.inr (.inl (by rw [e0]; exact h)))
    · exact .inr (.inr (.inr (.inl (by rw [e0]; exact h))))
    · exact .inr (.inr (.inr (.inr (.inl ⟨by rw [e0]; exact h, a, A, by rw [e1]; exact h3, h4, EX_cg h5 (fun t ht j hj => e t (by omega) j hj), h6⟩))))
    · exact .inr (.inr (.inr (.inr (.inr ⟨a, c, A, B, op, by rw [e1]; exact h3, by rw [e2]; exact h4, h5, h6, by rw [e0]; exact h7, EX_cg h8 (fun t ht j hj => e t (by omega) j hj), EX_cg h9 (fun t ht j hj => e t (by omega) j hj), h10⟩))))
/-- the nodes under way -/
def nd (h : hS) (i j : Nat) : Int := hI h 399 (5 * (8400 + i) + j)
section NDE
variable {h hc hr : hS}
theorem c218_q {s a b c : Int} {m q : Nat} (e : hI hr 395 16 = (m : Int)) (hm : m < 1200) (hq : wmul 5 (wadd 8400 (m : Int)) = (q : Int)) (hl : q + 5 ≤ 48000) : ∃ o, c218 s a b c hr = some o ∧ (o.1 = (m : Int) ∧ hI o.2 395 16 = ((m + 1 : Nat) : Int) ∧ hI o.2 399 q = s ∧ hI o.2 399 (q + 1) = a ∧ hI o.2 399 (q + 2) = b ∧ hI o.2 399 (q + 3) = c ∧ hI o.2 399 (q + 4) = -1 ∧ fp (fun x j => (x = 395 ∧ j = 16) ∨ (x = 399 ∧ q ≤ j ∧ j < q + 5)) hr o.2) := by
  have t0 : ((q : Nat) : Int).toNat = q := by omega
  have t1 : ((q : Int) + 1).toNat = q + 1 := by omega
  have t2 : ((q : Int) + 2).toNat = q + 2 := by omega
  have t3 : ((q : Int) + 3).toNat = q + 3 := by omega
  have t4 : ((q : Int) + 4).toNat = q + 4 := by omega
  unfold c218
  rw [e, hq, wadd_e (x := (m : Int)) (by omega) (by omega), wadd_e (x := (q : Int)) (by omega) (by omega), wadd_e (x := (q : Int)) (by omega) (by omega), wadd_e (x := (q : Int)) (by omega) (by omega), wadd_e (x := (q : Int)) (by omega) (by omega)]
  refine bex (fun k => k = sI hr 395 16 ((m : Int) + 1)) ⟨_, rfl, rfl⟩ (fun k1 p1 => ?_)
  refine bex (fun k => k = sI k1 399 q s) ⟨_, wIs_s (by omega) (by omega), by rw [t0]⟩ (fun k2 p2 => ?_)
  refine bex (fun k => k = sI k2 399 (q + 1) a) ⟨_, wIs_s (by omega) (by omega), by rw [t1]⟩ (fun k3 p3 => ?_)
  refine bex (fun k => k = sI k3 399 (q + 2) b) ⟨_, wIs_s (by omega) (by omega), by rw [t2]⟩ (fun k4 p4 => ?_)
  refine bex (fun k => k = sI k4 399 (q + 3) c) ⟨_, wIs_s (by omega) (by omega), by rw [t3]⟩ (fun k5 p5 => ?_)
  refine bex (fun k => k = sI k5 399 (q + 4) (-1)) ⟨_, wIs_s (by omega) (by omega), by rw [t4]⟩ (fun k6 p6 => ?_)
  refine ⟨_, rfl, rfl, ?_⟩
  show hI k6 395 16 = _ ∧ hI k6 399 q = s ∧ hI k6 399 (q + 1) = a ∧ hI k6 399 (q + 2) = b ∧ hI k6 399 (q + 3) = c ∧ hI k6 399 (q + 4) = -1 ∧ fp (fun x j => (x = 395 ∧ j = 16) ∨ (x = 399 ∧ q ≤ j ∧ j < q + 5)) hr k6
  rw [p6, p5, p4, p3, p2, p1]
  refine ⟨?_, ?_, ?_, ?_, ?_, ?_, fp_tr (fp_sI (.inl ⟨rfl, rfl⟩)) (fp_tr (fp_sI (.inr ⟨rfl, by omega, by omega⟩)) (fp_tr (fp_sI (.inr ⟨rfl, by omega, by omega⟩)) (fp_tr (fp_sI (.inr ⟨rfl, by omega, by omega⟩)) (fp_tr (fp_sI (.inr ⟨rfl, by omega, by omega⟩)) (fp_sI (.inr ⟨rfl, by omega, by omega⟩))))))⟩
  · rw [hI_sI, if_neg (by omega), hI_sI, if_neg (by omega), hI_sI, if_neg (by omega), hI_sI, if_neg (by omega), hI_sI, if_neg (by omega), hI_sI, if_pos ⟨rfl, rfl⟩]; rfl
  · rw [hI_sI, if_neg (by omega), hI_sI, if_neg (by omega), hI_sI, if_neg (by omega), hI_sI, if_neg (by omega), hI_sI, if_pos ⟨rfl, rfl⟩]
  · rw [hI_sI, if_neg (by omega), hI_sI, if_neg (by omega), hI_sI, if_neg (by omega), hI_sI, if_pos ⟨rfl, rfl⟩]
  · rw [hI_sI, if_neg (by omega), hI_sI, if_neg (by omega), hI_sI, if_pos ⟨rfl, rfl⟩]
  · rw [hI_sI, if_neg (by omega), hI_sI, if_pos ⟨rfl, rfl⟩]
  · rw [hI_sI, if_pos ⟨rfl, rfl⟩]
theorem c218_e {s a b c : Int} {m : Nat} (e : hI hr 395 16 = (m : Int)) (hm : m < 1200) : ∃ hr', c218 s a b c hr = some ((m : Int), hr') ∧ hI hr' 395 16 = ((m + 1 : Nat) : Int) ∧ nd hr' m 0 = s ∧ nd hr' m 1 = a ∧ nd hr' m 2 = b ∧ nd hr' m 3 = c ∧ nd hr' m 4 = -1 ∧ fp (fun x j => (x = 395 ∧ j = 16) ∨ (x = 399 ∧ 5 * (8400 + m) ≤ j ∧ j < 5 * (8400 + m) + 5)) hr hr' := by
  obtain ⟨q, hq⟩ : ∃ q, q = 5 * (8400 + m) := ⟨_, rfl⟩
  have h1 : wmul 5 (wadd 8400 (m : Int)) = (q : Int) := by
    rw [wadd_e (by omega) (by omega), wmul_e (by omega) (by omega)]
    omega
  obtain ⟨⟨o1, hr'⟩, g0, g1, g⟩ := c218_q (s := s) (a := a) (b := b) (c := c) e hm h1 (by omega)
  have g1 : o1 = (m : Int) := g1
  rw [g1] at g0
  unfold nd
  rw [← hq]
  exact ⟨hr', g0, g⟩
theorem c65_e {v : Int} {p : Nat} (e : hI hc 15 7 = (p : Int)) (hp : p < 4000) : c65 v hc = some (sI (sI hc 17 p v) 15 7 ((p + 1 : Nat) : Int)) := by
  have o : hI (sI hc 17 p v) 15 7 = (p : Int) := by rw [hI_sI, if_neg (by omega)]; exact e
  unfold c65
  rw [e, if_neg (by omega), wIs_s (by omega) (by omega)]
  simp only [bsome, Int.toNat_natCast]
  rw [o, wadd_e (by omega) (by omega)]
  rfl
/-- the code C lies in row 17 from the place p on -/
def cdA (h : hS) (p : Nat) (C : List Int) : Prop := ∀ (t : Nat) (v : Int), C[t]? = some v → hI h 17 (p + t) = v
theorem cdA_nil {p : Nat} : cdA h p [] := fun t v e => by simp at e
theorem cdA_app {p : Nat} {A B : List Int} (a : cdA h p A) (b : cdA h (p + A.length) B) : cdA h p (A ++ B) := fun t v e => by
  by_cases c : t < A.length
  · rw [List.getElem?_append_left c] at e
    exact a t v e
  · rw [List.getElem?_append_right (by omega)] at e
    have := b _ v e
    rw [show p + A.length + (t - A.length) = p + t by omega] at this
    exact this
theorem cdA_cg {h' : hS} {p : Nat} {C : List Int} (a : cdA h p C) (e : ∀ j, j < p + C.length → hI h' 17 j = hI h 17 j) : cdA h' p C := fun t v q => by
  have : t < C.length := by
    by_cases z : t < C.length
    · exact z
    · rw [List.getElem?_eq_none (by omega)] at q; cases q
  rw [e _ (by omega)]
  exact a t v q
theorem cdA_one {p : Nat} {v : Int} : cdA (sI (sI h 17 p v) 15 7 ((p + 1 : Nat) : Int)) p [v] := fun t w e => by
  cases t with
  | zero =>
    rw [hI_sI, if_neg (by omega), hI_sI, if_pos ⟨rfl, by omega⟩]
    simpa using e
  | succ t => simp at e
end NDE
