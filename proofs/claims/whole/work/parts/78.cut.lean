/-! the whole text cut -/
section CUT
variable {h : hS} {n : Nat} {b wk : Nat → Int}
theorem spn_1 {P : Int → Bool} {b : Nat → Int} {a : Nat} (ha : a < n) (q : P (b a) = true) : a < spn P b (n - a) a ∧ spn P b (n - a) a ≤ n := by
  obtain ⟨k, hk⟩ : ∃ k, n - a = k + 1 := ⟨n - a - 1, by omega⟩
  rw [hk]
  unfold spn
  rw [if_pos q]
  obtain ⟨h1, h2, -⟩ := spn_b (P := P) (b := b) k (a + 1)
  omega
theorem lexT_end {a : Nat} (ha : a < n) : a < (lexT b n wk a).2.2 ∧ (lexT b n wk a).2.2 ≤ n := by
  unfold lexT
  by_cases q : smL (b a) = true
  · have := spn_1 ha q
    rw [if_pos q]
    repeat' split
    all_goals exact this
  · rw [if_neg q]
    by_cases q2 : dgL (b a) = true
    · have := spn_1 ha q2
      rw [if_pos q2]
      repeat' split
      all_goals exact this
    · rw [if_neg q2]
      by_cases q3 : b a = 61 ∧ a + 1 < n ∧ b (a + 1) = 61
      · rw [if_pos q3]
        show a < a + 2 ∧ a + 2 ≤ n
        omega
      · rw [if_neg q3]
        repeat' split
        all_goals (show a < a + 1 ∧ a + 1 ≤ n; omega)
/-- what cutting needs of the heap: the words, the signs -/
def CTX (h : hS) (wk : Nat → Int) : Prop := STR h ∧ hT h 14 = 1 ∧ hL h 14 = 22 ∧ ∀ i, hI h 14 i = wk i
theorem c26_s {a : Nat} (T : txc h n b) (ha : a < n) (q : spc (b a) = true) : c26 a h = some (1, h) := by
  obtain ⟨x1, x2, x3⟩ := T.2.2 a ha
  have hn := T.2.1
  unfold c26
  rw [aIs_s (by omega) (by omega)]
  simp only [bsome, Int.toNat_natCast]
  rw [x1]
  rcases (of_decide_eq_true q : b a = 32 ∨ b a = 10) with e | e
  · rw [if_pos e]
  · rw [if_neg (by omega), if_pos e]
theorem c26_e {a : Nat} (T : txc h n b) (X : CTX h wk) (ha : a < n) (n0 : 0 ≤ hI h 9 5) (n1 : hI h 9 5 < 1001) (q : spc (b a) = false) : c26 a h = some ((((lexT b n wk a).2.2 : Nat) : Int) - a, adt h (lexT b n wk a).1 a (lexT b n wk a).2.1) := by
  obtain ⟨x1, x2, x3⟩ := T.2.2 a ha
  obtain ⟨S, t14, l14, hw⟩ := X
  have hn := T.2.1
  have ew : wk = fun i => hI h 14 i := funext fun i => (hw i).symm
  rw [ew]
  have q' : ¬ (b a = 32 ∨ b a = 10) := by
    intro c
    rw [show spc (b a) = true from decide_eq_true c] at q
    cases q
  unfold c26
  rw [aIs_s (by omega) (by omega)]
  simp only [bsome, Int.toNat_natCast]
  rw [x1, if_neg (by omega), if_neg (by omega), c27_e]
  simp only [bsome]
  by_cases c1 : smL (b a) = true
  · rw [if_pos c1, if_neg (show ¬ (1 : Int) = 0 by omega), c28_e T ha t14 l14 n0 n1 c1]
    rfl
  · rw [if_neg c1, if_pos rfl, c31_e]
    simp only [bsome]
    by_cases c2 : dgL (b a) = true
    · rw [if_pos c2, if_neg (show ¬ (1 : Int) = 0 by omega), c32_e T ha n0 n1 (Bool.eq_false_iff.mpr c1) c2]
      rfl
    · rw [if_neg c2, if_pos rfl]
      have j87 : c26_j87 a (b a) h = some (1, adt h (if sgn (b a) = true then b a else 3) a 0) := by
        obtain ⟨v, e1, e2⟩ := c34_e S x2 x3
        unfold c26_j87
        rw [kT_s S.1]
        simp only [bsome]
        rw [e1]
        simp only [bsome]
        unfold c26_j103
        by_cases z : v < 0
        · have := e2.mp z
          rw [if_pos z, c30_e n0 n1, if_neg (by rw [this]; simp)]
          rfl
        · have : sgn (b a) = true := by
            cases hs : sgn (b a) with
            | true => rfl
            | false => exact absurd (e2.mpr hs) z
          rw [if_neg z, c30_e n0 n1, if_pos this]
          rfl
      have e87 : ¬ (b a = 61 ∧ a + 1 < n ∧ b (a + 1) = 61) → c26_j87 a (b a) h = some ((((lexT b n (fun i => hI h 14 i) a).2.2 : Nat) : Int) - a, adt h (lexT b n (fun i => hI h 14 i) a).1 a (lexT b n (fun i => hI h 14 i) a).2.1) := by
        intro c3
        rw [j87]
        unfold lexT
        rw [if_neg c1, if_neg c2, if_neg c3]
        by_cases z : sgn (b a) = true
        · rw [if_pos z, if_pos z]
          show some ((1 : Int), _) = some (((a + 1 : Nat) : Int) - a, _)
          rw [show ((a + 1 : Nat) : Int) - a = 1 by omega]
        · rw [if_neg z, if_neg z]
          show some ((1 : Int), _) = some (((a + 1 : Nat) : Int) - a, _)
          rw [show ((a + 1 : Nat) : Int) - a = 1 by omega]
      by_cases c3 : b a = 61
      · rw [if_pos c3, T.1, wadd_e (by omega) (by omega)]
        by_cases c4 : (n : Int) ≤ (a : Int) + 1
        · rw [if_pos c4]
          exact e87 (by omega)
        · obtain ⟨y1, y2, y3⟩ := T.2.2 (a + 1) (by omega)
          rw [if_neg c4, aIs_s (by omega) (by omega)]
          simp only [bsome]
          rw [show ((a : Int) + 1).toNat = a + 1 by omega, y1]
          by_cases c5 : b (a + 1) = 61
          · rw [if_pos c5, c30_e n0 n1]
            simp only [bsome]
            unfold lexT
            rw [if_neg c1, if_neg c2, if_pos ⟨c3, by omega, c5⟩]
            show some ((2 : Int), _) = some (((a + 2 : Nat) : Int) - a, _)
            rw [show ((a + 2 : Nat) : Int) - a = 2 by omega]
          · rw [if_neg c5]
            exact e87 (fun c => c5 c.2.2)
      · rw [if_neg c3]
        exact e87 (fun c => c3 c.1)
/-- the tokens from the place a on -/
def tokb (b : Nat → Int) (n : Nat) (wk : Nat → Int) : Nat → Nat → List (Int × Nat × Int)
  | 0, _ => []
  | k + 1, a => if n ≤ a then [] else if spc (b a) = true then tokb b n wk k (a + 1) else ((lexT b n wk a).1, a, (lexT b n wk a).2.1) :: tokb b n wk k (lexT b n wk a).2.2
/-- the rows of the tokens hold T -/
def TKA (h : hS) (T : List (Int × Nat × Int)) : Prop := hI h 9 5 = T.length ∧ ∀ (i : Nat) (t : Int × Nat × Int), T[i]? = some t → hI h 11 i = t.1 ∧ hI h 12 i = (t.2.1 : Int) ∧ hI h 13 i = t.2.2
theorem adt_fp {s v : Int} {a : Int} : fp (fun x j => x = 11 ∨ x = 12 ∨ x = 13 ∨ (x = 9 ∧ j = 5)) h (adt h s a v) := fp_tr (fp_tr (fp_tr (fp_sI (.inl rfl)) (fp_sI (.inr (.inl rfl)))) (fp_sI (.inr (.inr (.inl rfl))))) (fp_sI (.inr (.inr (.inr ⟨rfl, rfl⟩))))
theorem adt_ok {T : List (Int × Nat × Int)} {s v : Int} {a : Nat} (K : TKA h T) : TKA (adt h s a v) (T ++ [(s, a, v)]) := by
  obtain ⟨k1, k2⟩ := K
  have ec : (hI h 9 5).toNat = T.length := by rw [k1]; exact Int.toNat_natCast _
  unfold adt
  rw [ec, k1]
  refine ⟨?_, fun i t ht => ?_⟩
  · rw [hI_sI, if_pos ⟨rfl, rfl⟩, List.length_append]
    simp
  · by_cases c : i < T.length
    · rw [List.getElem?_append_left c] at ht
      obtain ⟨z1, z2, z3⟩ := k2 i t ht
      simp only [hI_sI]
      refine ⟨?_, ?_, ?_⟩
      · rw [if_neg (by omega), if_neg (by omega), if_neg (by omega), if_neg (by omega)]; exact z1
      · rw [if_neg (by omega), if_neg (by omega), if_neg (by omega), if_neg (by omega)]; exact z2
      · rw [if_neg (by omega), if_neg (by omega), if_neg (by omega), if_neg (by omega)]; exact z3
    · have hi : i = T.length := by
        have := (List.getElem?_eq_some_iff.mp ht).1
        rw [List.length_append] at this
        simp at this
        omega
      subst hi
      rw [List.getElem?_append_right (Nat.le_refl _), Nat.sub_self] at ht
      have ht : (s, a, v) = t := Option.some.inj ht
      subst ht
      simp only [hI_sI]
      refine ⟨?_, ?_, ?_⟩
      · rw [if_neg (by omega), if_neg (by omega), if_neg (by omega), if_pos (by simp)]
      · rw [if_neg (by omega), if_neg (by omega), if_pos (by simp)]
      · rw [if_neg (by omega), if_pos (by simp)]
theorem txc_cg {h' : hS} (T : txc h n b) (e1 : hI h' 9 1 = hI h 9 1) (e2 : ∀ j, hI h' 10 j = hI h 10 j) : txc h' n b := ⟨by rw [e1]; exact T.1, T.2.1, fun i hi => by rw [e2]; exact T.2.2 i hi⟩
theorem CTX_cg {h' : hS} (X : CTX h wk) (e : h'.2 = h.2) (e4 : ∀ x j, x = 4 ∨ x = 5 ∨ x = 14 → hI h' x j = hI h x j) : CTX h' wk := by
  obtain ⟨⟨s1, s2, s3, s4, s5, s6⟩, t, l, w⟩ := X
  have eT : hT h' = hT h := by show h'.2.2.2.1 = h.2.2.2.1; rw [e]
  have eR : hR h' = hR h := by show h'.2.1 = h.2.1; rw [e]
  have eL : hL h' = hL h := by show h'.2.2.2.2.1 = h.2.2.2.2.1; rw [e]
  refine ⟨⟨by rw [eT]; exact s1, by rw [e4 4 0 (.inl rfl)]; exact s2, by rw [eR]; exact s3, by rw [eT]; exact s4, by rw [eL]; exact s5, fun i hi => by rw [e4 5 i (.inr (.inl rfl))]; exact s6 i hi⟩, by rw [eT]; exact t, by rw [eL]; exact l, fun i => by rw [e4 14 i (.inr (.inr rfl))]; exact w i⟩
theorem c25_l : ∀ (k a N : Nat) (h : hS) (T : List (Int × Nat × Int)), txc h n b → CTX h wk → TKA h T → n ≤ a + k → a ≤ n → k < N → T.length + (n - a) ≤ 1000 → ∃ h', lp (fun s => c25_b7 s.1 s.2) N ((a : Int), h) = some h' ∧ TKA h' (T ++ tokb b n wk k a) ∧ fp (fun x j => x = 11 ∨ x = 12 ∨ x = 13 ∨ (x = 9 ∧ j = 5)) h h'
  | 0, a, N, h, T, X1, X2, X3, h1, h2, h3, h4 => by
    obtain ⟨N, rfl⟩ : ∃ N1, N = N1 + 1 := ⟨N - 1, by omega⟩
    refine ⟨h, lp_d ?_, by unfold tokb; rw [List.append_nil]; exact X3, fp_rf⟩
    show c25_b7 a h = _
    unfold c25_b7
    rw [X1.1, if_pos (by omega)]
  | k + 1, a, N, h, T, X1, X2, X3, h1, h2, h3, h4 => by
    obtain ⟨N, rfl⟩ : ∃ N1, N = N1 + 1 := ⟨N - 1, by omega⟩
    have hn := X1.2.1
    unfold tokb
    by_cases c1 : n ≤ a
    · rw [if_pos c1, List.append_nil]
      refine ⟨h, lp_d ?_, X3, fp_rf⟩
      show c25_b7 a h = _
      unfold c25_b7
      rw [X1.1, if_pos (by omega)]
    · rw [if_neg c1]
      by_cases c2 : spc (b a) = true
      · rw [if_pos c2]
        obtain ⟨h', g1, g2, g3⟩ := c25_l k (a + 1) N h T X1 X2 X3 (by omega) (by omega) (by omega) (by omega)
        refine ⟨h', (lp_n (s' := (((a + 1 : Nat) : Int), h)) ?_).trans g1, g2, g3⟩
        show c25_b7 a h = _
        unfold c25_b7
        rw [X1.1, if_neg (by omega), c26_s X1 (by omega) c2]
        simp only [bsome]
        rw [show wmax 1 1 = 1 by decide +kernel, wadd_e (by omega) (by omega)]
        rfl
      · rw [if_neg c2]
        obtain ⟨e1, e2⟩ := lexT_end (b := b) (wk := wk) (show a < n by omega)
        have hc0 : 0 ≤ hI h 9 5 := by rw [X3.1]; omega
        have hc1 : hI h 9 5 < 1001 := by rw [X3.1]; omega
        have st := c26_e X1 X2 (by omega) hc0 hc1 (Bool.eq_false_iff.mpr c2)
        generalize hx : lexT b n wk a = x at st e1 e2 ⊢
        have fa := adt_fp (h := h) (s := x.1) (v := x.2.1) (a := (a : Int))
        obtain ⟨h', g1, g2, g3⟩ := c25_l k x.2.2 N (adt h x.1 a x.2.1) (T ++ [(x.1, a, x.2.1)]) (txc_cg X1 (fa.2 9 1 (by omega)) (fun j => fa.2 10 j (by omega))) (CTX_cg X2 fa.1 (fun y j hy => fa.2 y j (by omega))) (adt_ok X3) (by omega) (by omega) (by omega) (by rw [List.length_append]; simp; omega)
        refine ⟨h', (lp_n (s' := (((x.2.2 : Nat) : Int), adt h x.1 a x.2.1)) ?_).trans g1, by rw [List.append_assoc] at g2; exact g2, fp_tr fa g3⟩
        show c25_b7 a h = _
        unfold c25_b7
        rw [X1.1, if_neg (by omega), st]
        simp only [bsome]
        rw [wmax_e (rg_of (by omega) (by omega)) (rg_of (by omega) (by omega))]
        by_cases c3 : (1 : Int) < ((x.2.2 : Nat) : Int) - a
        · rw [if_pos c3, wadd_e (by omega) (by omega), show (a : Int) + (((x.2.2 : Nat) : Int) - a) = ((x.2.2 : Nat) : Int) by omega]
        · rw [if_neg c3, wadd_e (by omega) (by omega), show (a : Int) + 1 = ((x.2.2 : Nat) : Int) by omega]
/-- cut -/
theorem c25_e (X1 : txc h n b) (X2 : CTX h wk) : ∃ h', c25 h = some h' ∧ TKA h' (tokb b n wk n 0 ++ [(4, n, 0)]) ∧ hI h' 9 1 = 0 ∧ fp (fun x j => x = 11 ∨ x = 12 ∨ x = 13 ∨ (x = 9 ∧ (j = 5 ∨ j = 1))) h h' := by
  have hn := X1.2.1
  have f0 : fp (fun x j => x = 11 ∨ x = 12 ∨ x = 13 ∨ (x = 9 ∧ j = 5)) h (sI h 9 5 0) := fp_sI (.inr (.inr (.inr ⟨rfl, rfl⟩)))
  obtain ⟨h1, g1, g2, g3⟩ := c25_l (b := b) (wk := wk) n 0 hF0 (sI h 9 5 0) [] (txc_cg X1 (f0.2 9 1 (by omega)) (fun j => f0.2 10 j (by omega))) (CTX_cg X2 f0.1 (fun y j hy => f0.2 y j (by omega))) ⟨by rw [hI_sI, if_pos ⟨rfl, rfl⟩]; rfl, fun i t ht => by simp at ht⟩ (by omega) (by omega) (hF0_lt (by omega)) (by simp; omega)
  have g1 : lp (fun s => c25_b7 s.1 s.2) hF0 (0, sI h 9 5 0) = some h1 := g1
  unfold c25
  simp only [bsome]
  rw [g1]
  simp only [bsome]
  have e91 : hI h1 9 1 = n := by rw [g3.2 9 1 (by omega), f0.2 9 1 (by omega)]; exact X1.1
  have hlen : (tokb b n wk n 0).length ≤ n := by
    have key : ∀ k a, a ≤ n → (tokb b n wk k a).length ≤ n - a := by
      intro k
      induction k with
      | zero => intro a _; exact Nat.zero_le _
      | succ k ih =>
        intro a ha
        unfold tokb
        by_cases c1 : n ≤ a
        · rw [if_pos c1]; exact Nat.zero_le _
        · rw [if_neg c1]
          by_cases c2 : spc (b a) = true
          · rw [if_pos c2]
            have := ih (a + 1) (by omega)
            omega
          · rw [if_neg c2]
            obtain ⟨e1, e2⟩ := lexT_end (b := b) (wk := wk) (show a < n by omega)
            have := ih (lexT b n wk a).2.2 e2
            rw [List.length_cons]
            omega
    exact key n 0 (by omega)
  rw [List.nil_append] at g2
  have hc : hI h1 9 5 = (tokb b n wk n 0).length := g2.1
  rw [c30_e (by rw [hc]; omega) (by rw [hc]; omega), e91]
  simp only [bsome]
  have K2 := adt_ok (s := 4) (v := 0) (a := n) g2
  have fa := adt_fp (h := h1) (s := 4) (v := 0) (a := (n : Int))
  refine ⟨_, rfl, ?_, by rw [hI_sI, if_pos ⟨rfl, rfl⟩], ?_⟩
  · refine ⟨by rw [hI_sI, if_neg (by omega)]; exact K2.1, fun i t ht => ?_⟩
    rw [hI_sI, if_neg (by omega), hI_sI, if_neg (by omega), hI_sI, if_neg (by omega)]
    exact K2.2 i t ht
  · have w1 : ∀ {h h' : hS}, fp (fun x j => x = 11 ∨ x = 12 ∨ x = 13 ∨ (x = 9 ∧ j = 5)) h h' → fp (fun x j => x = 11 ∨ x = 12 ∨ x = 13 ∨ (x = 9 ∧ (j = 5 ∨ j = 1))) h h' := fun f => ⟨f.1, fun x j q => f.2 x j (by omega)⟩
    exact fp_tr (fp_tr (fp_tr (w1 f0) (w1 g3)) (w1 fa)) (fp_sI (.inr (.inr (.inr ⟨rfl, .inr rfl⟩))))
end CUT
