/-! the tape: feed, end -/
/-- only ints of the slots S are other -/
def fp (S : Nat → Nat → Prop) (h h' : hS) : Prop := h'.2 = h.2 ∧ ∀ x j, ¬ S x j → hI h' x j = hI h x j
theorem fp_rf {S : Nat → Nat → Prop} {h : hS} : fp S h h := ⟨rfl, fun _ _ _ => rfl⟩
theorem fp_tr {S : Nat → Nat → Prop} {h h1 h2 : hS} (a : fp S h h1) (b : fp S h1 h2) : fp S h h2 := ⟨b.1.trans a.1, fun x j q => (b.2 x j q).trans (a.2 x j q)⟩
theorem fp_sI {S : Nat → Nat → Prop} {h : hS} {x i : Nat} {v : Int} (q : S x i) : fp S h (sI h x i v) := ⟨rfl, fun y j n => by
  rw [hI_sI, if_neg]
  rintro ⟨rfl, rfl⟩
  exact n q⟩
def tpR (hc hr : hS) : Prop := hI hc 9 1 = hI hr 395 1 ∧ (0 ≤ hI hc 9 1 ∧ hI hc 9 1 ≤ 1000) ∧ ∀ i : Nat, (i : Int) < hI hc 9 1 → hI hc 10 i = hI hr 396 i ∧ 0 ≤ hI hc 10 i ∧ hI hc 10 i < 256
/-- one byte put behind the others: A the row, o F where its length stands -/
def ap (A o F : Nat) (h : hS) (v : Int) : hS := sI (sI h A (hI h o F).toNat v) o F (hI h o F + 1)
def byt (v : Int) (s : Nat) : Int := wand (wushr v (s : Int)) 255
def bys (v : Int) : List Int := [byt v 24, byt v 16, byt v 8, byt v 0]
theorem wand_b (x : Int) : 0 ≤ wand x 255 ∧ wand x 255 < 256 := by
  unfold wand
  have e : (Int32.ofInt x &&& Int32.ofInt 255).toInt = (((Int32.ofInt x).toUInt32.toNat &&& 255 : Nat) : Int) := by
    have h1 : (Int32.ofInt x &&& Int32.ofInt 255).toUInt32.toNat = (Int32.ofInt x).toUInt32.toNat &&& 255 := rfl
    have h2 : (Int32.ofInt x &&& Int32.ofInt 255).toUInt32.toNat ≤ 255 := by rw [h1]; exact Nat.and_le_right
    have h3 : (Int32.ofInt x &&& Int32.ofInt 255) = Int32.ofNat ((Int32.ofInt x &&& Int32.ofInt 255).toUInt32.toNat) := by
      generalize Int32.ofInt x &&& Int32.ofInt 255 = z
      cases z with
      | ofUInt32 u => exact congrArg Int32.ofUInt32 (UInt32.ofNat_toNat).symm
    rw [h3, Int32.toInt_ofNat_of_lt (by omega), h1]
  rw [e]
  have : (Int32.ofInt x).toUInt32.toNat &&& 255 ≤ 255 := Nat.and_le_right
  omega
theorem bys_b (v : Int) : ∀ b ∈ bys v, 0 ≤ b ∧ b < 256 := by
  intro b hb
  unfold bys at hb
  simp only [List.mem_cons, List.not_mem_nil, or_false] at hb
  rcases hb with rfl | rfl | rfl | rfl <;> exact wand_b _
theorem ap_len {A o F : Nat} {h : hS} {v : Int} : hI (ap A o F h v) o F = hI h o F + 1 := by
  unfold ap
  rw [hI_sI, if_pos ⟨rfl, rfl⟩]
theorem ap_at {A o F : Nat} {h : hS} {v : Int} {i : Nat} (hne : A ≠ o) : hI (ap A o F h v) A i = if i = (hI h o F).toNat then v else hI h A i := by
  unfold ap
  rw [hI_sI, if_neg (fun c => hne c.1), hI_sI]
  by_cases q : i = (hI h o F).toNat
  · rw [if_pos ⟨rfl, q⟩, if_pos q]
  · rw [if_neg (fun c => q c.2), if_neg q]
theorem apL_len {A o F : Nat} : ∀ (l : List Int) (h : hS), hI (l.foldl (ap A o F) h) o F = hI h o F + l.length
  | [], h => by simp
  | v :: l, h => by
    rw [List.foldl_cons, apL_len l, ap_len, List.length_cons]
    omega
theorem apL_fp {A o F : Nat} : ∀ (l : List Int) (h : hS), fp (fun x j => (x = o ∧ j = F) ∨ x = A) h (l.foldl (ap A o F) h)
  | [], h => fp_rf
  | v :: l, h => by
    rw [List.foldl_cons]
    refine fp_tr ?_ (apL_fp l _)
    exact fp_tr (fp_sI (.inr rfl)) (fp_sI (.inl ⟨rfl, rfl⟩))
theorem apL_tp : ∀ (l : List Int) (hc hr : hS), tpR hc hr → (∀ b ∈ l, 0 ≤ b ∧ b < 256) → hI hc 9 1 + l.length ≤ 1000 → tpR (l.foldl (ap 10 9 1) hc) (l.foldl (ap 396 395 1) hr)
  | [], hc, hr, h, _, _ => h
  | v :: l, hc, hr, ⟨h1, h2, h3⟩, hb, hl => by
    rw [List.foldl_cons, List.foldl_cons]
    rw [List.length_cons] at hl
    refine apL_tp l _ _ ⟨?_, ?_, ?_⟩ (fun b q => hb b (List.mem_cons_of_mem _ q)) (by rw [ap_len]; omega)
    · rw [ap_len, ap_len, h1]
    · rw [ap_len]; omega
    · intro i hi
      rw [ap_len] at hi
      have hv := hb v List.mem_cons_self
      rw [ap_at (by omega), ap_at (by omega), ← h1]
      by_cases q : i = (hI hc 9 1).toNat
      · rw [if_pos q, if_pos q]
        exact ⟨rfl, hv⟩
      · rw [if_neg q, if_neg q]
        exact h3 i (by omega)
theorem c21_b {v s : Int} {h : hS} (s0 : 0 ≤ s) (s1 : s ≤ 24) (n0 : 0 ≤ hI h 9 1) (n1 : hI h 9 1 < 1000) : c21_b3 v s h = some (.inl (s - 8, ap 10 9 1 h (wand (wushr v s) 255))) := by
  unfold c21_b3
  rw [if_neg (by omega), if_neg (by omega), wIs_s n0 (by omega)]
  simp only [bsome]
  have e : hI (sI h 10 (hI h 9 1).toNat (wand (wushr v s) 255)) 9 1 = hI h 9 1 := by rw [hI_sI, if_neg (by omega)]
  rw [e, wadd_e (by omega) (by omega), wadd_e (by omega) (by omega)]
  rfl
theorem c21_e {v : Int} {h : hS} (n0 : 0 ≤ hI h 9 1) (n1 : hI h 9 1 + 4 ≤ 1000) : c21 v h = some ((bys v).foldl (ap 10 9 1) h) := by
  unfold c21
  have e0 : hF0 = 1999995 + 1 + 1 + 1 + 1 + 1 := rfl
  rw [e0, lp_n (s' := (16, ap 10 9 1 h (byt v 24))) (c21_b (by omega) (by omega) n0 (by omega)), lp_n (s' := (8, ap 10 9 1 (ap 10 9 1 h (byt v 24)) (byt v 16))) (c21_b (by omega) (by omega) (by rw [ap_len]; omega) (by rw [ap_len]; omega)), lp_n (s' := (0, ap 10 9 1 (ap 10 9 1 (ap 10 9 1 h (byt v 24)) (byt v 16)) (byt v 8))) (c21_b (by omega) (by omega) (by rw [ap_len, ap_len]; omega) (by rw [ap_len, ap_len]; omega)), lp_n (s' := (-8, ap 10 9 1 (ap 10 9 1 (ap 10 9 1 (ap 10 9 1 h (byt v 24)) (byt v 16)) (byt v 8)) (byt v 0))) (c21_b (by omega) (by omega) (by rw [ap_len, ap_len, ap_len]; omega) (by rw [ap_len, ap_len, ap_len]; omega)), lp_d (r := ap 10 9 1 (ap 10 9 1 (ap 10 9 1 (ap 10 9 1 h (byt v 24)) (byt v 16)) (byt v 8)) (byt v 0)) rfl]
  rfl
/-- the twenty bytes of a call -/
def by20 (a b c d e : Int) : List Int := bys a ++ (bys b ++ (bys c ++ (bys d ++ bys e)))
theorem c20_e {a b c d e : Int} {h : hS} (n0 : 0 ≤ hI h 9 1) (n1 : hI h 9 1 ≤ 1000) : c20 a b c d e h = some (if hI h 9 1 + 20 ≤ 1000 then (hI h 9 1 + 20, (by20 a b c d e).foldl (ap 10 9 1) h) else (-1, h)) := by
  unfold c20
  rw [wadd_e (by omega) (by omega)]
  have l4 : ∀ v, (bys v).length = 4 := fun _ => rfl
  by_cases q : hI h 9 1 + 20 ≤ 1000
  · rw [if_pos q, if_pos q, c21_e n0 (by omega)]
    simp only [bsome]
    rw [c21_e (by rw [apL_len, l4]; omega) (by rw [apL_len, l4]; omega)]
    simp only [bsome]
    rw [c21_e (by rw [apL_len, apL_len, l4, l4]; omega) (by rw [apL_len, apL_len, l4, l4]; omega)]
    simp only [bsome]
    rw [c21_e (by rw [apL_len, apL_len, apL_len, l4, l4, l4]; omega) (by rw [apL_len, apL_len, apL_len, l4, l4, l4]; omega)]
    simp only [bsome]
    rw [c21_e (by rw [apL_len, apL_len, apL_len, apL_len, l4, l4, l4, l4]; omega) (by rw [apL_len, apL_len, apL_len, apL_len, l4, l4, l4, l4]; omega)]
    simp only [bsome]
    have e1 : hI ((bys e).foldl (ap 10 9 1) ((bys d).foldl (ap 10 9 1) ((bys c).foldl (ap 10 9 1) ((bys b).foldl (ap 10 9 1) ((bys a).foldl (ap 10 9 1) h))))) 9 1 = hI h 9 1 + 20 := by
      rw [apL_len, apL_len, apL_len, apL_len, apL_len, l4, l4, l4, l4, l4]
      omega
    rw [e1]
    unfold by20
    rw [List.foldl_append, List.foldl_append, List.foldl_append, List.foldl_append]
  · rw [if_neg q, if_neg q]
/-- the other side's byte number k -/
theorem c233_j {v k : Int} {h : hS} (s : Nat) (k0 : 0 ≤ k) (k1 : k < 20) (hs : 24 - 8 * (k % 4) = s) (n0 : 0 ≤ hI h 395 1) (n1 : hI h 395 1 < 1000) : c233_j71 v k h = some (.inl (k + 1, ap 396 395 1 h (byt v s))) := by
  unfold c233_j71
  have q1 := Int.emod_nonneg k (show (4 : Int) ≠ 0 by omega)
  have q2 := Int.emod_lt_of_pos k (show (0 : Int) < 4 by omega)
  rw [wrem_e k0 (by omega) (by omega) (by omega), wmul_e (by omega) (by omega), wsub_e (by omega) (by omega), hs]
  have hs2 : s = 0 ∨ s = 8 ∨ s = 16 ∨ s = 24 := by omega
  rw [← byte_e v s hs2, wIs_s n0 (by omega)]
  simp only [bsome]
  have e : hI (sI h 396 (hI h 395 1).toNat (wand (wushr v s) 255)) 395 1 = hI h 395 1 := by rw [hI_sI, if_neg (by omega)]
  rw [e, wadd_e (by omega) (by omega), wadd_e (by omega) (by omega)]
  rfl
theorem c233_b {a b c d e : Int} {k : Nat} {h : hS} (k1 : k < 20) (n0 : 0 ≤ hI h 395 1) (n1 : hI h 395 1 < 1000) : c233_b18 a b c d e k h = some (.inl (((k + 1 : Nat) : Int), ap 396 395 1 h ((by20 a b c d e).getD k 0))) := by
  unfold c233_b18
  rw [if_neg (by omega)]
  match k, k1 with
  | 0, _ => exact c233_j 24 (by omega) (by omega) (by decide) n0 n1
  | 1, _ => exact c233_j 16 (by omega) (by omega) (by decide) n0 n1
  | 2, _ => exact c233_j 8 (by omega) (by omega) (by decide) n0 n1
  | 3, _ => exact c233_j 0 (by omega) (by omega) (by decide) n0 n1
  | 4, _ => exact c233_j 24 (by omega) (by omega) (by decide) n0 n1
  | 5, _ => exact c233_j 16 (by omega) (by omega) (by decide) n0 n1
  | 6, _ => exact c233_j 8 (by omega) (by omega) (by decide) n0 n1
  | 7, _ => exact c233_j 0 (by omega) (by omega) (by decide) n0 n1
  | 8, _ => exact c233_j 24 (by omega) (by omega) (by decide) n0 n1
  | 9, _ => exact c233_j 16 (by omega) (by omega) (by decide) n0 n1
  | 10, _ => exact c233_j 8 (by omega) (by omega) (by decide) n0 n1
  | 11, _ => exact c233_j 0 (by omega) (by omega) (by decide) n0 n1
  | 12, _ => exact c233_j 24 (by omega) (by omega) (by decide) n0 n1
  | 13, _ => exact c233_j 16 (by omega) (by omega) (by decide) n0 n1
  | 14, _ => exact c233_j 8 (by omega) (by omega) (by decide) n0 n1
  | 15, _ => exact c233_j 0 (by omega) (by omega) (by decide) n0 n1
  | 16, _ => exact c233_j 24 (by omega) (by omega) (by decide) n0 n1
  | 17, _ => exact c233_j 16 (by omega) (by omega) (by decide) n0 n1
  | 18, _ => exact c233_j 8 (by omega) (by omega) (by decide) n0 n1
  | 19, _ => exact c233_j 0 (by omega) (by omega) (by decide) n0 n1
  | k + 20, h => exact absurd h (by omega)
theorem c233_l {a b c d e : Int} : ∀ (m k N : Nat) (h : hS), k + m = 20 → m < N → 0 ≤ hI h 395 1 → hI h 395 1 + m ≤ 1000 → lp (fun s => c233_b18 a b c d e s.1 s.2) N ((k : Int), h) = some (((by20 a b c d e).drop k).foldl (ap 396 395 1) h)
  | 0, k, N, h, h1, h2, h3, h4 => by
    obtain ⟨N, rfl⟩ : ∃ N1, N = N1 + 1 := ⟨N - 1, by omega⟩
    obtain rfl : k = 20 := by omega
    rw [lp_d (r := h) rfl]
    rfl
  | m + 1, k, N, h, h1, h2, h3, h4 => by
    obtain ⟨N, rfl⟩ : ∃ N1, N = N1 + 1 := ⟨N - 1, by omega⟩
    have l20 : (by20 a b c d e).length = 20 := rfl
    rw [lp_n (s' := (((k + 1 : Nat) : Int), ap 396 395 1 h ((by20 a b c d e).getD k 0))) (c233_b (by omega) h3 (by omega)), c233_l m (k + 1) N _ (by omega) (by omega) (by rw [ap_len]; omega) (by rw [ap_len]; omega)]
    have hk : k < (by20 a b c d e).length := by omega
    have e1 : (by20 a b c d e).getD k 0 = (by20 a b c d e)[k] := by
      rw [List.getD_eq_getElem?_getD, List.getElem?_eq_getElem hk]
      rfl
    rw [List.drop_eq_getElem_cons hk, List.foldl_cons, e1]
theorem c233_e {a b c d e : Int} {h : hS} (n0 : 0 ≤ hI h 395 1) (n1 : hI h 395 1 ≤ 1000) : c233 a b c d e h = some (if hI h 395 1 + 20 ≤ 1000 then (hI h 395 1 + 20, (by20 a b c d e).foldl (ap 396 395 1) h) else (-1, h)) := by
  unfold c233
  rw [wadd_e (by omega) (by omega)]
  by_cases q : hI h 395 1 + 20 ≤ 1000
  · have e1 := c233_l (a := a) (b := b) (c := c) (d := d) (e := e) 20 0 hF0 h (by omega) (hF0_lt (by omega)) n0 (by omega)
    have e1 : lp (fun s => c233_b18 a b c d e s.1 s.2) hF0 (0, h) = some ((by20 a b c d e).foldl (ap 396 395 1) h) := e1
    rw [if_pos q, if_pos q, e1]
    simp only [bsome]
    rw [apL_len]
    rfl
  · rw [if_neg q, if_neg q]
/-- feed -/
theorem api0 {hc hr : hS} (T : tpR hc hr) (a b c d e : Int) : ∃ v hc' hr', c20 a b c d e hc = some (v, hc') ∧ c233 a b c d e hr = some (v, hr') ∧ tpR hc' hr' ∧ fp (fun x j => (x = 9 ∧ j = 1) ∨ x = 10) hc hc' ∧ fp (fun x j => (x = 395 ∧ j = 1) ∨ x = 396) hr hr' := by
  obtain ⟨t1, ⟨t2, t3⟩, t4⟩ := T
  rw [c20_e t2 t3, c233_e (by omega) (by omega), ← t1]
  by_cases q : hI hc 9 1 + 20 ≤ 1000
  · rw [if_pos q, if_pos q]
    refine ⟨_, _, _, rfl, rfl, apL_tp _ _ _ ⟨t1, ⟨t2, t3⟩, t4⟩ ?_ q, apL_fp _ _, apL_fp _ _⟩
    intro x hx
    unfold by20 at hx
    simp only [List.mem_append] at hx
    rcases hx with hx | hx | hx | hx | hx <;> exact bys_b _ x hx
  · rw [if_neg q, if_neg q]
    exact ⟨_, _, _, rfl, rfl, ⟨t1, ⟨t2, t3⟩, t4⟩, fp_rf, fp_rf⟩
/-- end -/
theorem api1 {hc hr : hS} (T : tpR hc hr) (n : Int) : ∃ v hc' hr', c22 n hc = some (v, hc') ∧ c234 n hr = some (v, hr') ∧ tpR hc' hr' ∧ fp (fun x j => (x = 9 ∧ j = 1) ∨ x = 10) hc hc' ∧ fp (fun x j => (x = 395 ∧ j = 1) ∨ x = 396) hr hr' := by
  obtain ⟨t1, ⟨t2, t3⟩, t4⟩ := T
  unfold c22 c234
  rw [c191_e]
  simp only [bsome]
  by_cases a : n < 0
  · rw [if_pos a, if_neg (show ¬ (0 ≤ n ∧ n ≤ hI hr 395 1) by omega), if_pos rfl]
    exact ⟨_, _, _, rfl, rfl, ⟨t1, ⟨t2, t3⟩, t4⟩, fp_rf, fp_rf⟩
  · rw [if_neg a]
    by_cases b : n ≤ hI hc 9 1
    · rw [if_pos b, if_pos (show 0 ≤ n ∧ n ≤ hI hr 395 1 by omega), if_neg (show ¬ (1 : Int) = 0 by omega)]
      refine ⟨_, _, _, rfl, rfl, ⟨?_, ?_, ?_⟩, fp_sI (.inl ⟨rfl, rfl⟩), fp_sI (.inl ⟨rfl, rfl⟩)⟩
      · rw [hI_sI, hI_sI, if_pos ⟨rfl, rfl⟩, if_pos ⟨rfl, rfl⟩]
      · rw [hI_sI, if_pos ⟨rfl, rfl⟩]; omega
      · intro i hi
        rw [hI_sI, if_pos ⟨rfl, rfl⟩] at hi
        rw [hI_sI, if_neg (by omega), hI_sI, if_neg (by omega)]
        exact t4 i (by omega)
    · rw [if_neg b, if_neg (show ¬ (0 ≤ n ∧ n ≤ hI hr 395 1) by omega), if_pos rfl]
      exact ⟨_, _, _, rfl, rfl, ⟨t1, ⟨t2, t3⟩, t4⟩, fp_rf, fp_rf⟩
