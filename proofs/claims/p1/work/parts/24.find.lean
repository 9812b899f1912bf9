/-! every entry of a list, and what a look into it finds -/
def mt_All (p : Nat → mmE → Prop) : List (Nat × mmE) → Prop
  | [] => True
  | q :: r => p q.1 q.2 ∧ mt_All p r
theorem mt_find {p : Nat → mmE → Prop} : ∀ {l : List (Nat × mmE)} {pc : Nat} {en : mmE}, mt_All p l → mt_at l pc = some en → p pc en
  | [], _, _, _, h => by cases h
  | (a, e) :: r, pc, en, h, g => by
    simp only [mt_at] at g
    cases hq : Nat.beq a pc with
    | true =>
      rw [hq] at g
      cases g
      have := Nat.eq_of_beq_eq_true hq
      subst this
      exact h.1
    | false =>
      rw [hq] at g
      exact mt_find h.2 g
theorem mt_cut {l : List (Nat × mmE)} {p : Nat × mmE → Bool} (a n : Nat) (h1 : ((l.drop a).take n).all p = true) (h2 : (l.drop (a + n)).all p = true) : (l.drop a).all p = true := by
  rw [← List.take_append_drop n (l.drop a), List.all_append, h1, Bool.true_and, List.drop_drop]
  exact h2
def mt_ckD (bytes : ByteArray) (q : Nat × mmE) : Bool := match decode bytes q.1 with
  | .ok (i, n) => decide (i = q.2.1) && (match mm_ln q.2.1 with
    | some k => Nat.beq n k
    | none => true)
  | .error _ => false
theorem mt_findD {bytes : ByteArray} : ∀ {l : List (Nat × mmE)} {pc : Nat} {en : mmE}, l.all (mt_ckD bytes) = true → mt_at l pc = some en → mm_okD bytes pc en
  | [], _, _, _, h => by cases h
  | (a, e) :: r, pc, en, h, g => by
    rw [List.all_cons, Bool.and_eq_true] at h
    simp only [mt_at] at g
    cases hq : Nat.beq a pc with
    | true =>
      rw [hq] at g
      cases g
      have := Nat.eq_of_beq_eq_true hq
      subst this
      have h1 := h.1
      unfold mt_ckD at h1
      split at h1
      · rename_i i n hd
        rw [Bool.and_eq_true] at h1
        obtain ⟨h2, h3⟩ := h1
        have h2 : i = e.1 := of_decide_eq_true h2
        subst h2
        unfold mm_okD
        split at h3
        · rename_i k hk
          rw [hk]
          have := Nat.eq_of_beq_eq_true h3
          subst this
          exact hd
        · rename_i hk
          rw [hk]
          exact ⟨n, hd⟩
      · cases h1
    | false =>
      rw [hq] at g
      exact mt_findD h.2 g
theorem mt_inj {α β γ : Type} {a a' : α} {b b' : β} {c c' : γ} (h : some (a, b, c) = some (a', b', c')) : a = a' ∧ b = b' ∧ c = c' := by
  cases h
  exact ⟨rfl, rfl, rfl⟩
def mt_Good (xs : List Int32) (oA : Nat → Nat) (dA : Nat → ClassId) (k : Nat) : Prop := ∀ (y : MethodName) (bytes : ByteArray) (ret : Option FieldType), mt_Mt k = some (y, bytes, ret) → plainName y.cls = true ∧ ∀ (pc : Nat) (en : mmE), mt_code k pc = some en → mm_okI mt_Ts (mt_P xs) (mt_G oA dA) mt_cl mt_X mt_Mt y ret pc en ∧ mm_okD bytes pc en
