/-! a block runs alike in both -/
section BLC
variable {h h' h0 h1 t t' t0 t1 t2 : hS} {K : Nat → Int → Prop} {p m q κ F0 d n x c k a tx i pos pos' fu s qq : Nat} {r : Int → Nat} {il v ok f : Int} {L : List Nat} {A X S : List Int} {N : Nat → Nat → Int} {B : Nat → Nat → Int → List Int → Prop} {o : Prop} {j : Nat}
theorem ga (e : A[j]? = some v) : (A ++ X)[j]? = some v := by
  have hj : j < A.length := by
    by_cases z : j < A.length
    · exact z
    · rw [List.getElem?_eq_none (by omega)] at e; cases e
  rw [List.getElem?_append_left hj]
  exact e
theorem gb (e : X[j]? = some v) : (A ++ X)[A.length + j]? = some v := by
  rw [List.getElem?_append_right (Nat.le_add_right _ _), Nat.add_sub_cancel_left]
  exact e
theorem SS_h (w : SS N B o qq i S) : ∃ S', S = 253 :: S' ∧ 1 ≤ S'.length := by
  rcases w with ⟨-, a, A, -, -, -, -, e⟩ | ⟨a, A, w, -, -, -, -, e⟩ | ⟨-, e⟩ | ⟨-, e, -⟩ | ⟨-, -, e⟩ | ⟨-, -, -, e⟩ | ⟨-, a, A, B1, -, -, -, -, ⟨-, e⟩ | ⟨B2, -, e⟩⟩
  · exact ⟨A ++ [61] ++ [N i 1], by rw [e]; simp, by simp⟩
  · exact ⟨A ++ [w], by rw [e]; simp, by simp⟩
  · exact ⟨[208], e, by simp⟩
  · exact ⟨[211], e, by simp⟩
  · exact ⟨[209] ++ [N i 1], by rw [e]; rfl, by simp⟩
  · exact ⟨[1] ++ [N i 1] ++ [210] ++ [N i 2], by rw [e]; rfl, by simp⟩
  · exact ⟨A ++ (212 :: ((qq + 3 + A.length + B1.length : Nat) : Int) :: B1), by rw [e]; simp, by simp; omega⟩
  · exact ⟨A ++ (212 :: ((qq + 5 + A.length + B1.length : Nat) : Int) :: (B1 ++ (213 :: ((qq + 5 + A.length + B1.length + B2.length : Nat) : Int) :: B2))), by rw [e]; simp, by simp; omega⟩
/-- a statement, behind its burning -/
theorem DS_all (IHd : d < 20 → ∀ g, 28 * (20 - d) ≤ g → BDYp K p m q r κ F0 (d + 1) g) (IHk : ∀ k', k = k' + 1 → ∀ g, 28 * (20 - d) + 2 * k' + 4 ≤ g → GBp K p m q r κ F0 d tx k' g) (hk : k ≤ 12) (R : BRt K p m q r κ F0 h t) (G : GOt d h t) (Q : FRQ h t K d (FF F0 d) x c) (ht : tx ≤ 6) (hi : i < 1200) (S0 : SS (ntx t tx) (BK (ntx t tx) 0 k) (k = 12) qq i S) (cd : ∀ (j : Nat) (v : Int), S[j]? = some v → hI h x (qq + j) = v) (hl : qq + S.length < hL h x) (hq : hI h (FF F0 d) 4 = ((qq + 1 : Nat) : Int)) (hil : (il = 0 ∧ (hI h 22 6 = 0 ∨ d ≠ 0 ∨ k ≠ 12)) ∨ (il = 1 ∧ d = 0 ∧ k = 12 ∧ hI h 22 6 ≠ 0)) (hf : 28 * (20 - d) + 2 * k + 3 ≤ fu) : DSq K p m q r κ F0 d x c tx i il (qq + S.length) fu h t ∨ (il = 1 ∧ d = 0 ∧ k = 12 ∧ ntx t tx i 0 = 26 ∧ S = [253] ++ [211]) := by
  have cd' : ∀ S', S = 253 :: S' → ∀ (j : Nat) (v : Int), S'[j]? = some v → hI h x (qq + 1 + j) = v := fun S' e j v hj => by
    have := cd (j + 1) v (by rw [e]; exact hj)
    rw [show qq + (j + 1) = qq + 1 + j by omega] at this
    exact this
  obtain ⟨f1, rfl⟩ : ∃ f1, fu = f1 + 3 := ⟨fu - 3, by omega⟩
  have IH : d < 20 → BDYp K p m q r κ F0 (d + 1) f1 := fun hd => IHd hd f1 (by omega)
  rcases S0 with ⟨s0, a, A, sa, ha, E, nm, e⟩ | ⟨a, A, w, s0, sa, ha, E, e⟩ | ⟨s0, e⟩ | ⟨s0, e, ho⟩ | ⟨s0, nm, e⟩ | ⟨s0, nm, nm2, e⟩ | ⟨s0, a, A, B1, sa, ha, E, b1, e⟩
  · have c1 := cd' (A ++ [61] ++ [ntx t tx i 1]) (by rw [e]; simp)
    have eS : qq + S.length = qq + 1 + (A.length + 2) := by rw [e]; simp; omega
    rw [eS]
    exact .inl (DS_set (fu := f1 + 2) R G Q ht hi s0 sa ha E nm c1 (by omega) hq)
  · have c1 := cd' (A ++ [w]) (by rw [e]; simp)
    have eS : qq + S.length = qq + 1 + (A.length + 1) := by rw [e]; simp; omega
    exact .inl (DS_gf (fu := f1 + 2) R G Q ht hi s0 sa ha E c1 (by omega) hq)
  · have c1 := cd' [208] e 0 208 rfl
    have eS : qq + S.length = qq + 1 + 1 := by rw [e]; rfl
    rw [eS]
    exact .inl (DS_up (fu := f1) IH R G Q ht hi s0 c1 (by omega) hq)
  · have c1 := cd' [211] e 0 211 rfl
    have eS : qq + S.length = qq + 1 + 1 := by rw [e]; rfl
    rcases hil with ⟨z1, z2⟩ | ⟨z1, z2, z3, z4⟩
    · rw [eS]
      exact .inl (DS_rest (fu := f1 + 2) R G Q ht hi s0 c1 (by omega) hq z1 (by
        rcases z2 with z | z | z
        · exact .inl z
        · exact .inr z
        · exact absurd ho z))
    · exact .inr ⟨z1, z2, z3, s0, e⟩
  · have c1 := cd' ([209] ++ [ntx t tx i 1]) (by rw [e]; rfl)
    have eS : qq + S.length = qq + 1 + 2 := by rw [e]; rfl
    rw [eS]
    exact .inl (DS_call (fu := f1) IH R G Q ht hi s0 nm (c1 0 209 rfl) (c1 1 _ rfl) (by omega) hq)
  · have c1 := cd' ([1] ++ [ntx t tx i 1] ++ [210] ++ [ntx t tx i 2]) (by rw [e]; rfl)
    have eS : qq + S.length = qq + 1 + 4 := by rw [e]; rfl
    rw [eS]
    exact .inl (DS_send (fu := f1) IH R G Q ht hi s0 nm nm2 (c1 0 1 rfl) (c1 1 _ rfl) (c1 2 210 rfl) (c1 3 _ rfl) (by omega) hq)
  · match k, IHk, hk, b1, e with
    | 0, _, _, b1, _ => exact False.elim b1
    | k + 1, IHk, hk, b1, e =>
      have ea : qq + 3 + A.length = qq + 1 + A.length + 2 := by omega
      have IHB := IHk k rfl (f1 + 2) (by omega)
      rcases e with ⟨n3, e⟩ | ⟨B2, b2, e⟩
      · have e' : S = 253 :: (A ++ (212 :: (((qq + 3 + A.length + B1.length : Nat) : Int) :: B1))) := by rw [e]; simp
        have c1 := cd' _ e'
        have eS : qq + S.length = qq + 3 + A.length + B1.length := by rw [e']; simp; omega
        rw [eS]
        rw [ea] at b1
        refine .inl (DS_ask (fu := f1 + 2) (q2 := qq + 3 + A.length + B1.length) IHB (by omega) R G Q ht hi s0 sa ha E (by omega) (fun j v hj => c1 j v (ga hj)) (c1 (A.length + 0) 212 (gb rfl)) ?_ b1 (fun j v hj => ?_) (.inl (by omega)) (.inl ⟨n3, rfl⟩) (by omega) hq)
        · rw [Nat.add_assoc]
          exact c1 (A.length + 1) _ (gb rfl)
        · rw [show qq + 1 + A.length + 2 + j = qq + 1 + (A.length + (j + 2)) by omega]
          exact c1 (A.length + (j + 2)) v (gb hj)
      · have e' : S = 253 :: (A ++ (212 :: (((qq + 5 + A.length + B1.length : Nat) : Int) :: (B1 ++ (213 :: (((qq + 5 + A.length + B1.length + B2.length : Nat) : Int) :: B2)))))) := by rw [e]; simp
        have c1 := cd' _ e'
        have eS : qq + S.length = qq + 5 + A.length + B1.length + B2.length := by rw [e']; simp; omega
        rw [eS]
        rw [ea] at b1
        have c2 : ∀ (j : Nat) (v : Int), (B1 ++ (213 :: (((qq + 5 + A.length + B1.length + B2.length : Nat) : Int) :: B2)))[j]? = some v → hI h x (qq + 1 + A.length + 2 + j) = v := fun j v hj => by
          rw [show qq + 1 + A.length + 2 + j = qq + 1 + (A.length + (j + 2)) by omega]
          exact c1 (A.length + (j + 2)) v (gb hj)
        refine .inl (DS_ask (fu := f1 + 2) (q2 := qq + 5 + A.length + B1.length) IHB (by omega) R G Q ht hi s0 sa ha E (by omega) (fun j v hj => c1 j v (ga hj)) (c1 (A.length + 0) 212 (gb rfl)) ?_ b1 (fun j v hj => c2 j v (ga hj)) (.inr ⟨c2 (B1.length + 0) 213 (gb rfl), ?_, by omega⟩) (.inr ⟨B2, b2, fun j v hj => ?_, by omega⟩) (by omega) hq)
        · rw [Nat.add_assoc]
          exact c1 (A.length + 1) _ (gb rfl)
        · rw [Nat.add_assoc (qq + 1 + A.length + 2)]
          exact c2 (B1.length + 1) _ (gb rfl)
        · rw [show qq + 5 + A.length + B1.length + j = qq + 1 + A.length + 2 + (B1.length + (j + 2)) by omega]
          exact c2 (B1.length + (j + 2)) v (gb hj)
end BLC
