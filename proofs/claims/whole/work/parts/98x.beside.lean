/-! patches: steps beside nodes -/
/-- the row cd holds the body whose first node is f -/
def BDc (N : Nat → Nat → Int) (h : hS) (N0 lo M cd : Nat) (f : Int) : Prop := N0 ≤ cd ∧ cd < hN h ∧ hT h cd = 1 ∧ ∃ C : List Int, BK N lo 13 M 0 f C ∧ (hL h cd = C.length + 1 ∧ C.length ≤ 1996) ∧ ∀ (i : Nat) (z : Int), (C ++ [0])[i]? = some z → hI h cd i = z
/-- the row cd holds the rule of the node e -/
def RUc (N : Nat → Nat → Int) (h : hS) (N0 M cd : Nat) (e : Int) : Prop := N0 ≤ cd ∧ cd < hN h ∧ hT h cd = 1 ∧ ∃ (i : Nat) (C : List Int), e = (i : Int) ∧ i < M ∧ EX N (i + 1) 53 i C ∧ (hL h cd = C.length + 1 ∧ C.length ≤ 2000) ∧ ∀ (j : Nat) (z : Int), (C ++ [206])[j]? = some z → hI h cd j = z
/-- a member or an edit of the kind k, in change c: the node i, the step x -/
def MEm (N : Nat → Nat → Int) (h : hS) (N0 lo : Nat) (c k : Int) (i x : Nat) : Prop := ∃ (s o : Int) (cd : Nat), SPc h x s c k (N i 1) o cd ∧ (0 ≤ N i 1 ∧ N i 1 < 40) ∧ ((N i 0 = 30 ∧ (s = 202 ∨ s = 203) ∧ o = N i 2) ∨ (N i 0 = 31 ∧ s = 204 ∧ o = N i 2) ∨ (N i 0 = 32 ∧ s = 205 ∧ BDc N h N0 lo i cd (N i 2)) ∨ (N i 0 = 33 ∧ s = 251) ∨ (N i 0 = 34 ∧ s = 219 ∧ o = N i 2 ∧ 0 ≤ o ∧ o < 40) ∨ (N i 0 = 35 ∧ s = 220 ∧ RUc N h N0 i cd (N i 2)))
def MES (N : Nat → Nat → Int) (h : hS) (N0 lo : Nat) (c k : Int) : List Nat → List Nat → Prop
  | [], ys => ys = []
  | i :: r, ys => ∃ (y : Nat) (t : List Nat), ys = y :: t ∧ MEm N h N0 lo c k i y ∧ MES N h N0 lo c k r t
/-- a name, or none -/
def nmo (v : Int) : Prop := v = -1 ∨ (0 ≤ v ∧ v < 40)
/-- change c: the node i, the steps xs -/
def CHg (N : Nat → Nat → Int) (h : hS) (N0 lo : Nat) (c : Int) (i : Nat) (xs : List Nat) : Prop := (0 ≤ N i 1 ∧ N i 1 < 40) ∧ ∃ (x0 : Nat) (ys : List Nat), xs = x0 :: ys ∧ ((N i 0 = 40 ∧ nmo (N i 2) ∧ SPc h x0 200 c (N i 1) (-1) (N i 2) 0 ∧ ∃ L : List Nat, LK N L (N i 3) ∧ (∀ j ∈ L, (lo ≤ j ∧ j < i) ∧ N j 0 ≤ 32) ∧ MES N h N0 lo c (N i 1) L ys) ∨ (N i 0 = 41 ∧ SPc h x0 216 c (N i 1) (-1) (-1) 0 ∧ ∃ L : List Nat, LK N L (N i 3) ∧ (∀ j ∈ L, lo ≤ j ∧ j < i) ∧ MES N h N0 lo c (N i 1) L ys) ∨ (ys = [] ∧ ((N i 0 = 42 ∧ SPc h x0 217 c (N i 1) (-1) (-1) 0) ∨ (N i 0 = 43 ∧ nmo (N i 2) ∧ SPc h x0 218 c (N i 1) (-1) (N i 2) 0) ∨ (N i 0 = 44 ∧ ∃ cd : Nat, SPc h x0 221 c (N i 1) (-1) (-1) cd ∧ RUc N h N0 i cd (N i 2)))))
def CHS (N : Nat → Nat → Int) (h : hS) (N0 : Nat) : Nat → List Nat → List Nat → Prop
  | _, [], xs => xs = []
  | c, i :: r, xs => ∃ ys zs : List Nat, xs = ys ++ zs ∧ CHg N h N0 0 (c : Int) i ys ∧ CHS N h N0 (c + 1) r zs
/-- so many of the steps are of the sort s -/
def kc (h : hS) (s : Int) : List Nat → Nat
  | [] => 0
  | x :: r => (if hI h x 0 = s then 1 else 0) + kc h s r
/-- how many bytes the tokens take, at least -/
def wgt : List (Int × Nat × Int) → Nat
  | [] => 0
  | t :: r => (if t.1 = 200 ∨ t.1 = 217 then 4 else 1) + wgt r
def tkW (n : Nat) (b : Nat → Int) (l : Nat) : Nat := wgt ((TK n b).take l)
section BSD
variable {N N' : Nat → Nat → Int} {h h' : hS} {N0 N1 M M' i x cd l l' n lo lo' : Nat} {c k f : Int} {L L' xs ys : List Nat} {b : Nat → Int}
theorem BDc_n (B : BDc N h N0 lo M cd f) (e : ∀ t, t < M → ∀ j, j < 3 → N' t j = N t j) (e' : ∀ t, lo ≤ t → t < M → ∀ j, j < 5 → N' t j = N t j) : BDc N' h N0 lo M cd f := by
  obtain ⟨a1, a2, a3, C, a4, a5, a6⟩ := B
  exact ⟨a1, a2, a3, C, BK_cg a4 e e', a5, a6⟩
theorem BDc_up (B : BDc N h N0 lo M cd f) (e : M ≤ M') (e0 : N1 ≤ N0) (el : lo' ≤ lo) : BDc N h N1 lo' M' cd f := by
  obtain ⟨a1, a2, a3, C, a4, a5, a6⟩ := B
  exact ⟨by omega, a2, a3, C, BK_lo el (BK_up a4 e), a5, a6⟩
theorem BDc_h (B : BDc N h N0 lo M cd f) (en : hN h ≤ hN h') (e : sm h h' cd) : BDc N h' N0 lo M cd f := by
  obtain ⟨a1, a2, a3, C, a4, a5, a6⟩ := B
  exact ⟨a1, by omega, by rw [e.2.2.1]; exact a3, C, a4, by rw [e.2.2.2]; exact a5, fun j z hz => by rw [e.1]; exact a6 j z hz⟩
theorem RUc_n (B : RUc N h N0 M cd f) (e : ∀ t, t < M → ∀ j, j < 3 → N' t j = N t j) : RUc N' h N0 M cd f := by
  obtain ⟨a1, a2, a3, i, C, a4, a7, a8, a5, a6⟩ := B
  exact ⟨a1, a2, a3, i, C, a4, a7, EX_cg a8 (fun t ht j hj => e t (by omega) j hj), a5, a6⟩
theorem RUc_up (B : RUc N h N0 M cd f) (e : M ≤ M') (e0 : N1 ≤ N0) : RUc N h N1 M' cd f := by
  obtain ⟨a1, a2, a3, i, C, a4, a7, a8, a5, a6⟩ := B
  exact ⟨by omega, a2, a3, i, C, a4, by omega, a8, a5, a6⟩
theorem RUc_h (B : RUc N h N0 M cd f) (en : hN h ≤ hN h') (e : sm h h' cd) : RUc N h' N0 M cd f := by
  obtain ⟨a1, a2, a3, i, C, a4, a7, a8, a5, a6⟩ := B
  exact ⟨a1, by omega, by rw [e.2.2.1]; exact a3, i, C, a4, a7, a8, by rw [e.2.2.2]; exact a5, fun j z hz => by rw [e.1]; exact a6 j z hz⟩
theorem SPc_h {s nm o : Int} (S : SPc h x s c k nm o cd) (e : sm h h' x) : SPc h' x s c k nm o cd := by
  obtain ⟨a1, a2, a3, a4, a5, a6, a7⟩ := S
  exact ⟨by rw [e.2.2.1]; exact a1, by rw [e.1]; exact a2, by rw [e.1]; exact a3, by rw [e.1]; exact a4, by rw [e.1]; exact a5, by rw [e.1]; exact a6, by rw [e.2.1]; exact a7⟩
theorem ME_n (Q : MEm N h N0 lo c k i x) (e : ∀ t, t < i → ∀ j, j < 3 → N' t j = N t j) (e' : ∀ t, lo ≤ t → t < i → ∀ j, j < 5 → N' t j = N t j) (e4 : ∀ j, j < 4 → N' i j = N i j) : MEm N' h N0 lo c k i x := by
  obtain ⟨s, o, cd, a1, a2, a3⟩ := Q
  have q0 := e4 0 (by omega)
  have q1 := e4 1 (by omega)
  have q2 := e4 2 (by omega)
  refine ⟨s, o, cd, by rw [q1]; exact a1, by rw [q1]; exact a2, ?_⟩
  rw [q0, q2]
  rcases a3 with a | a | ⟨a, a', a''⟩ | a | a | ⟨a, a', a''⟩
  · exact .inl a
  · exact .inr (.inl a)
  · exact .inr (.inr (.inl ⟨a, a', BDc_n a'' e e'⟩))
  · exact .inr (.inr (.inr (.inl a)))
  · exact .inr (.inr (.inr (.inr (.inl a))))
  · exact .inr (.inr (.inr (.inr (.inr ⟨a, a', RUc_n a'' e⟩))))
/-- steps and codes stay -/
def KP (h h' : hS) : Prop := hN h ≤ hN h' ∧ ∀ y, 448 ≤ y → y < hN h → hT h y ≠ 8 → hT h y ≠ 19 → sm h h' y
theorem KP_rf : KP h h := ⟨Nat.le_refl _, fun _ _ _ _ _ => sm_rf⟩
theorem KP_tr {h1 h2 : hS} (a : KP h h1) (b : KP h1 h2) : KP h h2 := ⟨Nat.le_trans a.1 b.1, fun y y1 y2 y3 y4 => by
  have := a.2 y y1 y2 y3 y4
  exact sm_tr this (b.2 y y1 (Nat.lt_of_lt_of_le y2 a.1) (by rw [this.2.2.1]; exact y3) (by rw [this.2.2.1]; exact y4))⟩
theorem KP_FC {p : Nat} (a : FC p h h') : KP h h' := ⟨by rw [(FC_nm a).1]; exact Nat.le_refl _, fun y y1 _ _ _ => FC_x a y (by omega)⟩
theorem KP_sm (a : KP h h') {t : Nat} (y1 : 448 ≤ x) (y2 : x < hN h) (y3 : hT h x = t) (ht : t ≠ 8) (ht' : t ≠ 19) : sm h h' x := a.2 x y1 y2 (by rw [y3]; exact ht) (by rw [y3]; exact ht')
theorem ME_h (Q : MEm N h N0 lo c k i x) (K : KP h h') (h18 : 448 ≤ N0) (hx : N0 ≤ x ∧ x < hN h) : MEm N h' N0 lo c k i x := by
  obtain ⟨s, o, cd, a1, a2, a3⟩ := Q
  refine ⟨s, o, cd, SPc_h a1 (KP_sm K (by omega) hx.2 a1.1 (by omega) (by omega)), a2, ?_⟩
  rcases a3 with a | a | ⟨a, a', a''⟩ | a | a | ⟨a, a', a''⟩
  · exact .inl a
  · exact .inr (.inl a)
  · exact .inr (.inr (.inl ⟨a, a', BDc_h a'' K.1 (KP_sm K (by have := a''.1; omega) a''.2.1 a''.2.2.1 (by omega) (by omega))⟩))
  · exact .inr (.inr (.inr (.inl a)))
  · exact .inr (.inr (.inr (.inr (.inl a))))
  · exact .inr (.inr (.inr (.inr (.inr ⟨a, a', RUc_h a'' K.1 (KP_sm K (by have := a''.1; omega) a''.2.1 a''.2.2.1 (by omega) (by omega))⟩))))
theorem ME_up (Q : MEm N h N0 lo c k i x) (e0 : N1 ≤ N0) (el : lo' ≤ lo) : MEm N h N1 lo' c k i x := by
  obtain ⟨s, o, cd, a1, a2, a3⟩ := Q
  refine ⟨s, o, cd, a1, a2, ?_⟩
  rcases a3 with a | a | ⟨a, a', a''⟩ | a | a | ⟨a, a', a''⟩
  · exact .inl a
  · exact .inr (.inl a)
  · exact .inr (.inr (.inl ⟨a, a', BDc_up a'' (Nat.le_refl _) e0 el⟩))
  · exact .inr (.inr (.inr (.inl a)))
  · exact .inr (.inr (.inr (.inr (.inl a))))
  · exact .inr (.inr (.inr (.inr (.inr ⟨a, a', RUc_up a'' (Nat.le_refl _) e0⟩))))
theorem MES_im : ∀ {L us : List Nat}, (∀ i x, i ∈ L → x ∈ us → MEm N h N0 lo c k i x → MEm N' h' N1 lo' c k i x) → MES N h N0 lo c k L us → MES N' h' N1 lo' c k L us
  | [], _, _, Q => Q
  | i :: r, us, e, Q => by
    obtain ⟨y, t, rfl, q1, q2⟩ := Q
    exact ⟨y, t, rfl, e i y List.mem_cons_self List.mem_cons_self q1, MES_im (fun i x hi hx => e i x (List.mem_cons_of_mem _ hi) (List.mem_cons_of_mem _ hx)) q2⟩
theorem MES_sn : ∀ {L us : List Nat}, MES N h N0 lo c k L us → MEm N h N0 lo c k i x → MES N h N0 lo c k (L ++ [i]) (us ++ [x])
  | [], _, Q, q => by
    have Q : _ = [] := Q
    subst Q
    exact ⟨x, [], rfl, q, rfl⟩
  | j :: r, _, Q, q => by
    obtain ⟨y, t, rfl, q1, q2⟩ := Q
    exact ⟨y, t ++ [x], rfl, q1, MES_sn q2 q⟩
theorem LK_im : ∀ {L : List Nat} {f : Int}, LK N L f → (∀ j ∈ L, N' j 4 = N j 4) → LK N' L f := fun Q e => LK_cg Q e
/-- a change under other nodes and cells -/
theorem CH_c (Q : CHg N h N0 lo c i xs) (e : ∀ t, t < i → ∀ j, j < 3 → N' t j = N t j) (e' : ∀ t, lo ≤ t → t < i → ∀ j, j < 5 → N' t j = N t j) (e4 : ∀ j, j < 4 → N' i j = N i j) (K : KP h h') (h18 : 448 ≤ N0) (hx : ∀ x ∈ xs, N0 ≤ x ∧ x < hN h) : CHg N' h' N0 lo c i xs := by
  obtain ⟨a1, x0, ys, rfl, a2⟩ := Q
  have q0 := e4 0 (by omega)
  have q1 := e4 1 (by omega)
  have q2 := e4 2 (by omega)
  have q3 := e4 3 (by omega)
  have hx0 := hx x0 List.mem_cons_self
  have m : ∀ {L : List Nat}, (∀ j ∈ L, lo ≤ j ∧ j < i) → MES N h N0 lo c (N i 1) L ys → MES N' h' N0 lo c (N i 1) L ys := fun hL Q => MES_im (fun j x hj hx2 q => ME_h (ME_n q (fun t ht u hu => e t (by have := hL j hj; omega) u hu) (fun t tl ht u hu => e' t tl (by have := hL j hj; omega) u hu) (fun u hu => e' j (hL j hj).1 (hL j hj).2 u (by omega))) K h18 (hx x (List.mem_cons_of_mem _ hx2))) Q
  refine ⟨by rw [q1]; exact a1, x0, ys, rfl, ?_⟩
  rw [q0, q1, q2, q3]
  rcases a2 with ⟨b1, b2, b3, L, b4, b5, b6⟩ | ⟨b1, b3, L, b4, b5, b6⟩ | ⟨b0, b⟩
  · exact .inl ⟨b1, b2, SPc_h b3 (KP_sm K (by omega) hx0.2 b3.1 (by omega) (by omega)), L, LK_cg b4 (fun j hj => e' j (b5 j hj).1.1 (b5 j hj).1.2 4 (by omega)), fun j hj => ⟨(b5 j hj).1, by rw [e j (b5 j hj).1.2 0 (by omega)]; exact (b5 j hj).2⟩, m (fun j hj => (b5 j hj).1) b6⟩
  · exact .inr (.inl ⟨b1, SPc_h b3 (KP_sm K (by omega) hx0.2 b3.1 (by omega) (by omega)), L, LK_cg b4 (fun j hj => e' j (b5 j hj).1 (b5 j hj).2 4 (by omega)), b5, m b5 b6⟩)
  · refine .inr (.inr ⟨b0, ?_⟩)
    rcases b with ⟨b1, b3⟩ | ⟨b1, b2, b3⟩ | ⟨b1, cd, b3, b4⟩
    · exact .inl ⟨b1, SPc_h b3 (KP_sm K (by omega) hx0.2 b3.1 (by omega) (by omega))⟩
    · exact .inr (.inl ⟨b1, b2, SPc_h b3 (KP_sm K (by omega) hx0.2 b3.1 (by omega) (by omega))⟩)
    · exact .inr (.inr ⟨b1, cd, SPc_h b3 (KP_sm K (by omega) hx0.2 b3.1 (by omega) (by omega)), RUc_h (RUc_n b4 e) K.1 (KP_sm K (by have := b4.1; omega) b4.2.1 b4.2.2.1 (by omega) (by omega))⟩)
theorem CH_up (Q : CHg N h N0 lo c i xs) (e0 : N1 ≤ N0) (el : lo' ≤ lo) : CHg N h N1 lo' c i xs := by
  obtain ⟨a1, x0, ys, rfl, a2⟩ := Q
  have m : ∀ {L : List Nat}, MES N h N0 lo c (N i 1) L ys → MES N h N1 lo' c (N i 1) L ys := fun Q => MES_im (fun j x _ _ q => ME_up q e0 el) Q
  refine ⟨a1, x0, ys, rfl, ?_⟩
  rcases a2 with ⟨b1, b2, b3, L, b4, b5, b6⟩ | ⟨b1, b3, L, b4, b5, b6⟩ | ⟨b0, b⟩
  · exact .inl ⟨b1, b2, b3, L, b4, fun j hj => ⟨⟨by have := (b5 j hj).1.1; omega, (b5 j hj).1.2⟩, (b5 j hj).2⟩, m b6⟩
  · exact .inr (.inl ⟨b1, b3, L, b4, fun j hj => ⟨by have := (b5 j hj).1; omega, (b5 j hj).2⟩, m b6⟩)
  · refine .inr (.inr ⟨b0, ?_⟩)
    rcases b with b | b | ⟨b1, cd, b3, b4⟩
    · exact .inl b
    · exact .inr (.inl b)
    · exact .inr (.inr ⟨b1, cd, b3, RUc_up b4 (Nat.le_refl _) e0⟩)
theorem CHS_im : ∀ {L xs : List Nat} {c : Nat}, (∀ (c : Nat) (i : Nat) ys, i ∈ L → (∀ x ∈ ys, x ∈ xs) → CHg N h N0 0 (c : Int) i ys → CHg N' h' N1 0 (c : Int) i ys) → CHS N h N0 c L xs → CHS N' h' N1 c L xs
  | [], _, _, _, Q => Q
  | i :: r, xs, c, e, Q => by
    obtain ⟨ys, zs, rfl, q1, q2⟩ := Q
    exact ⟨ys, zs, rfl, e c i ys List.mem_cons_self (fun x hx => List.mem_append_left _ hx) q1, CHS_im (fun c i ys hi hx => e c i ys (List.mem_cons_of_mem _ hi) (fun x hx2 => List.mem_append_right _ (hx x hx2))) q2⟩
theorem CHS_sn : ∀ {L xs ys : List Nat} {c : Nat}, CHS N h N0 c L xs → CHg N h N0 0 ((c + L.length : Nat) : Int) i ys → CHS N h N0 c (L ++ [i]) (xs ++ ys)
  | [], xs, ys, c, Q, q => by
    have Q : xs = [] := Q
    subst Q
    exact ⟨ys, [], by simp, q, rfl⟩
  | j :: r, xs, ys, c, Q, q => by
    obtain ⟨us, vs, rfl, q1, q2⟩ := Q
    refine ⟨us, vs ++ ys, by simp, q1, CHS_sn q2 ?_⟩
    rw [List.length_cons] at q
    rw [show c + 1 + r.length = c + (r.length + 1) by omega]
    exact q
theorem kc_app {s : Int} : ∀ xs ys : List Nat, kc h s (xs ++ ys) = kc h s xs + kc h s ys
  | [], ys => by show kc h s ys = 0 + _; omega
  | x :: r, ys => by
    show (if hI h x 0 = s then 1 else 0) + kc h s (r ++ ys) = (if hI h x 0 = s then 1 else 0) + kc h s r + kc h s ys
    rw [kc_app r ys]
    omega
theorem kc_cg {s : Int} : ∀ xs : List Nat, (∀ x ∈ xs, hI h' x 0 = hI h x 0) → kc h' s xs = kc h s xs
  | [], _ => rfl
  | x :: r, e => by
    show (if hI h' x 0 = s then 1 else 0) + kc h' s r = (if hI h x 0 = s then 1 else 0) + kc h s r
    rw [e x List.mem_cons_self, kc_cg r (fun y hy => e y (List.mem_cons_of_mem _ hy))]
theorem wgt_app : ∀ xs ys : List (Int × Nat × Int), wgt (xs ++ ys) = wgt xs + wgt ys
  | [], ys => by show wgt ys = 0 + _; omega
  | x :: r, ys => by
    show (if x.1 = 200 ∨ x.1 = 217 then 4 else 1) + wgt (r ++ ys) = (if x.1 = 200 ∨ x.1 = 217 then 4 else 1) + wgt r + wgt ys
    rw [wgt_app r ys]
    omega
theorem tkW_s {s v : Int} {a : Nat} (e : (TK n b)[l]? = some (s, a, v)) : tkW n b (l + 1) = tkW n b l + (if s = 200 ∨ s = 217 then 4 else 1) := by
  unfold tkW
  rw [List.take_add_one, e, wgt_app]
  rfl
theorem tkW_1 (hl : l < (TK n b).length) : tkW n b l + 1 ≤ tkW n b (l + 1) := by
  obtain ⟨⟨s, a, v⟩, e⟩ : ∃ t, (TK n b)[l]? = some t := ⟨_, List.getElem?_eq_getElem hl⟩
  rw [tkW_s e]
  split <;> omega
theorem tkW_m {e : Nat} (hl : l + e ≤ (TK n b).length) : tkW n b l + e ≤ tkW n b (l + e) := by
  induction e with
  | zero => exact Nat.le_refl _
  | succ e ih =>
    have := ih (by omega)
    have := tkW_1 (n := n) (b := b) (l := l + e) (by omega)
    rw [show l + (e + 1) = l + e + 1 by omega]
    omega
end BSD
