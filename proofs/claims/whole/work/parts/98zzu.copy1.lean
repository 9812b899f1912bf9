/-! a patch is made: a kind is copied -/
section CPK
variable {h h' h0 h1 h3 hX : hS} {a k x y n m p q : Nat}
theorem h2_T {h h' : hS} (e : h'.2 = h.2) (x : Nat) : hT h' x = hT h x := by show h'.2.2.2.1 x = h.2.2.2.1 x; rw [e]
theorem h2_L {h h' : hS} (e : h'.2 = h.2) (x : Nat) : hL h' x = hL h x := by show h'.2.2.2.2.1 x = h.2.2.2.2.1 x; rw [e]
theorem h2_R {h h' : hS} (e : h'.2 = h.2) (x j : Nat) : hR h' x j = hR h x j := by show h'.2.1 x j = h.2.1 x j; rw [e]
theorem h2_N {h h' : hS} (e : h'.2 = h.2) : hN h' = hN h := by show h'.2.2.2.2.2.1 = h.2.2.2.2.2.1; rw [e]
theorem h2_M {h h' : hS} (e : h'.2 = h.2) : hM h' = hM h := by show h'.2.2.2.2.2.2 = h.2.2.2.2.2.2; rw [e]
theorem hI_sCI {x sp y dp n z j : Nat} : hI (sCI h x sp y dp n) z j = if z = y ∧ dp ≤ j ∧ j < dp + n then hI h x (j - dp + sp) else hI h z j := rfl
theorem hR_sCR {x sp y dp n z j : Nat} : hR (sCR h x sp y dp n) z j = if z = y ∧ dp ≤ j ∧ j < dp + n then hR h x (j - dp + sp) else hR h z j := rfl
theorem cpI_n {t : Nat} (s d n : Nat) {z1 z2 z3 : Int} (q : hT h x = t) (q' : hT h y = t) (x8 : 8 ≤ x) (y8 : 8 ≤ y) (e1 : z1 = (s : Int)) (e2 : z2 = (d : Int)) (e3 : z3 = (n : Int)) (b1 : s + n ≤ hL h x) (b2 : d + n ≤ hL h y) (b3 : t = 1 ∨ ∀ j, j < n → hI h x (s + j) = 0 ∨ hI h x (s + j) = 1) : cpI h x y t z1 z2 z3 = some (sCI h x s y d n) := by
  subst e1 e2 e3
  unfold cpI
  rw [Int.toNat_natCast, Int.toNat_natCast, Int.toNat_natCast, if_pos ⟨⟨q, q', x8, y8⟩, ⟨by omega, by omega, by omega⟩, by omega, by omega, b3⟩]
theorem cpR_n {t te : Nat} (s d n : Nat) {z1 z2 z3 : Int} (q : hT h x = t) (q' : hT h y = t) (x8 : 8 ≤ x) (y8 : 8 ≤ y) (e1 : z1 = (s : Int)) (e2 : z2 = (d : Int)) (e3 : z3 = (n : Int)) (b1 : s + n ≤ hL h x) (b2 : d + n ≤ hL h y) (b3 : ∀ j, j < n → hR h x (s + j) = 0 ∨ hT h (hR h x (s + j)) = te) : cpR h x y t te z1 z2 z3 = some (sCR h x s y d n) := by
  subst e1 e2 e3
  unfold cpR
  rw [Int.toNat_natCast, Int.toNat_natCast, Int.toNat_natCast, if_pos ⟨⟨q, q', x8, y8⟩, ⟨by omega, by omega, by omega⟩, by omega, by omega, b3⟩]
theorem cpk {α : Type} {G : hS → Option α} {f1 f2 o1 o2 c : Nat} (n : Nat) (Ta : hT hX a = 24) (Tk : hT hX k = 24) (e1 : hR hX a f1 = a + o1) (e2 : hR hX k f2 = k + o2) (ec : hI hX a c = (n : Int)) (t1 : hT hX (a + o1) = 1) (t2 : hT hX (k + o2) = 1) (a8 : 8 ≤ a) (k8 : 8 ≤ k) (b1 : n ≤ hL hX (a + o1)) (b2 : n ≤ hL hX (k + o2)) : ((gR hX a 24 f1).bind fun v => (gR hX k 24 f2).bind fun w => (gI hX a 24 c).bind fun z => (cpI hX v w 1 0 0 z).bind G) = G (sCI hX (a + o1) 0 (k + o2) 0 n) := by
  rw [gR_s Ta, gR_s Tk, gI_s Ta, e1, e2, ec]
  refine bnd rfl ?_
  refine bnd rfl ?_
  refine bnd rfl ?_
  refine bnd (cpI_n 0 0 n t1 t2 (by omega) (by omega) rfl rfl rfl (by omega) (by omega) (.inl rfl)) rfl
theorem c141_r {h6 h8 h12 h16 h20 h22 h26 h30 h32 h36 : hS} {g : Int} {F S A : Nat} (hak : a + 12 < k) (e6 : h6 = sI h3 k 2 g) (e8 : h8 = sI h6 k 4 (F : Int)) (e12 : h12 = sCI h8 (a + 1) 0 (k + 1) 0 F) (e16 : h16 = sCI h12 (a + 2) 0 (k + 2) 0 F) (e20 : h20 = sCI h16 (a + 1) 0 (k + 3) 0 F) (e22 : h22 = sI h20 k 8 (S : Int)) (e26 : h26 = sCI h22 (a + 4) 0 (k + 4) 0 S) (e30 : h30 = sCI h26 (a + 5) 0 (k + 5) 0 S) (e32 : h32 = sI h30 k 11 (A : Int)) (e36 : h36 = sCI h32 (a + 6) 0 (k + 6) 0 A) : (hI h36 k 0 = hI h3 k 0 ∧ hI h36 k 2 = g ∧ hI h36 k 3 = hI h3 k 3 ∧ hI h36 k 4 = (F : Int) ∧ hI h36 k 8 = (S : Int) ∧ hI h36 k 11 = (A : Int)) ∧ (∀ i, i < F → hI h36 (k + 1) i = hI h8 (a + 1) i ∧ hI h36 (k + 2) i = hI h12 (a + 2) i ∧ hI h36 (k + 3) i = hI h16 (a + 1) i) ∧ (∀ i, i < S → hI h36 (k + 4) i = hI h22 (a + 4) i ∧ hI h36 (k + 5) i = hI h26 (a + 5) i) ∧ (∀ i, i < A → hI h36 (k + 6) i = hI h32 (a + 6) i) ∧ ∀ n, hI h36 (k + 8) n = hI h3 (k + 8) n := by
  have o36 : ∀ x j, x ≠ k + 6 → hI h36 x j = hI h32 x j := fun x j hx => by rw [e36, hI_sCI, if_neg (fun z => hx z.1)]
  have o32 : ∀ x j, ¬ (x = k ∧ j = 11) → hI h32 x j = hI h30 x j := fun x j hx => by rw [e32, hI_sI, if_neg hx]
  have o30 : ∀ x j, x ≠ k + 5 → hI h30 x j = hI h26 x j := fun x j hx => by rw [e30, hI_sCI, if_neg (fun z => hx z.1)]
  have o26 : ∀ x j, x ≠ k + 4 → hI h26 x j = hI h22 x j := fun x j hx => by rw [e26, hI_sCI, if_neg (fun z => hx z.1)]
  have o22 : ∀ x j, ¬ (x = k ∧ j = 8) → hI h22 x j = hI h20 x j := fun x j hx => by rw [e22, hI_sI, if_neg hx]
  have o20 : ∀ x j, x ≠ k + 3 → hI h20 x j = hI h16 x j := fun x j hx => by rw [e20, hI_sCI, if_neg (fun z => hx z.1)]
  have o16 : ∀ x j, x ≠ k + 2 → hI h16 x j = hI h12 x j := fun x j hx => by rw [e16, hI_sCI, if_neg (fun z => hx z.1)]
  have o12 : ∀ x j, x ≠ k + 1 → hI h12 x j = hI h8 x j := fun x j hx => by rw [e12, hI_sCI, if_neg (fun z => hx z.1)]
  have o8 : ∀ x j, ¬ (x = k ∧ j = 4) → hI h8 x j = hI h6 x j := fun x j hx => by rw [e8, hI_sI, if_neg hx]
  have o6 : ∀ x j, ¬ (x = k ∧ j = 2) → hI h6 x j = hI h3 x j := fun x j hx => by rw [e6, hI_sI, if_neg hx]
  have n1 : ∀ o, k ≠ k + (o + 1) := fun o => by omega
  have kk : ∀ j, j ≠ 11 → hI h36 k j = hI h26 k j := fun j hj => by rw [o36 k j (by omega), o32 k j (fun z => hj z.2), o30 k j (by omega)]
  have k2 : ∀ j, j ≠ 11 → j ≠ 8 → hI h36 k j = hI h8 k j := fun j hj h8' => by rw [kk j hj, o26 k j (by omega), o22 k j (fun z => h8' z.2), o20 k j (by omega), o16 k j (by omega), o12 k j (by omega)]
  refine ⟨⟨?_, ?_, ?_, ?_, ?_, ?_⟩, fun i hi => ⟨?_, ?_, ?_⟩, fun i hi => ⟨?_, ?_⟩, fun i hi => ?_, fun n => ?_⟩
  · rw [k2 0 (by omega) (by omega), o8 k 0 (by omega), o6 k 0 (by omega)]
  · rw [k2 2 (by omega) (by omega), o8 k 2 (by omega), e6, hI_sI, if_pos ⟨rfl, rfl⟩]
  · rw [k2 3 (by omega) (by omega), o8 k 3 (by omega), o6 k 3 (by omega)]
  · rw [k2 4 (by omega) (by omega), e8, hI_sI, if_pos ⟨rfl, rfl⟩]
  · rw [kk 8 (by omega), o26 k 8 (by omega), e22, hI_sI, if_pos ⟨rfl, rfl⟩]
  · rw [o36 k 11 (by omega), e32, hI_sI, if_pos ⟨rfl, rfl⟩]
  · rw [o36 _ _ (by omega), o32 _ _ (by omega), o30 _ _ (by omega), o26 _ _ (by omega), o22 _ _ (by omega), o20 _ _ (by omega), o16 _ _ (by omega), e12, hI_sCI, if_pos ⟨rfl, by omega, by omega⟩]
    rfl
  · rw [o36 _ _ (by omega), o32 _ _ (by omega), o30 _ _ (by omega), o26 _ _ (by omega), o22 _ _ (by omega), o20 _ _ (by omega), e16, hI_sCI, if_pos ⟨rfl, by omega, by omega⟩]
    rfl
  · rw [o36 _ _ (by omega), o32 _ _ (by omega), o30 _ _ (by omega), o26 _ _ (by omega), o22 _ _ (by omega), e20, hI_sCI, if_pos ⟨rfl, by omega, by omega⟩]
    rfl
  · rw [o36 _ _ (by omega), o32 _ _ (by omega), o30 _ _ (by omega), e26, hI_sCI, if_pos ⟨rfl, by omega, by omega⟩]
    rfl
  · rw [o36 _ _ (by omega), o32 _ _ (by omega), e30, hI_sCI, if_pos ⟨rfl, by omega, by omega⟩]
    rfl
  · rw [e36, hI_sCI, if_pos ⟨rfl, by omega, by omega⟩]
    rfl
  · rw [o36 _ _ (by omega), o32 _ _ (by omega), o30 _ _ (by omega), o26 _ _ (by omega), o22 _ _ (by omega), o20 _ _ (by omega), o16 _ _ (by omega), o12 _ _ (by omega), o8 _ _ (by omega), o6 _ _ (by omega)]
theorem c141_c {F S A : Nat} (Q : KD h a) (hF : hI h a 4 = (F : Int)) (F8 : F ≤ 8) (hS8 : hI h a 8 = (S : Int)) (S4 : S ≤ 4) (hA : hI h a 11 = (A : Int)) (A8 : A ≤ 8) (cd : ∀ i, i < A → hR h (a + 7) i < hN h ∧ hT h (hR h (a + 7) i) = 1) (hk : hN h = k) : ∃ m1 h3 h6 h8 h12 h16 h20 h22 h26 h30 h32 h36 h40 : hS, m1 = mkH h 24 19 ∧ (hN h3 = k + 13 ∧ hM h3 = hM m1 + 248 ∧ KD h3 k ∧ (∀ x j, hI h3 x j = if x = k ∧ j = 0 then hI h a 0 else if k + 1 ≤ x ∧ x < k + 13 then 0 else hI m1 x j) ∧ (∀ x j, x < k → hR h3 x j = hR m1 x j) ∧ (∀ j, j ≤ 4 → hR h3 k j = hR m1 k j) ∧ (∀ x j, k + 1 ≤ x → x < k + 13 → hR h3 x j = 0) ∧ (∀ x, x < k + 1 → hT h3 x = hT m1 x ∧ hL h3 x = hL m1 x)) ∧ (h6 = sI h3 k 2 (hI h a 2) ∧ h8 = sI h6 k 4 (F : Int) ∧ h12 = sCI h8 (a + 1) 0 (k + 1) 0 F ∧ h16 = sCI h12 (a + 2) 0 (k + 2) 0 F ∧ h20 = sCI h16 (a + 1) 0 (k + 3) 0 F ∧ h22 = sI h20 k 8 (S : Int) ∧ h26 = sCI h22 (a + 4) 0 (k + 4) 0 S ∧ h30 = sCI h26 (a + 5) 0 (k + 5) 0 S ∧ h32 = sI h30 k 11 (A : Int) ∧ h36 = sCI h32 (a + 6) 0 (k + 6) 0 A ∧ h40 = sCR h36 (a + 7) 0 (k + 7) 0 A) ∧ c141 a h = some (k, h40) := by
  have ha := Q.1
  have hak : a + 12 < k := by rw [← hk]; exact Q.2.1
  obtain ⟨m1, em1⟩ : ∃ m1, m1 = mkH h 24 19 := ⟨_, rfl⟩
  have mI : ∀ x j, x < k → hI m1 x j = hI h x j := fun x j hx => by rw [em1, hI_mk, if_neg (by omega)]
  have mR : ∀ x j, hR m1 x j = if x = k then 0 else hR h x j := fun x j => by rw [em1, hR_mk, hk]
  have mT : ∀ x, x < k → hT m1 x = hT h x := fun x hx => by rw [em1, hT_mk, if_neg (by omega)]
  have mL : ∀ x, x < k → hL m1 x = hL h x := fun x hx => by rw [em1, hL_mk, if_neg (by omega)]
  have mN : hN m1 = k + 1 := by rw [em1, hN_mk, hk]
  have mM : hM m1 = hM h + 19 := by rw [em1, hM_mk]
  have mk24 : hT m1 k = 24 := by rw [em1, hT_mk, if_pos hk.symm]
  obtain ⟨h3, e57, n3, m3, Qk, i3, r3, r3k, r3z, t3⟩ := c57_k (n := hI h a 0) (show 448 ≤ k by omega) mN mk24
  have lI : ∀ x j, x < k → hI h3 x j = hI h x j := fun x j hx => by rw [i3, if_neg (by omega), if_neg (by omega), mI x j hx]
  have lR : ∀ x j, x < k → hR h3 x j = hR h x j := fun x j hx => by rw [r3 x j hx, mR, if_neg (by omega)]
  have lT : ∀ x, x < k → hT h3 x = hT h x := fun x hx => by rw [(t3 x (by omega)).1, mT x hx]
  have lL : ∀ x, x < k → hL h3 x = hL h x := fun x hx => by rw [(t3 x (by omega)).2, mL x hx]
  obtain ⟨q5, q5t, q5l⟩ := KD5 Q
  obtain ⟨q6, q6t, q6l⟩ := KD6 Q
  obtain ⟨q9, q9t, q9l⟩ := KD9 Q
  obtain ⟨q10, q10t, q10l⟩ := KD10 Q
  obtain ⟨q12, q12t, q12l⟩ := KD12 Q
  obtain ⟨q13, q13t, q13l⟩ := KD13 Q
  obtain ⟨u5, u5t, u5l⟩ := KD5 Qk
  obtain ⟨u6, u6t, u6l⟩ := KD6 Qk
  obtain ⟨u7, u7t, u7l⟩ := KD7 Qk
  obtain ⟨u9, u9t, u9l⟩ := KD9 Qk
  obtain ⟨u10, u10t, u10l⟩ := KD10 Qk
  obtain ⟨u12, u12t, u12l⟩ := KD12 Qk
  obtain ⟨u13, u13t, u13l⟩ := KD13 Qk
  have Ta : hT h3 a = 24 := by rw [lT a (by omega)]; exact Q.2.2.1
  have Tk := Qk.2.2.1
  obtain ⟨h6, e6⟩ : ∃ h6, h6 = sI h3 k 2 (hI h a 2) := ⟨_, rfl⟩
  obtain ⟨h8, e8⟩ : ∃ h8, h8 = sI h6 k 4 (F : Int) := ⟨_, rfl⟩
  obtain ⟨h12, e12⟩ : ∃ h12, h12 = sCI h8 (a + 1) 0 (k + 1) 0 F := ⟨_, rfl⟩
  obtain ⟨h16, e16⟩ : ∃ h16, h16 = sCI h12 (a + 2) 0 (k + 2) 0 F := ⟨_, rfl⟩
  obtain ⟨h20, e20⟩ : ∃ h20, h20 = sCI h16 (a + 1) 0 (k + 3) 0 F := ⟨_, rfl⟩
  obtain ⟨h22, e22⟩ : ∃ h22, h22 = sI h20 k 8 (S : Int) := ⟨_, rfl⟩
  obtain ⟨h26, e26⟩ : ∃ h26, h26 = sCI h22 (a + 4) 0 (k + 4) 0 S := ⟨_, rfl⟩
  obtain ⟨h30, e30⟩ : ∃ h30, h30 = sCI h26 (a + 5) 0 (k + 5) 0 S := ⟨_, rfl⟩
  obtain ⟨h32, e32⟩ : ∃ h32, h32 = sI h30 k 11 (A : Int) := ⟨_, rfl⟩
  obtain ⟨h36, e36⟩ : ∃ h36, h36 = sCI h32 (a + 6) 0 (k + 6) 0 A := ⟨_, rfl⟩
  obtain ⟨h40, e40⟩ : ∃ h40, h40 = sCR h36 (a + 7) 0 (k + 7) 0 A := ⟨_, rfl⟩
  have g6 : h6.2 = h3.2 ∧ ∀ x j, x < k → hI h6 x j = hI h x j := ⟨by rw [e6]; rfl, fun x j hx => by rw [e6, hI_sI, if_neg (by omega), lI x j hx]⟩
  have g8 : h8.2 = h3.2 ∧ ∀ x j, x < k → hI h8 x j = hI h x j := ⟨by rw [← g6.1, e8]; rfl, fun x j hx => by rw [e8, hI_sI, if_neg (by omega), g6.2 x j hx]⟩
  have g12 : h12.2 = h3.2 ∧ ∀ x j, x < k → hI h12 x j = hI h x j := ⟨by rw [← g8.1, e12]; rfl, fun x j hx => by rw [e12, hI_sCI, if_neg (by omega), g8.2 x j hx]⟩
  have g16 : h16.2 = h3.2 ∧ ∀ x j, x < k → hI h16 x j = hI h x j := ⟨by rw [← g12.1, e16]; rfl, fun x j hx => by rw [e16, hI_sCI, if_neg (by omega), g12.2 x j hx]⟩
  have g20 : h20.2 = h3.2 ∧ ∀ x j, x < k → hI h20 x j = hI h x j := ⟨by rw [← g16.1, e20]; rfl, fun x j hx => by rw [e20, hI_sCI, if_neg (by omega), g16.2 x j hx]⟩
  have g22 : h22.2 = h3.2 ∧ ∀ x j, x < k → hI h22 x j = hI h x j := ⟨by rw [← g20.1, e22]; rfl, fun x j hx => by rw [e22, hI_sI, if_neg (by omega), g20.2 x j hx]⟩
  have g26 : h26.2 = h3.2 ∧ ∀ x j, x < k → hI h26 x j = hI h x j := ⟨by rw [← g22.1, e26]; rfl, fun x j hx => by rw [e26, hI_sCI, if_neg (by omega), g22.2 x j hx]⟩
  have g30 : h30.2 = h3.2 ∧ ∀ x j, x < k → hI h30 x j = hI h x j := ⟨by rw [← g26.1, e30]; rfl, fun x j hx => by rw [e30, hI_sCI, if_neg (by omega), g26.2 x j hx]⟩
  have g32 : h32.2 = h3.2 ∧ ∀ x j, x < k → hI h32 x j = hI h x j := ⟨by rw [← g30.1, e32]; rfl, fun x j hx => by rw [e32, hI_sI, if_neg (by omega), g30.2 x j hx]⟩
  have g36 : h36.2 = h3.2 ∧ ∀ x j, x < k → hI h36 x j = hI h x j := ⟨by rw [← g32.1, e36]; rfl, fun x j hx => by rw [e36, hI_sCI, if_neg (by omega), g32.2 x j hx]⟩
  have tT : ∀ {X : hS}, X.2 = h3.2 → ∀ x, hT X x = hT h3 x := fun e x => h2_T e x
  have tL : ∀ {X : hS}, X.2 = h3.2 → ∀ x, hL X x = hL h3 x := fun e x => h2_L e x
  have tR : ∀ {X : hS}, X.2 = h3.2 → ∀ x j, hR X x j = hR h3 x j := fun e x j => h2_R e x j
  have ek : ∀ {X : hS}, X.2 = h3.2 → hT X a = 24 ∧ hT X k = 24 := fun e => ⟨by rw [tT e]; exact Ta, by rw [tT e]; exact Tk⟩
  refine ⟨m1, h3, h6, h8, h12, h16, h20, h22, h26, h30, h32, h36, h40, em1, ⟨n3, m3, Qk, i3, r3, r3k, r3z, t3⟩, ⟨e6, e8, e12, e16, e20, e22, e26, e30, e32, e36, e40⟩, ?_⟩
  unfold c141
  rw [hk, ← em1]
  refine bnd rfl ?_
  refine bnd (gI_s (by rw [mT a (by omega)]; exact Q.2.2.1)) ?_
  refine bnd (k8_s (by omega)) ?_
  rw [mI a 0 (by omega)]
  refine bnd e57 ?_
  refine bnd (gI_s Ta) ?_
  rw [lI a 2 (by omega)]
  refine bnd ((pI_s Tk).trans (congrArg some e6.symm)) ?_
  refine bnd (gI_s (ek g6.1).1) ?_
  rw [g6.2 a 4 (by omega), hF]
  refine bnd ((pI_s (ek g6.1).2).trans (congrArg some e8.symm)) ?_
  refine (cpk (o1 := 1) (o2 := 1) F (ek g8.1).1 (ek g8.1).2 (by rw [tR g8.1, lR a 5 (by omega)]; exact q5) (by rw [tR g8.1]; exact u5) (by rw [g8.2 a 4 (by omega)]; exact hF) (by rw [tT g8.1, lT _ (by omega)]; exact q5t) (by rw [tT g8.1]; exact u5t) (by omega) (by omega) (by rw [tL g8.1, lL _ (by omega), q5l]; exact F8) (by rw [tL g8.1, u5l]; exact F8)).trans ?_
  rw [← e12]
  refine (cpk (o1 := 2) (o2 := 2) F (ek g12.1).1 (ek g12.1).2 (by rw [tR g12.1, lR a 6 (by omega)]; exact q6) (by rw [tR g12.1]; exact u6) (by rw [g12.2 a 4 (by omega)]; exact hF) (by rw [tT g12.1, lT _ (by omega)]; exact q6t) (by rw [tT g12.1]; exact u6t) (by omega) (by omega) (by rw [tL g12.1, lL _ (by omega), q6l]; exact F8) (by rw [tL g12.1, u6l]; exact F8)).trans ?_
  rw [← e16]
  refine (cpk (o1 := 1) (o2 := 3) F (ek g16.1).1 (ek g16.1).2 (by rw [tR g16.1, lR a 5 (by omega)]; exact q5) (by rw [tR g16.1]; exact u7) (by rw [g16.2 a 4 (by omega)]; exact hF) (by rw [tT g16.1, lT _ (by omega)]; exact q5t) (by rw [tT g16.1]; exact u7t) (by omega) (by omega) (by rw [tL g16.1, lL _ (by omega), q5l]; exact F8) (by rw [tL g16.1, u7l]; exact F8)).trans ?_
  rw [← e20]
  refine bnd (gI_s (ek g20.1).1) ?_
  rw [g20.2 a 8 (by omega), hS8]
  refine bnd ((pI_s (ek g20.1).2).trans (congrArg some e22.symm)) ?_
  refine (cpk (o1 := 4) (o2 := 4) S (ek g22.1).1 (ek g22.1).2 (by rw [tR g22.1, lR a 9 (by omega)]; exact q9) (by rw [tR g22.1]; exact u9) (by rw [g22.2 a 8 (by omega)]; exact hS8) (by rw [tT g22.1, lT _ (by omega)]; exact q9t) (by rw [tT g22.1]; exact u9t) (by omega) (by omega) (by rw [tL g22.1, lL _ (by omega), q9l]; exact S4) (by rw [tL g22.1, u9l]; exact S4)).trans ?_
  rw [← e26]
  refine (cpk (o1 := 5) (o2 := 5) S (ek g26.1).1 (ek g26.1).2 (by rw [tR g26.1, lR a 10 (by omega)]; exact q10) (by rw [tR g26.1]; exact u10) (by rw [g26.2 a 8 (by omega)]; exact hS8) (by rw [tT g26.1, lT _ (by omega)]; exact q10t) (by rw [tT g26.1]; exact u10t) (by omega) (by omega) (by rw [tL g26.1, lL _ (by omega), q10l]; exact S4) (by rw [tL g26.1, u10l]; exact S4)).trans ?_
  rw [← e30]
  refine bnd (gI_s (ek g30.1).1) ?_
  rw [g30.2 a 11 (by omega), hA]
  refine bnd ((pI_s (ek g30.1).2).trans (congrArg some e32.symm)) ?_
  refine (cpk (o1 := 6) (o2 := 6) A (ek g32.1).1 (ek g32.1).2 (by rw [tR g32.1, lR a 12 (by omega)]; exact q12) (by rw [tR g32.1]; exact u12) (by rw [g32.2 a 11 (by omega)]; exact hA) (by rw [tT g32.1, lT _ (by omega)]; exact q12t) (by rw [tT g32.1]; exact u12t) (by omega) (by omega) (by rw [tL g32.1, lL _ (by omega), q12l]; exact A8) (by rw [tL g32.1, u12l]; exact A8)).trans ?_
  rw [← e36]
  refine bnd (gR_s (ek g36.1).1) ?_
  refine bnd (gR_s (ek g36.1).2) ?_
  refine bnd (gI_s (ek g36.1).1) ?_
  rw [g36.2 a 11 (by omega), hA, tR g36.1, tR g36.1, lR a 13 (by omega), q13, u13]
  refine bnd (cpR_n 0 0 A (by rw [tT g36.1, lT _ (by omega)]; exact q13t) (by rw [tT g36.1]; exact u13t) (by omega) (by omega) rfl rfl rfl (by rw [tL g36.1, lL _ (by omega), q13l]; omega) (by rw [tL g36.1, u13l]; omega) (fun j hj => .inr ?_)) ?_
  · obtain ⟨c1, c2⟩ := cd j hj
    rw [tR g36.1, Nat.zero_add, lR _ _ (by omega), tT g36.1, lT _ (by omega)]
    exact c2
  · rw [← e40]
theorem c141_e {F S A : Nat} (Q : KD h a) (hF : hI h a 4 = (F : Int)) (F8 : F ≤ 8) (hS8 : hI h a 8 = (S : Int)) (S4 : S ≤ 4) (hA : hI h a 11 = (A : Int)) (A8 : A ≤ 8) (cd : ∀ i, i < A → hR h (a + 7) i < hN h ∧ hT h (hR h (a + 7) i) = 1) (hk : hN h = k) : ∃ h', c141 a h = some (k, h') ∧ hN h' = k + 13 ∧ hM h' = hM h + 267 ∧ (∀ x, x < k → sm h h' x) ∧ KD h' k ∧ (hI h' k 0 = hI h a 0 ∧ hI h' k 2 = hI h a 2 ∧ hI h' k 3 = 0 ∧ hI h' k 4 = (F : Int) ∧ hI h' k 8 = (S : Int) ∧ hI h' k 11 = (A : Int) ∧ hR h' k 1 = 0) ∧ (∀ i, i < F → hI h' (k + 1) i = hI h (a + 1) i ∧ hI h' (k + 2) i = hI h (a + 2) i ∧ hI h' (k + 3) i = hI h (a + 1) i) ∧ (∀ i, i < S → hI h' (k + 4) i = hI h (a + 4) i ∧ hI h' (k + 5) i = hI h (a + 5) i) ∧ (∀ i, i < A → hI h' (k + 6) i = hI h (a + 6) i ∧ hR h' (k + 7) i = hR h (a + 7) i) ∧ ∀ n, hI h' (k + 8) n = 0 ∧ hR h' (k + 9) n = 0 ∧ hR h' (k + 11) n = 0 := by
  have ha := Q.1
  have hak : a + 12 < k := by rw [← hk]; exact Q.2.1
  obtain ⟨m1, h3, h6, h8, h12, h16, h20, h22, h26, h30, h32, h36, h40, em1, ⟨n3, m3, Qk, i3, r3, r3k, r3z, t3⟩, ⟨e6, e8, e12, e16, e20, e22, e26, e30, e32, e36, e40⟩, EC⟩ := c141_c Q hF F8 hS8 S4 hA A8 cd hk
  have mI : ∀ x j, x < k → hI m1 x j = hI h x j := fun x j hx => by rw [em1, hI_mk, if_neg (by omega)]
  have mR : ∀ x j, hR m1 x j = if x = k then 0 else hR h x j := fun x j => by rw [em1, hR_mk, hk]
  have mT : ∀ x, x < k → hT m1 x = hT h x := fun x hx => by rw [em1, hT_mk, if_neg (by omega)]
  have mL : ∀ x, x < k → hL m1 x = hL h x := fun x hx => by rw [em1, hL_mk, if_neg (by omega)]
  have mN : hN m1 = k + 1 := by rw [em1, hN_mk, hk]
  have mM : hM m1 = hM h + 19 := by rw [em1, hM_mk]
  have mk24 : hT m1 k = 24 := by rw [em1, hT_mk, if_pos hk.symm]
  have lI : ∀ x j, x < k → hI h3 x j = hI h x j := fun x j hx => by rw [i3, if_neg (by omega), if_neg (by omega), mI x j hx]
  have lR : ∀ x j, x < k → hR h3 x j = hR h x j := fun x j hx => by rw [r3 x j hx, mR, if_neg (by omega)]
  have lT : ∀ x, x < k → hT h3 x = hT h x := fun x hx => by rw [(t3 x (by omega)).1, mT x hx]
  have lL : ∀ x, x < k → hL h3 x = hL h x := fun x hx => by rw [(t3 x (by omega)).2, mL x hx]
  obtain ⟨q5, q5t, q5l⟩ := KD5 Q
  obtain ⟨q6, q6t, q6l⟩ := KD6 Q
  obtain ⟨q9, q9t, q9l⟩ := KD9 Q
  obtain ⟨q10, q10t, q10l⟩ := KD10 Q
  obtain ⟨q12, q12t, q12l⟩ := KD12 Q
  obtain ⟨q13, q13t, q13l⟩ := KD13 Q
  obtain ⟨u5, u5t, u5l⟩ := KD5 Qk
  obtain ⟨u6, u6t, u6l⟩ := KD6 Qk
  obtain ⟨u7, u7t, u7l⟩ := KD7 Qk
  obtain ⟨u9, u9t, u9l⟩ := KD9 Qk
  obtain ⟨u10, u10t, u10l⟩ := KD10 Qk
  obtain ⟨u12, u12t, u12l⟩ := KD12 Qk
  obtain ⟨u13, u13t, u13l⟩ := KD13 Qk
  have Ta : hT h3 a = 24 := by rw [lT a (by omega)]; exact Q.2.2.1
  have Tk := Qk.2.2.1
  have g6 : h6.2 = h3.2 ∧ ∀ x j, x < k → hI h6 x j = hI h x j := ⟨by rw [e6]; rfl, fun x j hx => by rw [e6, hI_sI, if_neg (by omega), lI x j hx]⟩
  have g8 : h8.2 = h3.2 ∧ ∀ x j, x < k → hI h8 x j = hI h x j := ⟨by rw [← g6.1, e8]; rfl, fun x j hx => by rw [e8, hI_sI, if_neg (by omega), g6.2 x j hx]⟩
  have g12 : h12.2 = h3.2 ∧ ∀ x j, x < k → hI h12 x j = hI h x j := ⟨by rw [← g8.1, e12]; rfl, fun x j hx => by rw [e12, hI_sCI, if_neg (by omega), g8.2 x j hx]⟩
  have g16 : h16.2 = h3.2 ∧ ∀ x j, x < k → hI h16 x j = hI h x j := ⟨by rw [← g12.1, e16]; rfl, fun x j hx => by rw [e16, hI_sCI, if_neg (by omega), g12.2 x j hx]⟩
  have g20 : h20.2 = h3.2 ∧ ∀ x j, x < k → hI h20 x j = hI h x j := ⟨by rw [← g16.1, e20]; rfl, fun x j hx => by rw [e20, hI_sCI, if_neg (by omega), g16.2 x j hx]⟩
  have g22 : h22.2 = h3.2 ∧ ∀ x j, x < k → hI h22 x j = hI h x j := ⟨by rw [← g20.1, e22]; rfl, fun x j hx => by rw [e22, hI_sI, if_neg (by omega), g20.2 x j hx]⟩
  have g26 : h26.2 = h3.2 ∧ ∀ x j, x < k → hI h26 x j = hI h x j := ⟨by rw [← g22.1, e26]; rfl, fun x j hx => by rw [e26, hI_sCI, if_neg (by omega), g22.2 x j hx]⟩
  have g30 : h30.2 = h3.2 ∧ ∀ x j, x < k → hI h30 x j = hI h x j := ⟨by rw [← g26.1, e30]; rfl, fun x j hx => by rw [e30, hI_sCI, if_neg (by omega), g26.2 x j hx]⟩
  have g32 : h32.2 = h3.2 ∧ ∀ x j, x < k → hI h32 x j = hI h x j := ⟨by rw [← g30.1, e32]; rfl, fun x j hx => by rw [e32, hI_sI, if_neg (by omega), g30.2 x j hx]⟩
  have g36 : h36.2 = h3.2 ∧ ∀ x j, x < k → hI h36 x j = hI h x j := ⟨by rw [← g32.1, e36]; rfl, fun x j hx => by rw [e36, hI_sCI, if_neg (by omega), g32.2 x j hx]⟩
  have tT : ∀ {X : hS}, X.2 = h3.2 → ∀ x, hT X x = hT h3 x := fun e x => h2_T e x
  have tL : ∀ {X : hS}, X.2 = h3.2 → ∀ x, hL X x = hL h3 x := fun e x => h2_L e x
  have tR : ∀ {X : hS}, X.2 = h3.2 → ∀ x j, hR X x j = hR h3 x j := fun e x j => h2_R e x j
  have ek : ∀ {X : hS}, X.2 = h3.2 → hT X a = 24 ∧ hT X k = 24 := fun e => ⟨by rw [tT e]; exact Ta, by rw [tT e]; exact Tk⟩
  obtain ⟨rd1, rd2, rd3, rd4, rd5⟩ := c141_r hak e6 e8 e12 e16 e20 e22 e26 e30 e32 e36
  refine ⟨h40, EC, ?_, ?_, fun x hx => ⟨fun j => ?_, fun j => ?_, ?_, ?_⟩, ?_, ⟨?_, ?_, ?_, ?_, ?_, ?_, ?_⟩, fun i hi => ⟨?_, ?_, ?_⟩, fun i hi => ⟨?_, ?_⟩, fun i hi => ⟨?_, ?_⟩, fun n => ⟨?_, ?_, ?_⟩⟩
  · rw [e40]; show hN h36 = _; rw [h2_N g36.1]; exact n3
  · rw [e40]; show hM h36 = _; rw [h2_M g36.1, m3, mM]
  · rw [e40]; exact g36.2 x j hx
  · rw [e40, hR_sCR, if_neg (by omega), tR g36.1, lR x j hx]
  · rw [e40]; show hT h36 x = _; rw [tT g36.1, lT x hx]
  · rw [e40]; show hL h36 x = _; rw [tL g36.1, lL x hx]
  · refine ⟨by omega, ?_, ?_, fun e he => ?_⟩
    · rw [e40]; show _ < hN h36; rw [h2_N g36.1]; omega
    · rw [e40]; show hT h36 k = 24; rw [tT g36.1]; exact Tk
    · obtain ⟨v1, v2, v3⟩ := Qk.2.2.2 e he
      refine ⟨?_, ?_, ?_⟩
      · rw [e40, hR_sCR, if_neg (by omega), tR g36.1]; exact v1
      · rw [e40]; show hT h36 _ = _; rw [tT g36.1]; exact v2
      · rw [e40]; show hL h36 _ = _; rw [tL g36.1]; exact v3
  · rw [e40]; show hI h36 k 0 = _; rw [rd1.1, i3, if_pos ⟨rfl, rfl⟩]
  · rw [e40]; exact rd1.2.1
  · rw [e40]; show hI h36 k 3 = _; rw [rd1.2.2.1, i3, if_neg (by omega), if_neg (by omega), em1, hI_mk, if_pos hk.symm]
  · rw [e40]; exact rd1.2.2.2.1
  · rw [e40]; exact rd1.2.2.2.2.1
  · rw [e40]; exact rd1.2.2.2.2.2
  · rw [e40, hR_sCR, if_neg (by omega), tR g36.1, r3k 1 (by omega), mR, if_pos rfl]
  · rw [e40]; show hI h36 (k + 1) i = _; rw [(rd2 i hi).1]; exact g8.2 _ _ (by omega)
  · rw [e40]; show hI h36 (k + 2) i = _; rw [(rd2 i hi).2.1]; exact g12.2 _ _ (by omega)
  · rw [e40]; show hI h36 (k + 3) i = _; rw [(rd2 i hi).2.2]; exact g16.2 _ _ (by omega)
  · rw [e40]; show hI h36 (k + 4) i = _; rw [(rd3 i hi).1]; exact g22.2 _ _ (by omega)
  · rw [e40]; show hI h36 (k + 5) i = _; rw [(rd3 i hi).2]; exact g26.2 _ _ (by omega)
  · rw [e40]; show hI h36 (k + 6) i = _; rw [rd4 i hi]; exact g32.2 _ _ (by omega)
  · rw [e40, hR_sCR, if_pos ⟨rfl, by omega, by omega⟩, show i - 0 + 0 = i from rfl, tR g36.1, lR _ _ (by omega)]
  · rw [e40]; show hI h36 (k + 8) n = _; rw [rd5 n, i3, if_neg (by omega), if_pos (by omega)]
  · rw [e40, hR_sCR, if_neg (by omega), tR g36.1, r3z _ _ (by omega) (by omega)]
  · rw [e40, hR_sCR, if_neg (by omega), tR g36.1, r3z _ _ (by omega) (by omega)]
end CPK
