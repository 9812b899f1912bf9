/-! both sides go on alike, or both stop with one fault -/
/-- what the class's readers write: names, code from p on, counts of their own -/
def FC (p : Nat) (h h' : hS) : Prop := fp (fun x j => x = 16 ∨ (x = 17 ∧ p ≤ j) ∨ (x = 15 ∧ (j = 2 ∨ j = 3 ∨ j = 4 ∨ j = 5 ∨ j = 7 ∨ j = 8 ∨ j = 10))) h h' ∧ hI h 15 8 ≤ hI h' 15 8
/-- what the other side's readers write: names, nodes from m on, counts of their own -/
def FR (m : Nat) (h h' : hS) : Prop := h'.2.1 = h.2.1 ∧ h'.2.2.2 = h.2.2.2 ∧ (∀ x j, ¬ ((x = 399 ∧ 5 * (8400 + m) ≤ j) ∨ (x = 395 ∧ ((2 ≤ j ∧ j ≤ 5) ∨ j = 7 ∨ j = 11 ∨ j = 12 ∨ (16 ≤ j ∧ j ≤ 22) ∨ j = 24))) → hI h' x j = hI h x j) ∧ (∀ x j, ¬ (x = 397 ∨ (x = 395 ∧ j = 10)) → hJ h' x j = hJ h x j)
section FCR
variable {p p' m m' : Nat} {h h1 h2 : hS}
theorem FC_rf : FC p h h := ⟨fp_rf, Int.le_refl _⟩
theorem FC_tr (a : FC p h h1) (b : FC p h1 h2) : FC p h h2 := ⟨fp_tr a.1 b.1, Int.le_trans a.2 b.2⟩
theorem FC_mn (a : FC p' h h1) (e : p ≤ p') : FC p h h1 := ⟨⟨a.1.1, fun x j q => a.1.2 x j (by omega)⟩, a.2⟩
theorem FC_sI {x i : Nat} {v : Int} (q : x = 16 ∨ (x = 17 ∧ p ≤ i) ∨ (x = 15 ∧ (i = 2 ∨ i = 3 ∨ i = 4 ∨ i = 5 ∨ i = 7 ∨ i = 10))) : FC p h (sI h x i v) := ⟨fp_sI (by omega), by rw [hI_sI, if_neg (by omega)]; exact Int.le_refl _⟩
theorem FC_fp {S : Nat → Nat → Prop} (a : fp S h h1) (e : ∀ x j, S x j → x = 16 ∨ (x = 17 ∧ p ≤ j) ∨ (x = 15 ∧ (j = 2 ∨ j = 3 ∨ j = 4 ∨ j = 5 ∨ j = 7 ∨ j = 10))) : FC p h h1 := ⟨⟨a.1, fun x j q => a.2 x j (fun c => q (by have := e x j c; omega))⟩, by rw [a.2 15 8 (fun c => by have := e 15 8 c; omega)]; exact Int.le_refl _⟩
theorem FR_rf : FR m h h := ⟨rfl, rfl, fun _ _ _ => rfl, fun _ _ _ => rfl⟩
theorem FR_tr (a : FR m h h1) (b : FR m h1 h2) : FR m h h2 := ⟨b.1.trans a.1, b.2.1.trans a.2.1, fun x j q => (b.2.2.1 x j q).trans (a.2.2.1 x j q), fun x j q => (b.2.2.2 x j q).trans (a.2.2.2 x j q)⟩
theorem FR_mn (a : FR m' h h1) (e : m ≤ m') : FR m h h1 := ⟨a.1, a.2.1, fun x j q => a.2.2.1 x j (by omega), a.2.2.2⟩
theorem FR_fj (a : fj h h1) : FR m h h1 := ⟨a.1, a.2.1, fun x j q => a.2.2.1 x j (by omega), fun x j q => a.2.2.2 x j (by omega)⟩
theorem FR_fn (a : fn h h1) : FR m h h1 := ⟨a.1, a.2.1, fun x j q => a.2.2.1 x j (by omega), fun x j q => a.2.2.2 x j (by omega)⟩
theorem FR_sI {i : Nat} {v : Int} (q : i = 11 ∨ i = 12 ∨ (16 ≤ i ∧ i ≤ 22) ∨ i = 24) : FR m h (sI h 395 i v) := ⟨rfl, rfl, fun x j n => by
  rw [hI_sI, if_neg]
  rintro ⟨rfl, rfl⟩
  omega, fun _ _ _ => rfl⟩
theorem FR_fp {S : Nat → Nat → Prop} (a : fp S h h1) (e : ∀ x j, S x j → (x = 399 ∧ 5 * (8400 + m) ≤ j) ∨ (x = 395 ∧ ((2 ≤ j ∧ j ≤ 5) ∨ j = 7 ∨ j = 11 ∨ j = 12 ∨ (16 ≤ j ∧ j ≤ 22) ∨ j = 24))) : FR m h h1 := by
  obtain ⟨a1, a2⟩ := a
  refine ⟨by rw [a1], by rw [a1], fun x j q => a2 x j (fun c => q (e x j c)), fun x j q => ?_⟩
  show h1.2.2.1 x j = h.2.2.1 x j
  rw [a1]
end FCR
/-- both have stopped, with the same fault at the same place -/
def FL (hc hr : hS) : Prop := ∃ (f : Int) (a : Nat), (1 ≤ f ∧ f ≤ 5) ∧ hI hc 15 4 = f ∧ hI hc 15 5 = (a : Int) ∧ hI hr 395 11 = f ∧ hI hr 395 12 = (a : Int) ∧ nmR hc hr ∧ 0 ≤ hI hc 15 7
def JJ (p m : Nat) (hc hr : hS) (P : hS → hS → Prop) (x y : Option (Int × hS)) : Prop := ∃ hc' hr', FC p hc hc' ∧ FR m hr hr' ∧ ((x = some (1, hc') ∧ y = some (1, hr') ∧ P hc' hr') ∨ (x = some (0, hc') ∧ y = some (0, hr') ∧ FL hc' hr'))
section JJS
variable {p m p1 m1 p2 m2 : Nat} {hc hr hc1 hr1 : hS} {P Q : hS → hS → Prop} {x y : Option (Int × hS)} {F G : Int × hS → Option (Int × hS)}
theorem JJ_ok (a : FC p hc hc1) (b : FR m hr hr1) (q : P hc1 hr1) : JJ p m hc hr P (some (1, hc1)) (some (1, hr1)) := ⟨hc1, hr1, a, b, .inl ⟨rfl, rfl, q⟩⟩
theorem JJ_no (a : FC p hc hc1) (b : FR m hr hr1) (q : FL hc1 hr1) : JJ p m hc hr P (some (0, hc1)) (some (0, hr1)) := ⟨hc1, hr1, a, b, .inr ⟨rfl, rfl, q⟩⟩
theorem JJ_re (a : FC p hc hc1) (b : FR m hr hr1) (g : JJ p1 m1 hc1 hr1 P x y) (ep : p ≤ p1) (em : m ≤ m1) : JJ p m hc hr P x y := by
  obtain ⟨hc', hr', c, d, e⟩ := g
  exact ⟨hc', hr', FC_tr a (FC_mn c ep), FR_tr b (FR_mn d em), e⟩
theorem JJ_bd (a : JJ p1 m1 hc hr P x y) (ep1 : p ≤ p1) (em1 : m ≤ m1) (g : ∀ hc' hr', FC p1 hc hc' → FR m1 hr hr' → P hc' hr' → JJ p m hc' hr' Q (F (1, hc')) (G (1, hr'))) (f0 : ∀ h, F (0, h) = some (0, h)) (g0 : ∀ h, G (0, h) = some (0, h)) : JJ p m hc hr Q (x.bind F) (y.bind G) := by
  obtain ⟨hc', hr', c, d, ⟨e1, e2, e3⟩ | ⟨e1, e2, e3⟩⟩ := a
  · rw [e1, e2]
    exact JJ_re (FC_mn c ep1) (FR_mn d em1) (g hc' hr' c d e3) (Nat.le_refl p) (Nat.le_refl m)
  · rw [e1, e2]
    refine ⟨hc', hr', FC_mn c ep1, FR_mn d em1, .inr ⟨f0 hc', g0 hr', e3⟩⟩
/-- a call whose failure is handed on -/
theorem JJ_b {K L : Int × hS → Option (Int × hS)} (a : JJ p1 m1 hc hr P x y) (ep1 : p ≤ p1) (em1 : m ≤ m1) (g : ∀ hc' hr', FC p1 hc hc' → FR m1 hr hr' → P hc' hr' → JJ p m hc' hr' Q (K (1, hc')) (L (1, hr'))) : JJ p m hc hr Q (x.bind fun v => if v.1 = 0 then some (0, v.2) else K v) (y.bind fun v => if v.1 = 0 then some (0, v.2) else L v) :=
  JJ_bd a ep1 em1 (fun hc' hr' c d e => by
    show JJ p m hc' hr' Q (if (1 : Int) = 0 then _ else _) (if (1 : Int) = 0 then _ else _)
    rw [if_neg (by omega), if_neg (by omega)]
    exact g hc' hr' c d e) (fun h => if_pos rfl) (fun h => if_pos rfl)
theorem JJ_l {α : Type} {x0 : Option α} {a : α} {f : α → Option (Int × hS)} (e : x0 = some a) (g : JJ p m hc hr P (f a) y) : JJ p m hc hr P (x0.bind f) y := by
  rw [e]; exact g
theorem JJ_r {α : Type} {y0 : Option α} {a : α} {f : α → Option (Int × hS)} (e : y0 = some a) (g : JJ p m hc hr P x (f a)) : JJ p m hc hr P x (y0.bind f) := by
  rw [e]; exact g
theorem JJ_il {c : Prop} [Decidable c] {x1 : Option (Int × hS)} (q : c) (g : JJ p m hc hr P x y) : JJ p m hc hr P (if c then x else x1) y := by
  rw [if_pos q]; exact g
theorem JJ_el {c : Prop} [Decidable c] {x1 : Option (Int × hS)} (q : ¬ c) (g : JJ p m hc hr P x y) : JJ p m hc hr P (if c then x1 else x) y := by
  rw [if_neg q]; exact g
theorem JJ_ir {c : Prop} [Decidable c] {x1 : Option (Int × hS)} (q : c) (g : JJ p m hc hr P x y) : JJ p m hc hr P x (if c then y else x1) := by
  rw [if_pos q]; exact g
theorem JJ_er {c : Prop} [Decidable c] {x1 : Option (Int × hS)} (q : ¬ c) (g : JJ p m hc hr P x y) : JJ p m hc hr P x (if c then x1 else y) := by
  rw [if_neg q]; exact g
theorem JJ_kl (g : JJ p m hc hr P x y) : JJ p m hc hr P (x.bind fun v => (kB v.1).bind fun _ => some (v.1, v.2)) y := by
  obtain ⟨hc', hr', c, d, ⟨e1, e2, e3⟩ | ⟨e1, e2, e3⟩⟩ := g
  · exact ⟨hc', hr', c, d, .inl ⟨by rw [e1]; rfl, e2, e3⟩⟩
  · exact ⟨hc', hr', c, d, .inr ⟨by rw [e1]; rfl, e2, e3⟩⟩
theorem JJ_kr (g : JJ p m hc hr P x y) : JJ p m hc hr P x (y.bind fun v => (kB v.1).bind fun _ => some (v.1, v.2)) := by
  obtain ⟨hc', hr', c, d, ⟨e1, e2, e3⟩ | ⟨e1, e2, e3⟩⟩ := g
  · exact ⟨hc', hr', c, d, .inl ⟨e1, by rw [e2]; rfl, e3⟩⟩
  · exact ⟨hc', hr', c, d, .inr ⟨e1, by rw [e2]; rfl, e3⟩⟩
theorem JJ_zl (g : JJ p m hc hr P x y) : JJ p m hc hr P (x.bind fun v => if v.1 = 0 then some (0, v.2) else some (1, v.2)) y := by
  obtain ⟨hc', hr', c, d, ⟨e1, e2, e3⟩ | ⟨e1, e2, e3⟩⟩ := g
  · exact ⟨hc', hr', c, d, .inl ⟨by rw [e1]; rfl, e2, e3⟩⟩
  · exact ⟨hc', hr', c, d, .inr ⟨by rw [e1]; rfl, e2, e3⟩⟩
theorem JJ_zr (g : JJ p m hc hr P x y) : JJ p m hc hr P x (y.bind fun v => if v.1 = 0 then some (0, v.2) else some (1, v.2)) := by
  obtain ⟨hc', hr', c, d, ⟨e1, e2, e3⟩ | ⟨e1, e2, e3⟩⟩ := g
  · exact ⟨hc', hr', c, d, .inl ⟨e1, by rw [e2]; rfl, e3⟩⟩
  · exact ⟨hc', hr', c, d, .inr ⟨e1, by rw [e2]; rfl, e3⟩⟩
theorem JJ_im (g : JJ p m hc hr P x y) (e : ∀ hc' hr', FC p hc hc' → FR m hr hr' → P hc' hr' → Q hc' hr') : JJ p m hc hr Q x y := by
  obtain ⟨hc', hr', c, d, ⟨e1, e2, e3⟩ | h⟩ := g
  · exact ⟨hc', hr', c, d, .inl ⟨e1, e2, e hc' hr' c d e3⟩⟩
  · exact ⟨hc', hr', c, d, .inr h⟩
end JJS
/-- both stand at token l, p codes are written (e: room for old ones), m nodes are laid, d signs are open -/
def BX (e n : Nat) (b : Nat → Int) (l p m d : Nat) (hc hr : hS) : Prop := RD n b l hc hr ∧ (hI hr 395 11 = 0 ∧ nmR hc hr ∧ hT hc 16 = 1 ∧ hL hc 16 = 40 ∧ hI hc 15 4 = 0 ∧ hI hc 15 5 = -1) ∧ (hI hc 15 7 = (p : Int) ∧ hI hr 395 16 = (m : Int) ∧ hI hr 395 18 = (d : Int)) ∧ (p ≤ 2 * l + 4 + e ∧ m ≤ l + 1) ∧ (e = 0 → hI hr 395 20 = hI hc 15 8 ∧ 0 ≤ hI hc 15 8 ∧ hI hc 15 8 ≤ 60)
abbrev BS (n : Nat) (b : Nat → Int) (l p m d : Nat) (hc hr : hS) : Prop := BX 0 n b l p m d hc hr
section BSS
variable {n l p m d p' m' d' l' sl : Nat} {b : Nat → Int} {hc hr hc' hr' : hS}
theorem nmR_c (N : nmR hc hr) (e2 : hI hc' 15 2 = hI hc 15 2) (e : ∀ j, hI hc' 16 j = hI hc 16 j) : nmR hc' hr := by
  obtain ⟨⟨n1, n2, n3⟩, n4⟩ := N
  refine ⟨⟨by rw [e2]; exact n1, by rw [e2]; exact n2, by rw [e2]; exact n3⟩, fun i hi => ?_⟩
  rw [e2] at hi
  rw [e]
  exact n4 i hi
theorem nmR_r (N : nmR hc hr) (e7 : hI hr' 395 7 = hI hr 395 7) (e : ∀ j, hJ hr' 397 j = hJ hr 397 j) : nmR hc hr' := by
  obtain ⟨⟨n1, n2, n3⟩, n4⟩ := N
  refine ⟨⟨by rw [e7]; exact n1, n2, n3⟩, fun i hi => ?_⟩
  rw [e]
  exact n4 i hi
/-- the class writes what no relation speaks of -/
theorem BS_c (B : BX sl n b l p m d hc hr) (e2 : hc'.2 = hc.2) (e : ∀ x j, (x = 11 ∨ x = 12 ∨ x = 13 ∨ x = 16 ∨ (x = 9 ∧ j = 5) ∨ (x = 15 ∧ (j = 2 ∨ j = 3 ∨ j = 4 ∨ j = 5 ∨ j = 8))) → hI hc' x j = hI hc x j) (e7 : hI hc' 15 7 = (p' : Int)) (hp : p' ≤ 2 * l + 4 + sl) : BX sl n b l p' m d hc' hr := by
  obtain ⟨R, ⟨F, N, t, l16⟩, ⟨b1, b2, b3⟩, ⟨b4, b5⟩, b6⟩ := B
  refine ⟨RD_cgc R (fun x j hx => e x j (by omega)), ⟨F, nmR_c N (e 15 2 (by omega)) (fun j => e 16 j (by omega)), ?_, ?_⟩, ⟨e7, b2, b3⟩, ⟨hp, b5⟩, ?_⟩
  · show hc'.2.2.2.1 16 = 1
    rw [e2]; exact t
  · refine ⟨?_, by rw [e 15 4 (by omega)]; exact l16.2.1, by rw [e 15 5 (by omega)]; exact l16.2.2⟩
    show hc'.2.2.2.2.1 16 = 40
    rw [e2]; exact l16.1
  · intro hs; rw [e 15 8 (by omega)]; exact b6 hs
theorem BS_r (B : BX sl n b l p m d hc hr) (e : ∀ x j, (x = 396 ∨ (x = 395 ∧ (j = 1 ∨ j = 2 ∨ j = 3 ∨ j = 4 ∨ j = 5 ∨ j = 7 ∨ j = 9 ∨ j = 11 ∨ j = 20))) → hI hr' x j = hI hr x j) (eJ : ∀ x j, (x = 397 ∨ x = 398 ∨ (x = 395 ∧ j = 10)) → hJ hr' x j = hJ hr x j) (e16 : hI hr' 395 16 = (m' : Int)) (e18 : hI hr' 395 18 = (d' : Int)) (hm : m' ≤ l + 1) : BX sl n b l p m' d' hc hr' := by
  obtain ⟨R, ⟨F, N, t, l16⟩, ⟨b1, b2, b3⟩, ⟨b4, b5⟩, b6⟩ := B
  refine ⟨RD_cgr R (fun x j hx => e x j (by omega)) (fun x j hx => eJ x j (by omega)), ⟨?_, nmR_r N (e 395 7 (by omega)) (fun j => eJ 397 j (by omega)), t, l16⟩, ⟨b1, e16, e18⟩, ⟨b4, hm⟩, ?_⟩
  · rw [e 395 11 (by omega)]; exact F
  · intro hs; rw [e 395 20 (by omega)]; exact b6 hs
/-- both go to the next token -/
theorem BS_adv (B : BX sl n b l p m d hc hr) (h1 : l + 1 < (TK n b).length) : wadd (hI hc 15 3) 1 = ((l + 1 : Nat) : Int) ∧ ∃ hr', c188 hr = some hr' ∧ fj hr hr' ∧ BX sl n b (l + 1) p m d (sI hc 15 3 ((l + 1 : Nat) : Int)) hr' := by
  obtain ⟨R, ⟨F, N, t, l16⟩, ⟨b1, b2, b3⟩, ⟨b4, b5⟩, b6⟩ := B
  obtain ⟨g0, hr', g1, g2, g3⟩ := RD_adv R h1
  refine ⟨g0, hr', g1, g2, g3, ⟨?_, ?_, t, ⟨l16.1, by rw [hI_sI, if_neg (by omega)]; exact l16.2.1, by rw [hI_sI, if_neg (by omega)]; exact l16.2.2⟩⟩, ⟨?_, ?_, ?_⟩, ⟨by omega, by omega⟩, ?_⟩
  · rw [g2.2.2.1 395 11 (by omega)]; exact F
  · exact nmR_r (nmR_c N (by rw [hI_sI, if_neg (by omega)]) (fun j => by rw [hI_sI, if_neg (by omega)])) (g2.2.2.1 395 7 (by omega)) (fun j => g2.2.2.2 397 j (by omega))
  · rw [hI_sI, if_neg (by omega)]; exact b1
  · rw [g2.2.2.1 395 16 (by omega)]; exact b2
  · rw [g2.2.2.1 395 18 (by omega)]; exact b3
  · intro hs; rw [g2.2.2.1 395 20 (by omega), hI_sI, if_neg (by omega)]; exact b6 hs
/-- the code's next place is written -/
theorem BS_w {v : Int} (B : BS n b l p m d hc hr) (hp : p + 1 ≤ 2 * l + 4) : c65 v hc = some (sI (sI hc 17 p v) 15 7 ((p + 1 : Nat) : Int)) ∧ BS n b l (p + 1) m d (sI (sI hc 17 p v) 15 7 ((p + 1 : Nat) : Int)) hr := by
  have hl := TK_len (n := n) (b := b)
  have hl2 := B.1.2.2.1
  have hn := B.1.2.2.2.2.1.2.1
  refine ⟨c65_e B.2.2.1.1 (by omega), BS_c B rfl (fun x j hx => by rw [hI_sI, if_neg (by omega), hI_sI, if_neg (by omega)]) (by rw [hI_sI, if_pos ⟨rfl, rfl⟩]) hp⟩
/-- a node is laid -/
theorem BS_n {s x y z : Int} (B : BX sl n b l p m d hc hr) (hm : m ≤ l) : ∃ hr', c218 s x y z hr = some ((m : Int), hr') ∧ (nd hr' m 0 = s ∧ nd hr' m 1 = x ∧ nd hr' m 2 = y ∧ nd hr' m 3 = z ∧ nd hr' m 4 = -1) ∧ fp (fun x j => (x = 395 ∧ j = 16) ∨ (x = 399 ∧ 5 * (8400 + m) ≤ j ∧ j < 5 * (8400 + m) + 5)) hr hr' ∧ BX sl n b l p (m + 1) d hc hr' := by
  have hl := TK_len (n := n) (b := b)
  have hl2 := B.1.2.2.1
  have hn := B.1.2.2.2.2.1.2.1
  obtain ⟨hr', g1, g2, g3, g4, g5, g6, g7, g8⟩ := c218_e (s := s) (a := x) (b := y) (c := z) B.2.2.1.2.1 (by omega)
  refine ⟨hr', g1, ⟨g3, g4, g5, g6, g7⟩, g8, BS_r B (fun x j hx => g8.2 x j (by omega)) (fun x j _ => ?_) g2 ?_ (by omega)⟩
  · show hr'.2.2.1 x j = hr.2.2.1 x j
    rw [g8.1]
  · rw [g8.2 395 18 (by omega)]; exact B.2.2.1.2.2
/-- both stop here -/
theorem BS_no {c : Int} (B : BX sl n b l p m d hc hr) (c1 : 1 ≤ c ∧ c ≤ 5) : ∃ hc' hr', c46 c (hI hc 15 3) hc = some (0, hc') ∧ c194 c hr = some (0, hr') ∧ FC p hc hc' ∧ FR m hr hr' ∧ FL hc' hr' := by
  obtain ⟨s0, a, v, q1, q2, q3, q4, q5, q6, q7, -⟩ := RD_at B.1
  rw [B.1.2.1, c46_e (a := a) B.1.1 B.1.2.2.2.2.1.2.1 q1, c194_e B.2.1.1, q6]
  refine ⟨_, _, rfl, rfl, FC_tr (FC_sI (by omega)) (FC_sI (by omega)), FR_tr (FR_sI (by omega)) (FR_sI (by omega)), c, a, c1, ?_, ?_, ?_, ?_, ?_, ?_⟩
  · rw [hI_sI, if_neg (by omega), hI_sI, if_pos ⟨rfl, rfl⟩]
  · rw [hI_sI, if_pos ⟨rfl, rfl⟩]
  · rw [hI_sI, if_neg (by omega), hI_sI, if_pos ⟨rfl, rfl⟩]
  · rw [hI_sI, if_pos ⟨rfl, rfl⟩]
  · refine nmR_r (nmR_c B.2.1.2.1 ?_ (fun j => ?_)) ?_ (fun j => rfl)
    · rw [hI_sI, if_neg (by omega), hI_sI, if_neg (by omega)]
    · rw [hI_sI, if_neg (by omega), hI_sI, if_neg (by omega)]
    · rw [hI_sI, if_neg (by omega), hI_sI, if_neg (by omega)]
  · rw [hI_sI, if_neg (by omega), hI_sI, if_neg (by omega), B.2.2.1.1]
    omega
/-- both pass a sign -/
theorem BS_ps {c : Int} (B : BX sl n b l p m d hc hr) (s : sgn c = true) : JJ p m hc hr (fun hc' hr' => BX sl n b (l + 1) p m d hc' hr' ∧ hc' = sI hc 15 3 ((l + 1 : Nat) : Int) ∧ fj hr hr') (c58 c hc) (c202 c hr) := by
  rcases pass_e B.1 B.2.1.1 s with ⟨hr', g1, g2, g3, g4⟩ | ⟨a, g1, g2⟩
  · rw [g1, g2]
    obtain ⟨R, ⟨F, N, t, l16⟩, ⟨b1, b2, b3⟩, ⟨b4, b5⟩, b6⟩ := B
    refine JJ_ok (FC_sI (by omega)) (FR_fj g3) ⟨⟨g4, ⟨?_, ?_, t, ⟨l16.1, by rw [hI_sI, if_neg (by omega)]; exact l16.2.1, by rw [hI_sI, if_neg (by omega)]; exact l16.2.2⟩⟩, ⟨?_, ?_, ?_⟩, ⟨by omega, by omega⟩, ?_⟩, rfl, g3⟩
    · rw [g3.2.2.1 395 11 (by omega)]; exact F
    · exact nmR_r (nmR_c N (by rw [hI_sI, if_neg (by omega)]) (fun j => by rw [hI_sI, if_neg (by omega)])) (g3.2.2.1 395 7 (by omega)) (fun j => g3.2.2.2 397 j (by omega))
    · rw [hI_sI, if_neg (by omega)]; exact b1
    · rw [g3.2.2.1 395 16 (by omega)]; exact b2
    · rw [g3.2.2.1 395 18 (by omega)]; exact b3
    · intro hs; rw [g3.2.2.1 395 20 (by omega), hI_sI, if_neg (by omega)]; exact b6 hs
  · rw [g1, g2]
    refine JJ_no (FC_tr (FC_sI (by omega)) (FC_sI (by omega))) (FR_tr (FR_sI (by omega)) (FR_sI (by omega))) ⟨1, a, by omega, ?_, ?_, ?_, ?_, ?_, ?_⟩
    · rw [hI_sI, if_neg (by omega), hI_sI, if_pos ⟨rfl, rfl⟩]
    · rw [hI_sI, if_pos ⟨rfl, rfl⟩]
    · rw [hI_sI, if_neg (by omega), hI_sI, if_pos ⟨rfl, rfl⟩]
    · rw [hI_sI, if_pos ⟨rfl, rfl⟩]
    · refine nmR_r (nmR_c B.2.1.2.1 ?_ (fun j => ?_)) ?_ (fun j => rfl)
      · rw [hI_sI, if_neg (by omega), hI_sI, if_neg (by omega)]
      · rw [hI_sI, if_neg (by omega), hI_sI, if_neg (by omega)]
      · rw [hI_sI, if_neg (by omega), hI_sI, if_neg (by omega)]
    · rw [hI_sI, if_neg (by omega), hI_sI, if_neg (by omega), B.2.2.1.1]
      omega
/-- both read a name -/
theorem BS_nm (B : BX sl n b l p m d hc hr) : ∃ (f v : Int) (hc' hr' : hS), c45 hc = some (v, hc') ∧ c196 hr = some (f, hr') ∧ FC p hc hc' ∧ FR m hr hr' ∧ ((f = 1 ∧ (0 ≤ v ∧ v < 40) ∧ hI hr' 395 17 = v ∧ BX sl n b (l + 1) p m d hc' hr' ∧ fp (fun x j => x = 16 ∨ (x = 15 ∧ (j = 2 ∨ j = 3))) hc hc' ∧ fn hr hr') ∨ (f = 0 ∧ v = -1 ∧ FL hc' hr' ∧ hI hc' 15 7 = (p : Int))) := by
  obtain ⟨R, ⟨F, N, t, l16⟩, ⟨b1, b2, b3⟩, ⟨b4, b5⟩, b6⟩ := B
  rcases name_e R F N t l16.1 with ⟨v, hc', hr', g1, g2, g3, g4, g5, g6, g7, g8⟩ | ⟨f, a, hf, g1, g2⟩
  · refine ⟨1, v, hc', hr', g1, g2, FC_fp g7 (fun x j hx => by omega), FR_fn g8, .inl ⟨rfl, g3, g4, ⟨g5, ⟨?_, g6, ?_, ?_⟩, ⟨?_, ?_, ?_⟩, ⟨by omega, by omega⟩, ?_⟩, g7, g8⟩⟩
    · rw [g8.2.2.1 395 11 (by omega)]; exact F
    · show hc'.2.2.2.1 16 = 1
      rw [g7.1]; exact t
    · refine ⟨?_, by rw [g7.2 15 4 (by omega)]; exact l16.2.1, by rw [g7.2 15 5 (by omega)]; exact l16.2.2⟩
      show hc'.2.2.2.2.1 16 = 40
      rw [g7.1]; exact l16.1
    · rw [g7.2 15 7 (by omega)]; exact b1
    · rw [g8.2.2.1 395 16 (by omega)]; exact b2
    · rw [g8.2.2.1 395 18 (by omega)]; exact b3
    · intro hs; rw [g8.2.2.1 395 20 (by omega), g7.2 15 8 (by omega)]; exact b6 hs
  · refine ⟨0, -1, _, _, g1, g2, FC_tr (FC_sI (by omega)) (FC_sI (by omega)), FR_tr (FR_sI (by omega)) (FR_sI (by omega)), .inr ⟨rfl, rfl, ⟨f, a, by omega, ?_, ?_, ?_, ?_, ?_, ?_⟩, ?_⟩⟩
    · rw [hI_sI, if_neg (by omega), hI_sI, if_pos ⟨rfl, rfl⟩]
    · rw [hI_sI, if_pos ⟨rfl, rfl⟩]
    · rw [hI_sI, if_neg (by omega), hI_sI, if_pos ⟨rfl, rfl⟩]
    · rw [hI_sI, if_pos ⟨rfl, rfl⟩]
    · refine nmR_r (nmR_c N ?_ (fun j => ?_)) ?_ (fun j => rfl)
      · rw [hI_sI, if_neg (by omega), hI_sI, if_neg (by omega)]
      · rw [hI_sI, if_neg (by omega), hI_sI, if_neg (by omega)]
      · rw [hI_sI, if_neg (by omega), hI_sI, if_neg (by omega)]
    · rw [hI_sI, if_neg (by omega), hI_sI, if_neg (by omega), b1]; omega
    · rw [hI_sI, if_neg (by omega), hI_sI, if_neg (by omega)]; exact b1
/-- a node is laid, and its number is kept -/
theorem BS_nt {s x y z : Int} {t : Nat} (ht : t = 19 ∨ t = 22) (B : BX sl n b l p m d hc hr) (hm : m ≤ l) : ∃ hr', c218 s x y z hr = some ((m : Int), hr') ∧ BX sl n b l p (m + 1) d hc (sI hr' 395 t (m : Int)) ∧ FR m hr (sI hr' 395 t (m : Int)) ∧ (nd (sI hr' 395 t (m : Int)) m 0 = s ∧ nd (sI hr' 395 t (m : Int)) m 1 = x ∧ nd (sI hr' 395 t (m : Int)) m 2 = y ∧ nd (sI hr' 395 t (m : Int)) m 3 = z ∧ nd (sI hr' 395 t (m : Int)) m 4 = -1) ∧ hI (sI hr' 395 t (m : Int)) 395 t = (m : Int) ∧ ∀ j, j ≠ 16 → j ≠ t → hI (sI hr' 395 t (m : Int)) 395 j = hI hr 395 j := by
  obtain ⟨hr', g1, g2, g3, g4⟩ := BS_n (s := s) (x := x) (y := y) (z := z) B hm
  refine ⟨hr', g1, BS_r g4 (fun x j hx => by rw [hI_sI, if_neg (by omega)]) (fun _ _ _ => rfl) (by rw [hI_sI, if_neg (by omega)]; exact g4.2.2.1.2.1) (by rw [hI_sI, if_neg (by omega)]; exact g4.2.2.1.2.2) (by omega), FR_tr (FR_fp g3 (fun x j hx => by omega)) (FR_sI (by omega)), ?_, by rw [hI_sI, if_pos ⟨rfl, rfl⟩], fun j h1 h2 => by rw [hI_sI, if_neg (by omega), g3.2 395 j (by omega)]⟩
  have e : ∀ j, nd (sI hr' 395 t (m : Int)) m j = nd hr' m j := fun j => by
    unfold nd
    rw [hI_sI, if_neg (by omega)]
  rw [e, e, e, e, e]
  exact g2
theorem nd_FR {i j : Nat} (a : FR m hr hr') (hi : i < m) (hj : j < 5) : nd hr' i j = nd hr i j := a.2.2.1 399 _ (by omega)
theorem FL_w {v : Int} {v2 i : Nat} (L : FL hc hr) : FL (sI (sI hc 17 i v) 15 7 (v2 : Int)) hr := by
  obtain ⟨f, a, h1, h2, h3, h4, h5, h6, -⟩ := L
  refine ⟨f, a, h1, ?_, ?_, h4, h5, nmR_c h6 ?_ (fun j => ?_), ?_⟩
  · rw [hI_sI, if_neg (by omega), hI_sI, if_neg (by omega)]; exact h2
  · rw [hI_sI, if_neg (by omega), hI_sI, if_neg (by omega)]; exact h3
  · rw [hI_sI, if_neg (by omega), hI_sI, if_neg (by omega)]
  · rw [hI_sI, if_neg (by omega), hI_sI, if_neg (by omega)]
  · rw [hI_sI, if_pos ⟨rfl, rfl⟩]; omega
theorem cdA_sn {C : List Int} {v z : Int} {q : Nat} (a : cdA hc p C) (hq : q = p + C.length) : cdA (sI (sI hc 17 q v) 15 7 z) p (C ++ [v]) := by
  subst hq
  refine cdA_app (cdA_cg a (fun j hj => ?_)) (fun t w e => ?_)
  · rw [hI_sI, if_neg (by omega), hI_sI, if_neg (by omega)]
  · cases t with
    | zero =>
      rw [hI_sI, if_neg (by omega), hI_sI, if_pos ⟨rfl, by omega⟩]
      simpa using e
    | succ t => simp at e
/-- one sign more is open -/
theorem BS_op (B : BX sl n b l p m d hc hr) (hd : d < 12) (h1 : l + 1 < (TK n b).length) : wadd (hI hc 15 3) 1 = ((l + 1 : Nat) : Int) ∧ ∃ hr', c213 hr = some (1, hr') ∧ FR m hr hr' ∧ BX sl n b (l + 1) p m (d + 1) (sI hc 15 3 ((l + 1 : Nat) : Int)) hr' := by
  have e18 := B.2.2.1.2.2
  have B1 : BX sl n b l p m (d + 1) hc (sI hr 395 18 ((d + 1 : Nat) : Int)) := BS_r B (fun x j hx => by rw [hI_sI, if_neg (by omega)]) (fun _ _ _ => rfl) (by rw [hI_sI, if_neg (by omega)]; exact B.2.2.1.2.1) (by rw [hI_sI, if_pos ⟨rfl, rfl⟩]) B.2.2.2.1.2
  obtain ⟨g0, hr', g1, g2, g3⟩ := BS_adv B1 h1
  refine ⟨g0, hr', ?_, FR_tr (FR_sI (by omega)) (FR_fj g2), g3⟩
  unfold c213
  rw [e18, if_neg (by omega), wadd_e (by omega) (by omega)]
  simp only [bsome]
  rw [show ((d : Int) + 1) = ((d + 1 : Nat) : Int) from rfl, g1]
  rfl
/-- one sign less is open -/
theorem BS_cl (B : BX sl n b l p m (d + 1) hc hr) (hd : d < 12) : wsub (hI hr 395 18) 1 = (d : Int) ∧ BX sl n b l p m d hc (sI hr 395 18 (d : Int)) := by
  have e18 := B.2.2.1.2.2
  refine ⟨by rw [e18, wsub_e (by omega) (by omega)]; omega, BS_r B (fun x j hx => by rw [hI_sI, if_neg (by omega)]) (fun _ _ _ => rfl) (by rw [hI_sI, if_neg (by omega)]; exact B.2.2.1.2.1) (by rw [hI_sI, if_pos ⟨rfl, rfl⟩]) B.2.2.2.1.2⟩
theorem BX_up {sl' : Nat} (B : BX sl n b l p m d hc hr) (h : sl ≤ sl') : BX sl' n b l p m d hc hr := ⟨B.1, B.2.1, B.2.2.1, ⟨by have := B.2.2.2.1.1; omega, B.2.2.2.1.2⟩, fun hs => B.2.2.2.2 (by omega)⟩
end BSS
/-- two loops side by side -/
theorem lp_two {σ τ α β : Type} {f : σ → Option (σ ⊕ (α ⊕ (Int × hS)))} {g : τ → Option (τ ⊕ (β ⊕ (Int × hS)))} (I : Nat → σ → τ → Prop) (E : α → β → Prop) (D : hS → hS → Prop) (step : ∀ k s t, I k s t → (∃ x y, f s = some (.inr (.inl x)) ∧ g t = some (.inr (.inl y)) ∧ E x y) ∨ (∃ hc hr, f s = some (.inr (.inr (0, hc))) ∧ g t = some (.inr (.inr (0, hr))) ∧ D hc hr) ∨ (∃ k' s' t', f s = some (.inl s') ∧ g t = some (.inl t') ∧ k' < k ∧ I k' s' t')) : ∀ (N k : Nat) (s : σ) (t : τ), I k s t → k < N → (∃ x y, lp f N s = some (.inl x) ∧ lp g N t = some (.inl y) ∧ E x y) ∨ (∃ hc hr, lp f N s = some (.inr (0, hc)) ∧ lp g N t = some (.inr (0, hr)) ∧ D hc hr)
  | 0, k, s, t, _, h => absurd h (by omega)
  | N + 1, k, s, t, i, h => by
    rcases step k s t i with ⟨x, y, e1, e2, e3⟩ | ⟨hc, hr, e1, e2, e3⟩ | ⟨k', s', t', e1, e2, e3, e4⟩
    · exact .inl ⟨x, y, lp_d e1, lp_d e2, e3⟩
    · exact .inr ⟨hc, hr, lp_d e1, lp_d e2, e3⟩
    · rw [lp_n e1, lp_n e2]
      exact lp_two I E D step N k' s' t' e4 (by omega)
