/-! the heap -/
abbrev hS : Type := (Nat → Nat → Int) × (Nat → Nat → Nat) × (Nat → Nat → Int64) × (Nat → Nat) × (Nat → Nat) × Nat × Nat
def hI (h : hS) : Nat → Nat → Int := h.1
def hR (h : hS) : Nat → Nat → Nat := h.2.1
def hJ (h : hS) : Nat → Nat → Int64 := h.2.2.1
def hT (h : hS) : Nat → Nat := h.2.2.2.1
def hL (h : hS) : Nat → Nat := h.2.2.2.2.1
def hN (h : hS) : Nat := h.2.2.2.2.2.1
def hM (h : hS) : Nat := h.2.2.2.2.2.2
def sI (h : hS) (x i : Nat) (v : Int) : hS := (fun y j => if y = x ∧ j = i then v else hI h y j, h.2)
def sR (h : hS) (x i : Nat) (v : Nat) : hS := (hI h, fun y j => if y = x ∧ j = i then v else hR h y j, h.2.2)
def sJ (h : hS) (x i : Nat) (v : Int64) : hS := (hI h, hR h, fun y j => if y = x ∧ j = i then v else hJ h y j, h.2.2.2)
def mkH (h : hS) (t n : Nat) : hS := (fun y j => if y = hN h then 0 else hI h y j, fun y j => if y = hN h then 0 else hR h y j, fun y j => if y = hN h then 0 else hJ h y j, fun y => if y = hN h then t else hT h y, fun y => if y = hN h then n else hL h y, hN h + 1, hM h + n)
def sCI (h : hS) (x sp y dp n : Nat) : hS := (fun z j => if z = y ∧ dp ≤ j ∧ j < dp + n then hI h x (j - dp + sp) else hI h z j, h.2)
def sCR (h : hS) (x sp y dp n : Nat) : hS := (hI h, fun z j => if z = y ∧ dp ≤ j ∧ j < dp + n then hR h x (j - dp + sp) else hR h z j, h.2.2)
/-- tags by number: arrays odd, classes even; 0 where no cell is -/
def tcode : (Nat ⊕ Nat) → Nat
  | .inl t => 2 * t + 1
  | .inr a => 2 * a + 2
theorem tcode_r {c : Nat ⊕ Nat} {a : Nat} (h : tcode c = 2 * a + 2) : c = .inr a := by
  cases c with
  | inl t =>
    have h : 2 * t + 1 = 2 * a + 2 := h
    omega
  | inr b =>
    have h : 2 * b + 2 = 2 * a + 2 := h
    rw [show b = a by omega]
theorem tcode_l {c : Nat ⊕ Nat} {t : Nat} (h : tcode c = 2 * t + 1) : c = .inl t := by
  cases c with
  | inl b =>
    have h : 2 * b + 1 = 2 * t + 1 := h
    rw [show b = t by omega]
  | inr a =>
    have h : 2 * a + 2 = 2 * t + 1 := h
    omega
/-- what sort of value stands in a slot: 0 an int, 2 a reference, 3 a long -/
def fty (t i : Nat) : Nat := bif Nat.beq (t % 2) 1 then (bif Nat.beq t 7 then 3 else bif Nat.ble t 5 then 0 else 2) else (ftC (t / 2 - 1)).getD i 0
def nfl (a : Nat) : Nat := (ftC a).length
def hv (h : hS) (x i : Nat) : Nat → Value
  | 2 => rv (hR h x i)
  | 3 => .long (hJ h x i)
  | _ => .int (Int32.ofInt (hI h x i))
def AbsC (h : hS) (w : mmW) (x : Nat) : Prop := match mm_cell mt_P0 w (rv x) with
  | none => hT h x = 0
  | some c => hT h x = tcode c.1 ∧ hL h x = c.2.length ∧ ∀ i, i < c.2.length → c.2[i]? = some (hv h x i (fty (tcode c.1) i))
/-- the heap h is what the world w holds; rooms; the cells that stay -/
def Abs (h : hS) (w : mmW) : Prop :=
  (w.1.length + 8 = hN h ∧ w.2.1 = w.1.length ∧ w.2.2 = hM h ∧ 448 ≤ hN h) ∧ (∀ x, AbsC h w x) ∧ (∀ x i, rg (hI h x i)) ∧ (∀ x, hL h x ≤ 100000) ∧ (∀ x a, hT h x = 2 * a + 2 → hL h x = nfl a) ∧ (∀ e ∈ ksL, hT h e.1 = e.2.1 ∧ hL h e.1 = e.2.2) ∧ (∀ e ∈ kfL, hR h e.1 e.2.1 = e.2.2)
theorem rv_ge {x : Nat} (h : 8 ≤ x) : rv x = .ref (x - 8) := by
  obtain ⟨n, rfl⟩ : ∃ n, x = n + 8 := ⟨x - 8, by omega⟩
  rfl
theorem rv_lt {x : Nat} (h : x < 8) : x = 0 ∧ rv x = .null ∨ x ≠ 0 ∧ rv x = .retAddr (x - 1) := by
  match x, h with
  | 0, _ => exact .inl ⟨rfl, rfl⟩
  | 1, _ => exact .inr ⟨by omega, rfl⟩
  | 2, _ => exact .inr ⟨by omega, rfl⟩
  | 3, _ => exact .inr ⟨by omega, rfl⟩
  | 4, _ => exact .inr ⟨by omega, rfl⟩
  | 5, _ => exact .inr ⟨by omega, rfl⟩
  | 6, _ => exact .inr ⟨by omega, rfl⟩
  | 7, _ => exact .inr ⟨by omega, rfl⟩
section ABS
variable {h : hS} {w : mmW}
theorem Abs_cell (A : Abs h w) {x : Nat} (hx : hT h x ≠ 0) : ∃ c, mm_cell mt_P0 w (rv x) = some c ∧ hT h x = tcode c.1 ∧ hL h x = c.2.length ∧ ∀ i, i < c.2.length → c.2[i]? = some (hv h x i (fty (tcode c.1) i)) := by
  have H : AbsC h w x := A.2.1 x
  unfold AbsC at H
  split at H
  · exact absurd H hx
  · rename_i c hc
    exact ⟨c, hc, H⟩
theorem Abs_obj (A : Abs h w) {x a : Nat} (hx : hT h x = 2 * a + 2) : ∃ vs, mm_cell mt_P0 w (rv x) = some (.inr a, vs) ∧ vs.length = nfl a ∧ ∀ i, i < nfl a → vs[i]? = some (hv h x i (fty (2 * a + 2) i)) := by
  obtain ⟨⟨c, vs⟩, h1, h2, h3, h4⟩ := Abs_cell A (x := x) (by omega)
  have hl := A.2.2.2.2.1 x a hx
  have hc := tcode_r (show tcode c = 2 * a + 2 from h2.symm.trans hx)
  subst hc
  refine ⟨vs, h1, ?_, ?_⟩
  · rw [← hl, h3]
  · intro i hi
    exact h4 i (by rw [← h3, hl]; exact hi)
theorem Abs_arr (A : Abs h w) {x t : Nat} (hx : hT h x = 2 * t + 1) : ∃ vs, mm_cell mt_P0 w (rv x) = some (.inl t, vs) ∧ vs.length = hL h x ∧ ∀ i, i < hL h x → vs[i]? = some (hv h x i (fty (2 * t + 1) i)) := by
  obtain ⟨⟨c, vs⟩, h1, h2, h3, h4⟩ := Abs_cell A (x := x) (by omega)
  have hc := tcode_l (show tcode c = 2 * t + 1 from h2.symm.trans hx)
  subst hc
  refine ⟨vs, h1, h3.symm, ?_⟩
  intro i hi
  exact h4 i (by rw [← h3]; exact hi)
theorem Abs_lt (A : Abs h w) {x : Nat} (hx : x < 8) : hT h x = 0 ∨ hT h x = 2002 ∨ hT h x = 5 ∨ hT h x = 19 := by
  have H : AbsC h w x := A.2.1 x
  unfold AbsC at H
  match x, hx with
  | 0, _ => exact .inl H
  | 1, _ => exact .inl H
  | 2, _ => exact .inr (.inl H.1)
  | 3, _ => exact .inr (.inr (.inl H.1))
  | 4, _ => exact .inr (.inl H.1)
  | 5, _ => exact .inr (.inr (.inl H.1))
  | 6, _ => exact .inr (.inr (.inr H.1))
  | 7, _ => exact .inl H
def kok (t : Nat) : Bool := !(Nat.beq t 0) && !(Nat.beq t 2002) && !(Nat.beq t 5) && !(Nat.beq t 19)
theorem Abs_8 (A : Abs h w) {x t : Nat} (hx : hT h x = t) (ht : kok t = true) : 8 ≤ x := by
  refine Nat.le_of_not_lt fun q => ?_
  rcases Abs_lt A q with e | e | e | e <;> (rw [hx] at e; subst e; cases ht)
theorem Abs_ref (A : Abs h w) {x : Nat} (h8 : 8 ≤ x) {c : mmC} (hc : mm_cell mt_P0 w (rv x) = some c) : w.1[x - 8]? = some c := by
  rw [rv_ge h8] at hc
  exact hc
theorem Abs_ks (A : Abs h w) {e : Nat × Nat × Nat} {i : Nat} (hi : ksL[i]? = some e) : hT h e.1 = e.2.1 ∧ hL h e.1 = e.2.2 := A.2.2.2.2.2.1 e (List.mem_of_getElem? hi)
theorem Abs_kf (A : Abs h w) {e : Nat × Nat × Nat} {i : Nat} (hi : kfL[i]? = some e) : hR h e.1 e.2.1 = e.2.2 := A.2.2.2.2.2.2 e (List.mem_of_getElem? hi)
theorem Abs_rg (A : Abs h w) (x i : Nat) : rg (hI h x i) := A.2.2.1 x i
/-- may the slot b of a cell with the tag t be written without touching a link that stays -/
def kfok (t b : Nat) : Bool := kfL.all fun e => !(ksL.any fun s => Nat.beq s.1 e.1 && Nat.beq s.2.1 t && Nat.beq e.2.1 b)
theorem kf_in : ∀ e ∈ kfL, ∃ s ∈ ksL, s.1 = e.1 := by decide +kernel
theorem kf_even : ∀ e ∈ kfL, ∀ s ∈ ksL, s.1 = e.1 → s.2.1 % 2 = 0 := by decide +kernel
theorem ks_lt : ∀ e ∈ ksL, 8 ≤ e.1 ∧ e.1 < 448 := by decide +kernel
theorem kf_ne (A : Abs h w) {x b t : Nat} (hx : hT h x = t) (hk : kfok t b = true) {e : Nat × Nat × Nat} (he : e ∈ kfL) : ¬ (e.1 = x ∧ e.2.1 = b) := by
  rintro ⟨e1, e2⟩
  obtain ⟨s, hs, hs1⟩ := kf_in e he
  have ht := (A.2.2.2.2.2.1 s hs).1
  rw [hs1, e1, hx] at ht
  unfold kfok at hk
  have := List.all_eq_true.mp hk e he
  rw [Bool.not_eq_true', List.any_eq_false] at this
  have q := this s hs
  rw [hs1, ← ht, e2] at q
  exact q (by rw [Nat.beq_refl, Nat.beq_refl, Nat.beq_refl]; rfl)
theorem kf_odd (A : Abs h w) {x t : Nat} (hx : hT h x = 2 * t + 1) {e : Nat × Nat × Nat} (he : e ∈ kfL) : e.1 ≠ x := by
  intro e1
  obtain ⟨s, hs, hs1⟩ := kf_in e he
  have ht := (A.2.2.2.2.2.1 s hs).1
  rw [hs1, e1, hx] at ht
  have := kf_even e he s hs hs1
  omega
/-- one cell written -/
theorem Abs_rep (A : Abs h w) {x : Nat} (h8 : 8 ≤ x) {c : mmC} (hc : mm_cell mt_P0 w (rv x) = some c) {h' : hS} {vs' : List Value} (hl : vs'.length = c.2.length) (hz : ∀ i, i < c.2.length → vs'[i]? = some (hv h' x i (fty (tcode c.1) i))) (e2 : h'.2.2.2 = h.2.2.2) (e3 : ∀ y j, ¬ y = x → ∀ k, hv h' y j k = hv h y j k) (e5 : ∀ y j, rg (hI h' y j)) (e6 : ∀ e ∈ kfL, hR h' e.1 e.2.1 = e.2.2) : Abs h' (mm_set w (x - 8) (c.1, vs')) := by
  have hT' : hT h' = hT h := by show h'.2.2.2.1 = h.2.2.2.1; rw [e2]
  have hL' : hL h' = hL h := by show h'.2.2.2.2.1 = h.2.2.2.2.1; rw [e2]
  have hN' : hN h' = hN h := by show h'.2.2.2.2.2.1 = h.2.2.2.2.2.1; rw [e2]
  have hM' : hM h' = hM h := by show h'.2.2.2.2.2.2 = h.2.2.2.2.2.2; rw [e2]
  have hr := Abs_ref A h8 hc
  have hlt : x - 8 < w.1.length := (List.getElem?_eq_some_iff.mp hr).1
  obtain ⟨a1, a2, a3, a4, a5, a6, a7⟩ := A
  refine ⟨?_, ?_, e5, by rw [hL']; exact a4, by rw [hL', hT']; exact a5, by rw [hL', hT']; exact a6, e6⟩
  · refine ⟨?_, ?_, ?_, ?_⟩
    · show (w.1.set (x - 8) _).length + 8 = _
      rw [List.length_set, hN']; exact a1.1
    · show w.2.1 = (w.1.set (x - 8) _).length
      rw [List.length_set]; exact a1.2.1
    · rw [hM']; exact a1.2.2.1
    · rw [hN']; exact a1.2.2.2
  · intro y
    have H : AbsC h w y := a2 y
    unfold AbsC at H ⊢
    by_cases hy : y = x
    · subst hy
      rw [hc] at H
      have e : mm_cell mt_P0 (mm_set w (y - 8) (c.1, vs')) (rv y) = some (c.1, vs') := by
        rw [rv_ge h8]
        exact mm_getS hr
      rw [e]
      refine ⟨by rw [hT']; exact H.1, ?_, ?_⟩
      · rw [hL']
        show _ = vs'.length
        rw [hl]; exact H.2.1
      · intro j hj
        have hj : j < vs'.length := hj
        exact hz j (by rw [← hl]; exact hj)
    · have e : mm_cell mt_P0 (mm_set w (x - 8) (c.1, vs')) (rv y) = mm_cell mt_P0 w (rv y) := by
        by_cases h8' : 8 ≤ y
        · rw [rv_ge h8']
          show (w.1.set (x - 8) _)[y - 8]? = w.1[y - 8]?
          rw [List.getElem?_set_ne (by omega)]
        · rcases rv_lt (show y < 8 by omega) with ⟨-, q⟩ | ⟨-, q⟩ <;> (rw [q]; rfl)
      rw [e]
      split at H
      · rw [hT']
        exact H
      · refine ⟨by rw [hT']; exact H.1, by rw [hL']; exact H.2.1, ?_⟩
        intro j hj
        rw [e3 y j hy]
        exact H.2.2 j hj
/-- one slot of one cell written -/
theorem Abs_put (A : Abs h w) {x i : Nat} (h8 : 8 ≤ x) {c : mmC} (hc : mm_cell mt_P0 w (rv x) = some c) (hi : i < c.2.length) {h' : hS} {V : Value} (e2 : h'.2.2.2 = h.2.2.2) (e3 : ∀ y j, ¬ (y = x ∧ j = i) → ∀ k, hv h' y j k = hv h y j k) (e4 : hv h' x i (fty (tcode c.1) i) = V) (e5 : ∀ y j, rg (hI h' y j)) (e6 : ∀ e ∈ kfL, hR h' e.1 e.2.1 = e.2.2) : Abs h' (mm_set w (x - 8) (c.1, c.2.set i V)) := by
  refine Abs_rep A h8 hc (by rw [List.length_set]) ?_ e2 (fun y j q k => e3 y j (fun q' => q q'.1) k) e5 e6
  intro j hj
  by_cases hji : j = i
  · subst hji
    rw [List.getElem?_set_self hj, e4]
  · rw [List.getElem?_set_ne (fun q => hji q.symm), e3 x j (fun q => hji q.2)]
    have H : AbsC h w x := A.2.1 x
    unfold AbsC at H
    rw [hc] at H
    exact H.2.2 j hj
theorem hv_sI {x i : Nat} {v : Int} {y j : Nat} (q : ¬ (y = x ∧ j = i)) (k : Nat) : hv (sI h x i v) y j k = hv h y j k := by
  unfold hv
  split
  · rfl
  · rfl
  · show Value.int (Int32.ofInt (if y = x ∧ j = i then v else hI h y j)) = _
    rw [if_neg q]
theorem hv_sR {x i : Nat} {v : Nat} {y j : Nat} (q : ¬ (y = x ∧ j = i)) (k : Nat) : hv (sR h x i v) y j k = hv h y j k := by
  unfold hv
  split
  · show rv (if y = x ∧ j = i then v else hR h y j) = _
    rw [if_neg q]
  · rfl
  · rfl
theorem hv_sJ {x i : Nat} {v : Int64} {y j : Nat} (q : ¬ (y = x ∧ j = i)) (k : Nat) : hv (sJ h x i v) y j k = hv h y j k := by
  unfold hv
  split
  · rfl
  · show Value.long (if y = x ∧ j = i then v else hJ h y j) = _
    rw [if_neg q]
  · rfl
theorem Abs_sI (A : Abs h w) {x i : Nat} {v : Int} (h8 : 8 ≤ x) {c : mmC} (hc : mm_cell mt_P0 w (rv x) = some c) (hi : i < c.2.length) (hf : fty (tcode c.1) i = 0) (hr : rg v) : Abs (sI h x i v) (mm_set w (x - 8) (c.1, c.2.set i (.int (Int32.ofInt v)))) := by
  refine Abs_put A h8 hc hi rfl (fun y j q k => hv_sI q k) ?_ ?_ A.2.2.2.2.2.2
  · rw [hf]
    show Value.int (Int32.ofInt (if x = x ∧ i = i then v else hI h x i)) = _
    rw [if_pos ⟨rfl, rfl⟩]
  · intro y j
    show rg (if y = x ∧ j = i then v else hI h y j)
    split
    · exact hr
    · exact A.2.2.1 y j
theorem Abs_sR (A : Abs h w) {x i : Nat} {v : Nat} (h8 : 8 ≤ x) {c : mmC} (hc : mm_cell mt_P0 w (rv x) = some c) (hi : i < c.2.length) (hf : fty (tcode c.1) i = 2) (hk : ∀ e ∈ kfL, ¬ (e.1 = x ∧ e.2.1 = i)) : Abs (sR h x i v) (mm_set w (x - 8) (c.1, c.2.set i (rv v))) := by
  refine Abs_put A h8 hc hi rfl (fun y j q k => hv_sR q k) ?_ A.2.2.1 ?_
  · rw [hf]
    show rv (if x = x ∧ i = i then v else hR h x i) = _
    rw [if_pos ⟨rfl, rfl⟩]
  · intro e he
    show (if e.1 = x ∧ e.2.1 = i then v else hR h e.1 e.2.1) = _
    rw [if_neg (hk e he)]
    exact A.2.2.2.2.2.2 e he
theorem Abs_sJ (A : Abs h w) {x i : Nat} {v : Int64} (h8 : 8 ≤ x) {c : mmC} (hc : mm_cell mt_P0 w (rv x) = some c) (hi : i < c.2.length) (hf : fty (tcode c.1) i = 3) : Abs (sJ h x i v) (mm_set w (x - 8) (c.1, c.2.set i (.long v))) := by
  refine Abs_put A h8 hc hi rfl (fun y j q k => hv_sJ q k) ?_ A.2.2.1 A.2.2.2.2.2.2
  rw [hf]
  show Value.long (if x = x ∧ i = i then v else hJ h x i) = _
  rw [if_pos ⟨rfl, rfl⟩]
/-- a new cell -/
theorem Abs_mk (A : Abs h w) {tg : Nat ⊕ Nat} {vs : List Value} (hz : ∀ i, i < vs.length → vs[i]? = some (hv (mkH h (tcode tg) vs.length) (hN h) i (fty (tcode tg) i))) (hl : vs.length ≤ 100000) (hn : ∀ a, tg = .inr a → vs.length = nfl a) : Abs (mkH h (tcode tg) vs.length) (mm_mk w (tg, vs)) := by
  obtain ⟨a1, a2, a3, a4, a5, a6, a7⟩ := A
  have n8 : 448 ≤ hN h := a1.2.2.2
  refine ⟨⟨?_, ?_, ?_, ?_⟩, ?_, ?_, ?_, ?_, ?_, ?_⟩
  · show (w.1 ++ [_]).length + 8 = hN h + 1
    rw [List.length_append]
    have := a1.1
    simp only [List.length_cons, List.length_nil]
    omega
  · show w.2.1 + 1 = (w.1 ++ [_]).length
    rw [List.length_append, a1.2.1]
    rfl
  · show w.2.2 + vs.length = hM h + vs.length
    rw [a1.2.2.1]
  · show 448 ≤ hN h + 1
    omega
  · intro y
    have H : AbsC h w y := a2 y
    unfold AbsC at H ⊢
    by_cases hy : y = hN h
    · subst hy
      have e : mm_cell mt_P0 (mm_mk w (tg, vs)) (rv (hN h)) = some (tg, vs) := by
        rw [rv_ge (by omega)]
        show (w.1 ++ [(tg, vs)])[hN h - 8]? = _
        rw [show hN h - 8 = w.1.length by have := a1.1; omega, List.getElem?_append_right (Nat.le_refl _), Nat.sub_self]
        rfl
      rw [e]
      refine ⟨?_, ?_, hz⟩
      · show (if hN h = hN h then tcode tg else _) = _
        rw [if_pos rfl]
      · show (if hN h = hN h then vs.length else _) = _
        rw [if_pos rfl]
    · have e : mm_cell mt_P0 (mm_mk w (tg, vs)) (rv y) = mm_cell mt_P0 w (rv y) := by
        by_cases h8' : 8 ≤ y
        · rw [rv_ge h8']
          show (w.1 ++ [(tg, vs)])[y - 8]? = w.1[y - 8]?
          by_cases hlt : y - 8 < w.1.length
          · rw [List.getElem?_append_left hlt]
          · have := a1.1
            rw [List.getElem?_eq_none (by rw [List.length_append]; simp only [List.length_cons, List.length_nil]; omega), List.getElem?_eq_none (by omega)]
        · rcases rv_lt (show y < 8 by omega) with ⟨-, q⟩ | ⟨-, q⟩ <;> (rw [q]; rfl)
      have eT : hT (mkH h (tcode tg) vs.length) y = hT h y := by
        show (if y = hN h then _ else hT h y) = _
        rw [if_neg hy]
      have eL : hL (mkH h (tcode tg) vs.length) y = hL h y := by
        show (if y = hN h then _ else hL h y) = _
        rw [if_neg hy]
      rw [e, eT, eL]
      split at H
      · exact H
      · refine ⟨H.1, H.2.1, ?_⟩
        intro j hj
        rw [H.2.2 j hj]
        congr 1
        unfold hv
        split
        · show _ = rv (if y = hN h then 0 else hR h y j)
          rw [if_neg hy]
        · show _ = Value.long (if y = hN h then 0 else hJ h y j)
          rw [if_neg hy]
        · show _ = Value.int (Int32.ofInt (if y = hN h then 0 else hI h y j))
          rw [if_neg hy]
  · intro y j
    show rg (if y = hN h then 0 else hI h y j)
    split
    · exact rg_of (by omega) (by omega)
    · exact a3 y j
  · intro y
    show (if y = hN h then vs.length else hL h y) ≤ _
    split
    · exact hl
    · exact a4 y
  · intro y a hy
    have hy : (if y = hN h then tcode tg else hT h y) = 2 * a + 2 := hy
    show (if y = hN h then vs.length else hL h y) = _
    split
    · rename_i q
      rw [if_pos q] at hy
      exact hn a (tcode_r hy)
    · rename_i q
      rw [if_neg q] at hy
      exact a5 y a hy
  · intro e he
    have hlt := (ks_lt e he).2
    have hne : e.1 ≠ hN h := by omega
    have := a6 e he
    refine ⟨?_, ?_⟩
    · show (if e.1 = hN h then _ else hT h e.1) = _
      rw [if_neg hne]; exact this.1
    · show (if e.1 = hN h then _ else hL h e.1) = _
      rw [if_neg hne]; exact this.2
  · intro e he
    obtain ⟨s, hs, hs1⟩ := kf_in e he
    have hlt := (ks_lt s hs).2
    show (if e.1 = hN h then _ else hR h e.1 e.2.1) = _
    rw [if_neg (by omega)]
    exact a7 e he
end ABS
/-! loops and ends of partial functions -/
def lp {σ ρ : Type} (f : σ → Option (σ ⊕ ρ)) : Nat → σ → Option ρ
  | 0, _ => none
  | n + 1, s => match f s with
    | none => none
    | some (.inl s') => lp f n s'
    | some (.inr r) => some r
theorem lp_succ {σ ρ : Type} {f : σ → Option (σ ⊕ ρ)} {n : Nat} {s : σ} {r : ρ} (e : lp f (n + 1) s = some r) : (∃ s', f s = some (.inl s') ∧ lp f n s' = some r) ∨ f s = some (.inr r) := by
  unfold lp at e
  split at e
  · cases e
  · rename_i s' hs
    exact .inl ⟨s', hs, e⟩
  · rename_i r' hs
    cases e
    exact .inr hs
theorem ob {α β : Type} {m : Option α} {f : α → Option β} {o : β} (e : m.bind f = some o) : ∃ v, m = some v ∧ f v = some o := by
  cases m with
  | none => cases e
  | some v => exact ⟨v, rfl, e⟩
theorem oi {α : Type} {c : Prop} [Decidable c] {a b : Option α} {o : α} (e : (if c then a else b) = some o) : (c ∧ a = some o) ∨ (¬ c ∧ b = some o) := by
  split at e
  · rename_i q; exact .inl ⟨q, e⟩
  · rename_i q; exact .inr ⟨q, e⟩
/-- how often a loop may turn -/
def hF0 : Nat := 2000000
