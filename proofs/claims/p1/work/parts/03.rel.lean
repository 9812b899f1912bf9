/-! how MM's values, locals, stack and cells stand to the real ones -/
abbrev mmG : Type := (Nat → Nat) × (Nat → ClassId) × (Nat → FieldType) × List (ClassId × FieldType)
def mm_vR (G : mmG) (ad : List Nat) : Value → Value → Prop
  | .int x, v => v = .int x
  | .long x, v => v = .long x
  | .null, v => v = .null
  | .ref k, v => ∃ a, ad[k]? = some a ∧ v = .ref a
  | .retAddr j, v => v = .ref (G.1 j)
  | .float _, v => v = .null ∨ ∃ a, v = .ref a
  | _, _ => False
def mm_lR (G : mmG) (ad : List Nat) (ls : mmL) (lv : List (Nat × Value)) : Prop := ∀ (i : Nat) (v : Value), ls[i]? = some (some v) → ∃ v', (i, v') ∈ lv ∧ mm_vR G ad v v'
def mm_sR (G : mmG) (ad : List Nat) : List Value → List Value → Prop
  | [], S => S = []
  | v :: r, S => ∃ v' r', S = v' :: r' ∧ mm_vR G ad v v' ∧ mm_sR G ad r r'
def mm_ty (G : mmG) (t : Nat) : FieldType := if t = 0 then .int else if t = 1 then .boolean else if t = 2 then .byte else if t = 3 then .long else G.2.2.1 t
def mm_cR (G : mmG) (ad : List Nat) (c : mmC) (x : va_E) : Prop := match c.1 with
  | .inr ci => ∃ fs, x = .inr (ci, fs) ∧ fs.length = c.2.length ∧ ∀ (k : Nat) (v : Value), c.2[k]? = some v → ∃ v', fs[k]? = some v' ∧ mm_vR G ad v v'
  | .inl t => (∃ t0 : Nat, G.2.2.2[t0]? = some (G.2.1 t, mm_ty G t)) ∧ if t < 3 then ∃ f, x = .inl (G.2.1 t, c.2.length, .inl f) ∧ ∀ (j : Nat) (v : Value), c.2[j]? = some v → v = .int (f j)
      else if t = 3 then ∃ f, x = .inl (G.2.1 t, c.2.length, .inr (.inl f)) ∧ ∀ (j : Nat) (v : Value), c.2[j]? = some v → v = .long (f j)
      else ∃ f : Nat → Option Nat, x = .inl (G.2.1 t, c.2.length, .inr (.inr (.inr (.inr f)))) ∧ ∀ (j : Nat) (v : Value), c.2[j]? = some v → mm_vR G ad v (va_rf (f j))
def mm_ex (ad ad' : List Nat) : Prop := ∀ (k a : Nat), ad[k]? = some a → ad'[k]? = some a
def mm_wR (G : mmG) (a0 : List Nat) (w : mmW) (ws : va_W) : Prop := w.1.length = ws.length ∧ (∀ (k : Nat) (c : mmC), w.1[k]? = some c → ∃ q, ws[k]? = some q ∧ mm_cR G (ws.map Prod.fst) c q.2) ∧ mm_ex a0 (ws.map Prod.fst)
theorem mm_ex.rf {ad : List Nat} : mm_ex ad ad := fun _ _ h => h
theorem mm_ex.tr {a b c : List Nat} (h : mm_ex a b) (g : mm_ex b c) : mm_ex a c := fun k x q => g k x (h k x q)
theorem mm_ex.app {a b : List Nat} : mm_ex a (a ++ b) := fun k x h => by
  have hl : k < a.length := (List.getElem?_eq_some_iff.mp h).1
  rw [List.getElem?_append_left hl]
  exact h
theorem mm_vR.up {G : mmG} {ad ad' : List Nat} (hx : mm_ex ad ad') {v v' : Value} (h : mm_vR G ad v v') : mm_vR G ad' v v' := by
  cases v with
  | ref k =>
    obtain ⟨a, h1, h2⟩ := h
    exact ⟨a, hx k a h1, h2⟩
  | int x => exact h
  | long x => exact h
  | null => exact h
  | retAddr j => exact h
  | float x => exact h
  | double x => exact h
theorem mm_lR.up {G : mmG} {ad ad' : List Nat} (hx : mm_ex ad ad') {ls : mmL} {lv : List (Nat × Value)} (h : mm_lR G ad ls lv) : mm_lR G ad' ls lv := fun i v hi => by
  obtain ⟨v', h1, h2⟩ := h i v hi
  exact ⟨v', h1, h2.up hx⟩
theorem mm_sR.up {G : mmG} {ad ad' : List Nat} (hx : mm_ex ad ad') : ∀ {st S : List Value}, mm_sR G ad st S → mm_sR G ad' st S
  | [], _, h => h
  | _ :: _, _, h => by
    obtain ⟨v', r', h1, h2, h3⟩ := h
    exact ⟨v', r', h1, h2.up hx, mm_sR.up hx h3⟩
theorem mm_cR.up {G : mmG} {ad ad' : List Nat} (hx : mm_ex ad ad') {c : mmC} {x : va_E} (h : mm_cR G ad c x) : mm_cR G ad' c x := by
  obtain ⟨t | ci, vs⟩ := c
  · simp only [mm_cR] at h ⊢
    refine ⟨h.1, ?_⟩
    have h := h.2
    split
    · rename_i h3
      rw [if_pos h3] at h
      exact h
    · rename_i h3
      rw [if_neg h3] at h
      split
      · rename_i h4
        rw [if_pos h4] at h
        exact h
      · rename_i h4
        rw [if_neg h4] at h
        obtain ⟨f, h1, h2⟩ := h
        exact ⟨f, h1, fun j v hj => (h2 j v hj).up hx⟩
  · obtain ⟨fs, h1, h2, h3⟩ := h
    exact ⟨fs, h1, h2, fun k v hk => by
      obtain ⟨v', g1, g2⟩ := h3 k v hk
      exact ⟨v', g1, g2.up hx⟩⟩
theorem mm_vR.cat {G : mmG} {ad : List Nat} {v v' : Value} (h : mm_vR G ad v v') : v'.category = v.category := by
  cases v with
  | ref k =>
    obtain ⟨a, -, rfl⟩ := h
    rfl
  | int x => cases h; rfl
  | long x => cases h; rfl
  | null => cases h; rfl
  | retAddr j => cases h; rfl
  | float x => rcases h with rfl | ⟨a, rfl⟩ <;> rfl
  | double x => exact h.elim
theorem mm_sR.cat {G : mmG} {ad : List Nat} : ∀ {st S : List Value}, mm_sR G ad st S → mm_cat S = mm_cat st
  | [], _, h => by cases h; rfl
  | v :: r, _, h => by
    obtain ⟨v', r', rfl, h2, h3⟩ := h
    have := h3.cat
    simp only [mm_cat, List.map_cons, List.sum_cons] at this ⊢
    rw [this, h2.cat]
theorem mm_sR.len {G : mmG} {ad : List Nat} : ∀ {st S : List Value}, mm_sR G ad st S → S.length = st.length
  | [], _, h => by cases h; rfl
  | v :: r, _, h => by
    obtain ⟨v', r', rfl, h2, h3⟩ := h
    simp [h3.len]
theorem mm_sR.app {G : mmG} {ad : List Nat} : ∀ {a b a' b' : List Value}, mm_sR G ad a a' → mm_sR G ad b b' → mm_sR G ad (a ++ b) (a' ++ b')
  | [], _, _, _, h, g => by cases h; exact g
  | v :: r, _, _, _, h, g => by
    obtain ⟨v', r', rfl, h2, h3⟩ := h
    exact ⟨v', _, rfl, h2, mm_sR.app h3 g⟩
theorem mm_sR.rev {G : mmG} {ad : List Nat} : ∀ {a a' : List Value}, mm_sR G ad a a' → mm_sR G ad a.reverse a'.reverse
  | [], _, h => by cases h; exact rfl
  | v :: r, _, h => by
    obtain ⟨v', r', rfl, h2, h3⟩ := h
    rw [List.reverse_cons, List.reverse_cons]
    exact mm_sR.app h3.rev ⟨v', [], rfl, h2, rfl⟩
theorem mm_sR.take {G : mmG} {ad : List Nat} : ∀ (n : Nat) {a a' : List Value}, mm_sR G ad a a' → mm_sR G ad (a.take n) (a'.take n)
  | 0, _, _, _ => by rw [List.take_zero, List.take_zero]; rfl
  | _ + 1, [], _, h => by cases h; rfl
  | n + 1, v :: r, _, h => by
    obtain ⟨v', r', rfl, h2, h3⟩ := h
    exact ⟨v', _, rfl, h2, mm_sR.take n h3⟩
theorem mm_sR.drop {G : mmG} {ad : List Nat} : ∀ (n : Nat) {a a' : List Value}, mm_sR G ad a a' → mm_sR G ad (a.drop n) (a'.drop n)
  | 0, _, _, h => by rw [List.drop_zero, List.drop_zero]; exact h
  | _ + 1, [], _, h => by cases h; rfl
  | n + 1, v :: r, _, h => by
    obtain ⟨v', r', rfl, h2, h3⟩ := h
    exact mm_sR.drop n h3
theorem mm_mapset {ws : va_W} {x a : Nat} {e e' : va_E} (h : ws[x]? = some (a, e)) : (ws.set x (a, e')).map Prod.fst = ws.map Prod.fst := by
  apply List.ext_getElem?
  intro k
  rw [List.getElem?_map, List.getElem?_map, List.getElem?_set]
  split
  · rename_i hk
    subst hk
    rw [h]
    split
    · rfl
    · rename_i hl
      exact absurd (List.getElem?_eq_some_iff.mp h).1 hl
  · rfl
theorem mm_wR.put {G : mmG} {a0 : List Nat} {w : mmW} {ws : va_W} {x a : Nat} {e e' : va_E} {c : mmC} (h : mm_wR G a0 w ws) (hx : ws[x]? = some (a, e)) (hc : mm_cR G (ws.map Prod.fst) c e') : mm_wR G a0 (mm_set w x c) (ws.set x (a, e')) := by
  refine ⟨by simp [mm_set, h.1], fun k c' hk => ?_, by rw [mm_mapset hx]; exact h.2.2⟩
  rw [mm_mapset hx]
  have hl : x < ws.length := (List.getElem?_eq_some_iff.mp hx).1
  by_cases hkx : x = k
  · subst hkx
    simp only [mm_set] at hk
    rw [List.getElem?_set_self (by rw [h.1]; exact hl)] at hk
    cases hk
    exact ⟨(a, e'), by rw [List.getElem?_set_self hl], hc⟩
  · simp only [mm_set] at hk
    rw [List.getElem?_set_ne hkx] at hk
    obtain ⟨q, h1, h2⟩ := h.2.1 k c' hk
    exact ⟨q, by rw [List.getElem?_set_ne hkx]; exact h1, h2⟩
theorem mm_wR.push {G : mmG} {a0 : List Nat} {w : mmW} {ws : va_W} {a : Nat} {e : va_E} {c : mmC} (h : mm_wR G a0 w ws) (hc : mm_cR G ((ws ++ [(a, e)]).map Prod.fst) c e) : mm_wR G a0 (mm_mk w c) (ws ++ [(a, e)]) := by
  refine ⟨by simp [mm_mk, h.1], fun k c' hk => ?_, by rw [List.map_append]; exact h.2.2.tr mm_ex.app⟩
  simp only [mm_mk] at hk
  by_cases hkx : k < w.1.length
  · rw [List.getElem?_append_left hkx] at hk
    obtain ⟨q, h1, h2⟩ := h.2.1 k c' hk
    refine ⟨q, by rw [List.getElem?_append_left (by rw [← h.1]; exact hkx)]; exact h1, ?_⟩
    rw [List.map_append]
    exact h2.up mm_ex.app
  · rw [List.getElem?_append_right (by omega)] at hk
    have hz : k - w.1.length < 1 := (List.getElem?_eq_some_iff.mp hk).1
    rw [show k - w.1.length = 0 by omega] at hk
    cases hk
    have e1 : k = ws.length := by rw [← h.1]; omega
    subst e1
    exact ⟨(a, e), by rw [List.getElem?_append_right (Nat.le_refl _), Nat.sub_self]; rfl, hc⟩
/-- where a frame and the heap stand -/
def mm_In (G : mmG) (D : va_G) (cl : List vw_C) (A : Nat → Prop) (H0 : Heap) (nL c0 s0 : Nat) (a0 : List Nat) (ls : mmL) (st : List Value) (w : mmW) (H : Heap) (locs : List Loc) (cells slots : Nat) (L : Array Slot) (S : List Value) : Prop :=
  ∃ (ws : va_W) (lv : List (Nat × Value)), va_P D cl ws H ∧ va_D A ws ∧ va_S A H0 H locs ∧ mm_wR G a0 w ws ∧ lv_has L nL lv ∧ mm_lR G (ws.map Prod.fst) ls lv ∧ ls.length = nL ∧ mm_sR G (ws.map Prod.fst) st S ∧ cells + c0 = w.2.1 ∧ slots + s0 = w.2.2
