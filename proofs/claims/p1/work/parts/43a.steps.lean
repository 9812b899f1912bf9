/-! steps on the world by facts of its cells (no look through the whole world) -/
section MPS
variable {P : mmP} {pc : Nat} {ls : mmL} {st : List Value} {w : mmW} {k d : Nat} {Q : mmO → Prop}
theorem mm_getS {x : Nat} {c c0 : mmC} (h : w.1[x]? = some c0) : (mm_set w x c).1[x]? = some c := by
  have hl : x < w.1.length := (List.getElem?_eq_some_iff.mp h).1
  show (w.1.set x c)[x]? = some c
  rw [List.getElem?_set_self hl]
theorem mm_getN {x y : Nat} {c c0 : mmC} (hxy : x ≠ y) (h : w.1[y]? = some c0) : (mm_set w x c).1[y]? = some c0 := by
  show (w.1.set x c)[y]? = some c0
  rw [List.getElem?_set_ne hxy]
  exact h
theorem mu_get {i a b t x : Nat} {vs : List Value} {v : Value} (hc : P.1 k pc = some (.getfield i, a, b, t)) (hw : w.1[x]? = some (.inr a, vs)) (hv : vs[b]? = some v) (g : mu_G P d k (pc + 3, ls, v :: st, w) Q) : mu_G P d k (pc, ls, .ref x :: st, w) Q := by
  refine mt_runs 1 ?_ g
  simp only [mm_run, hc, mm1, mm_get, mm_cell, hw, if_true, hv]
  rfl
theorem mu_put {i a b t x : Nat} {vs : List Value} {v : Value} (hc : P.1 k pc = some (.putfield i, a, b, t)) (hw : w.1[x]? = some (.inr a, vs)) (hb : b < vs.length) (hf : mm_fit t v = true) (g : mu_G P d k (pc + 3, ls, st, mm_set w x (.inr a, vs.set b v)) Q) : mu_G P d k (pc, ls, v :: .ref x :: st, w) Q := by
  refine mt_runs 1 ?_ g
  simp only [mm_run, hc, mm1, mm_put, hw]
  rw [if_pos ⟨trivial, hb, hf⟩]
  rfl
theorem mu_iast {x : Nat} {vs : List Value} {v : Int32} {i : Int32} {z : Nat × Nat × Nat} {n : Nat} (hc : P.1 k pc = some (.iastore, z)) (hw : w.1[x]? = some (.inl 0, vs)) (hn : i.toNatClampNeg = n) (h0 : ¬ i < 0) (hl : n < vs.length) (g : mu_G P d k (pc + 1, ls, st, mm_set w x (.inl 0, vs.set n (.int v))) Q) : mu_G P d k (pc, ls, .int v :: .int i :: .ref x :: st, w) Q := by
  subst hn
  refine mt_runs 1 ?_ g
  simp only [mm_run, hc, mm1, mm_ast, hw]
  rw [if_pos ⟨trivial, rfl, h0, hl⟩]
  rfl
theorem mu_ald {e : mmE} {q : Nat → Bool} {x t : Nat} {vs : List Value} {v : Value} {i : Int32} {n : Nat} (hc : P.1 k pc = some e) (he : ∀ call ls st w, mm1 P call e pc ls st w = mm_ald q P pc ls st w) (hw : w.1[x]? = some (.inl t, vs)) (hq : q t = true) (hn : i.toNatClampNeg = n) (h0 : ¬ i < 0) (hv : vs[n]? = some v) (g : mu_G P d k (pc + 1, ls, v :: st, w) Q) : mu_G P d k (pc, ls, .int i :: .ref x :: st, w) Q := by
  subst hn
  refine mt_runs 1 ?_ g
  simp only [mm_run, hc, he, mm_ald, mm_cell, hw]
  rw [if_pos ⟨hq, h0⟩]
  simp only [hv]
  rfl
theorem mu_alen {x t : Nat} {vs : List Value} {z : Nat × Nat × Nat} (hc : P.1 k pc = some (.arraylength, z)) (hw : w.1[x]? = some (.inl t, vs)) (g : mu_G P d k (pc + 1, ls, .int (Int32.ofNat vs.length) :: st, w) Q) : mu_G P d k (pc, ls, .ref x :: st, w) Q := by
  refine mt_runs 1 ?_ g
  simp only [mm_run, hc, mm1, mm_alen, mm_cell, hw]
  rfl
end MPS
