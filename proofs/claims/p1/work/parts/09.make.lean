/-! what is made; casts, constants, comparisons of references, natives -/
def mm_stv (G : mmG) (a b : Nat) : Value := if a = 0 then .int (Int32.ofNat b) else .ref (G.1 b)
section MMZ
variable {p : Program} {l : Launch} {e : Env} {R : Room} {s : State} {m : MethodId} {args : Array Value} {below : List Frame} {meth : Method} {c : Code} {Q : State → Prop}
variable {G : mmG} {D : va_G} {cl : List vw_C} {ocl : Nat → Option vw_C} {A : Nat → Prop} {nL c0 s0 : Nat} {a0 : List Nat} {cc : ByteArray} {pc : Nat} {ls : mmL} {st : List Value} {w : mmW} {H : Heap} {locs : List Loc} {cells slots : Nat} {L : Array Slot} {S : List Value} {F : mmF} {P : mmP} {Ts : List Cond} {own : String}
theorem mm_push {ws : va_W} {a : Nat} {x : va_E} {k : mmC} {lv : List (Nat × Value)} {H1 : Heap} {r S' : List Value} (hP1 : va_P D cl (ws ++ [(a, x)]) H1) (hD1 : va_D A (ws ++ [(a, x)])) (hS1 : va_S A s.heap H1 locs) (hW : mm_wR G a0 w ws) (hL : lv_has L nL lv) (hl : mm_lR G (ws.map Prod.fst) ls lv) (hn : ls.length = nL) (hs : mm_sR G (ws.map Prod.fst) r S') (e1 : cells + c0 = w.2.1) (e2 : slots + s0 = w.2.2) (hk : mm_cR G ((ws ++ [(a, x)]).map Prod.fst) k x) :
    mm_In G D cl A s.heap nL c0 s0 a0 ls (.ref w.1.length :: r) (mm_mk w k) H1 locs (cells + 1) (slots + k.2.length) L (.ref a :: S') := by
  have hx : mm_ex (ws.map Prod.fst) ((ws ++ [(a, x)]).map Prod.fst) := by rw [List.map_append]; exact mm_ex.app
  refine ⟨_, lv, hP1, hD1, hS1, hW.push hk, hL, hl.up hx, hn, ⟨_, _, rfl, ⟨a, ?_, rfl⟩, hs.up hx⟩, ?_, ?_⟩
  · rw [hW.1, List.getElem?_map, List.getElem?_append_right (Nat.le_refl _), Nat.sub_self]
    rfl
  · simp only [mm_mk]
    omega
  · simp only [mm_mk]
    omega
theorem mm_rep {n : Nat} {v x : Value} {j : Nat} (h : (List.replicate n v)[j]? = some x) : x = v := List.eq_of_mem_replicate (List.mem_of_getElem? h)
theorem mm_newa_inv {t d : Nat} (h : mm_newa t d pc ls st w = some (.inr F)) : ∃ n r, st = .int n :: r ∧ ¬ n < 0 ∧ n.toNatClampNeg ≤ 100000 ∧ F = (pc + d, ls, .ref w.1.length :: r, mm_mk w (.inl t, List.replicate n.toNatClampNeg (mm_zero t))) := by
  unfold mm_newa at h
  split at h
  case h_2 => cases h
  rename_i n r
  split at h
  case isFalse => cases h
  rename_i hq
  cases h
  exact ⟨n, r, rfl, hq.1, hq.2, rfl⟩
theorem mm_s_newa (hx : p.tables.exec = Jvm.exec) (hb : c.code = cc) (hts : ∀ w ∈ Ts, w.before args s = true) (hK : va_K D cl G.2.2.2 s) (hA : ∀ q, s.heap.size ≤ q → A q)
    {at' : ArrayType} {t : Nat} (ok : (∃ t0 : Nat, G.2.2.2[t0]? = some (G.2.1 t, mm_ty G t)) ∧ Cond.arrayClass (newarray.typeOf at') ∈ Ts ∧ ((t = 0 ∧ at' = .int) ∨ (t = 1 ∧ at' = .boolean) ∨ (t = 3 ∧ at' = .long)))
    (hd : decode cc pc = .ok (.newarray at', 2)) (hI : mm_In G D cl A s.heap nL c0 s0 a0 ls st w H locs cells slots L S) (h : mm_newa t 2 pc ls st w = some (.inr F)) (hR : F.2.2.2.2.1 ≤ R.cells + c0 ∧ F.2.2.2.2.2 ≤ R.slots + s0) (k : mm_Kn p l e R s m args below meth c Q G D cl A s.heap nL c0 s0 a0 F) : W p l e R s m args below meth c H locs cells slots Q (F0 m pc L S) := by
  obtain ⟨n, r, rfl, hn0, hn1, rfl⟩ := mm_newa_inv h
  obtain ⟨ws, lv, hP, hD, hS, hW, hL, hl, hn, hs, e1, e2⟩ := hI
  obtain ⟨i', S', rfl, hii, hs⟩ := hs
  cases hii
  obtain ⟨⟨t0, ht0⟩, ok2, ok3⟩ := ok
  simp only [mm_mk, List.length_replicate] at hR
  obtain ⟨hR1, hR2⟩ := hR
  rcases ok3 with ⟨rfl, rfl⟩ | ⟨rfl, rfl⟩ | ⟨rfl, rfl⟩
  · refine va_newa (ty := .int) (N' := n.toNatClampNeg) (a0 := (n.toNatClampNeg, .inl fun _ => 0)) hx hb (hts _ ok2) rfl hK hP hD hS hA (fun _ => rfl) hn0 rfl (by simp [componentBytes]; omega) (by omega) (by omega) hd (fun q cA H1 hK1 hP1 hD1 hS1 => ?_)
    have h1 := (hK1.2 G.2.2.2.length (cA, .int) (by simp)).2
    have h2 := (hK.2 t0 _ ht0).2
    have h3 : cA = G.2.1 0 := Option.some.inj ((show s.vm.findClass _ = some cA from h1).symm.trans (show s.vm.findClass _ = some (G.2.1 0) from h2))
    subst h3
    have kk := mm_push (k := (.inl 0, List.replicate n.toNatClampNeg (mm_zero 0))) hP1 hD1 hS1 hW hL hl hn hs e1 e2 ⟨⟨t0, ht0⟩, by
      rw [if_pos (by decide)]
      exact ⟨_, by rw [List.length_replicate], fun j v hj => mm_rep hj⟩⟩
    rw [List.length_replicate] at kk
    exact k _ _ _ _ _ _ kk
  · refine va_newa (ty := .boolean) (N' := n.toNatClampNeg) (a0 := (n.toNatClampNeg, .inl fun _ => 0)) hx hb (hts _ ok2) rfl hK hP hD hS hA (fun _ => rfl) hn0 rfl (by simp [componentBytes]; omega) (by omega) (by omega) hd (fun q cA H1 hK1 hP1 hD1 hS1 => ?_)
    have h1 := (hK1.2 G.2.2.2.length (cA, .boolean) (by simp)).2
    have h2 := (hK.2 t0 _ ht0).2
    have h3 : cA = G.2.1 1 := Option.some.inj ((show s.vm.findClass _ = some cA from h1).symm.trans (show s.vm.findClass _ = some (G.2.1 1) from h2))
    subst h3
    have kk := mm_push (k := (.inl 1, List.replicate n.toNatClampNeg (mm_zero 1))) hP1 hD1 hS1 hW hL hl hn hs e1 e2 ⟨⟨t0, ht0⟩, by
      rw [if_pos (by decide)]
      exact ⟨_, by rw [List.length_replicate], fun j v hj => mm_rep hj⟩⟩
    rw [List.length_replicate] at kk
    exact k _ _ _ _ _ _ kk
  · refine va_newa (ty := .long) (N' := n.toNatClampNeg) (a0 := (n.toNatClampNeg, .inr (.inl fun _ => 0))) hx hb (hts _ ok2) rfl hK hP hD hS hA (fun _ => rfl) hn0 rfl (by simp [componentBytes]; omega) (by omega) (by omega) hd (fun q cA H1 hK1 hP1 hD1 hS1 => ?_)
    have h1 := (hK1.2 G.2.2.2.length (cA, .long) (by simp)).2
    have h2 := (hK.2 t0 _ ht0).2
    have h3 : cA = G.2.1 3 := Option.some.inj ((show s.vm.findClass _ = some cA from h1).symm.trans (show s.vm.findClass _ = some (G.2.1 3) from h2))
    subst h3
    have kk := mm_push (k := (.inl 3, List.replicate n.toNatClampNeg (mm_zero 3))) hP1 hD1 hS1 hW hL hl hn hs e1 e2 ⟨⟨t0, ht0⟩, by
      rw [if_neg (by decide), if_pos rfl]
      exact ⟨_, by rw [List.length_replicate], fun j v hj => mm_rep hj⟩⟩
    rw [List.length_replicate] at kk
    exact k _ _ _ _ _ _ kk
theorem mm_s_anewa (hx : p.tables.exec = Jvm.exec) (hb : c.code = cc) (hts : ∀ w ∈ Ts, w.before args s = true) (hown : s.vm.findClass own = some m.cls) (hK : va_K D cl G.2.2.2 s) (hA : ∀ q, s.heap.size ≤ q → A q)
    {i t : Nat} (ok : 4 ≤ t ∧ (∃ t0 : Nat, G.2.2.2[t0]? = some (G.2.1 t, G.2.2.1 t)) ∧ Cond.arrayOver (G.2.2.1 t) ∈ Ts ∧ Cond.classLink own i (mm_nm (G.2.2.1 t)) ∈ Ts ∧ ((∃ C, G.2.2.1 t = .object C) ∨ ∃ T, G.2.2.1 t = .array T))
    (hd : decode cc pc = .ok (.anewarray i, 3)) (hI : mm_In G D cl A s.heap nL c0 s0 a0 ls st w H locs cells slots L S) (h : mm_newa t 3 pc ls st w = some (.inr F)) (hR : F.2.2.2.2.1 ≤ R.cells + c0 ∧ F.2.2.2.2.2 ≤ R.slots + s0) (k : mm_Kn p l e R s m args below meth c Q G D cl A s.heap nL c0 s0 a0 F) : W p l e R s m args below meth c H locs cells slots Q (F0 m pc L S) := by
  obtain ⟨n, r, rfl, hn0, hn1, rfl⟩ := mm_newa_inv h
  obtain ⟨ws, lv, hP, hD, hS, hW, hL, hl, hn, hs, e1, e2⟩ := hI
  obtain ⟨i', S', rfl, hii, hs⟩ := hs
  cases hii
  obtain ⟨ht, ⟨t0, ht0⟩, ok2, ok3, ok4⟩ := ok
  simp only [mm_mk, List.length_replicate] at hR
  obtain ⟨hR1, hR2⟩ := hR
  have hz : mm_zero t = .null := by
    unfold mm_zero
    rw [if_neg (by omega), if_neg (by omega)]
  have key : ∀ (cA : ClassId), cA = G.2.1 t → W p l e R s m args below meth c (H.push { cls := cA, slots := Array.replicate n.toNatClampNeg .null, vm := .none }) locs (cells + 1) (slots + n.toNatClampNeg) Q (F0 m (pc + 3) L (.ref H.size :: S')) := by
    intro cA hcA
    subst hcA
    generalize hH1 : H.push ({ cls := G.2.1 t, slots := Array.replicate n.toNatClampNeg .null, vm := .none } : Cell) = H1
    have z1 : H1.size = H.size + 1 := by rw [← hH1, Array.size_push]
    have e3 : H1[H.size]? = some (arrV (G.2.1 t) n.toNatClampNeg (fun _ => .null)) := by rw [← hH1, Array.getElem?_push_size, ← arrV_new]
    have o1 : ∀ q : Nat, q < H.size → H1[q]? = H[q]? := fun q hq => by rw [← hH1, Array.getElem?_push, if_neg (Nat.ne_of_lt hq)]
    have hk : ∀ (k : Nat) (x : Nat × va_E), ws[k]? = some x → H1[x.1]? = H[x.1]? := fun k x hx => o1 x.1 ((hP k x hx).lt)
    have hP1 : va_P D cl (ws ++ [(H.size, .inl (G.2.1 t, n.toNatClampNeg, .inr (.inr (.inr (.inr fun _ => none)))))]) H1 := (hP.kept hk).app (fun k x hx => by
      have hz : k < 1 := (List.getElem?_eq_some_iff.mp hx).1
      rw [show k = 0 by omega] at hx
      cases hx
      show H1[H.size]? = some (vp_cell _ _)
      rw [vp_cell_q]
      exact e3)
    have kk := mm_push (k := (.inl t, List.replicate n.toNatClampNeg (mm_zero t))) hP1 (hD.push hP rfl (hA _ hS.1)) ⟨Nat.le_trans hS.1 (by omega), fun x h1 h2 => (o1 x (Nat.lt_of_lt_of_le h1 hS.1)).trans (hS.2.1 x h1 h2), hS.2.2⟩ hW hL hl hn hs e1 e2 ⟨⟨t0, by rw [mm_ty_r ht]; exact ht0⟩, by
      rw [if_neg (show ¬ t < 3 by omega), if_neg (show ¬ t = 3 by omega)]
      exact ⟨_, by rw [List.length_replicate], fun j v hj => by rw [mm_rep hj, hz]; rfl⟩⟩
    rw [List.length_replicate] at kk
    exact k _ _ _ _ _ _ kk
  have hra := (hK.2 t0 _ ht0).2
  rcases ok4 with ⟨C, hC⟩ | ⟨T, hT⟩
  · rw [hC] at ok2 ok3 hra
    refine W.anew hx hb hown (hts _ ok3) (hts _ ok2) rfl hd rfl hn0 (by omega) (by omega) (by omega) fun cA kA comp f1 f2 f3 f4 => key cA ?_
    obtain ⟨_, _, _, _, _, h4⟩ := hra
    exact Option.some.inj (f1.symm.trans h4)
  · rw [hT] at ok2 ok3 hra
    refine W.anewA hx hb hown (hts _ ok3) (hts _ ok2) rfl hd rfl hn0 (by omega) (by omega) (by omega) fun cA kA comp f1 f2 f3 f4 => key cA ?_
    exact Option.some.inj (f1.symm.trans hra)
def mm_okN (Ts : List Cond) (P : mmP) (cl : List vw_C) (own : String) (i a : Nat) : Prop := ∃ r : vw_C, cl[a]? = some r ∧ Cond.classLink own i r.1 ∈ Ts ∧ Cond.instantiable r.1 r.2.2 ∈ Ts ∧ Cond.initialized r.1 ∈ Ts ∧ ∀ vs, P.2.1 a = some vs → vs.length = r.2.2 ∧ ∀ j, j < r.2.2 → ∃ ty v, parseFieldDescriptor (r.2.1 j).2.2.1 = some ty ∧ vs[j]? = some v ∧ v = defaultValue ty ∧ mm_vR ((fun _ => 0), (fun _ => 0), (fun _ => .int), []) [] v v
theorem mm_vR.any {G' : mmG} {v : Value} (h : mm_vR G' [] v v) (hj : ∀ j, v ≠ .retAddr j) {ad : List Nat} : mm_vR G ad v v := by
  cases v with
  | ref k =>
    obtain ⟨a, h1, -⟩ := h
    simp at h1
  | retAddr j => exact absurd rfl (hj j)
  | int x => rfl
  | long x => rfl
  | null => rfl
  | float x => exact absurd h (by simp [mm_vR])
  | double x => exact h.elim
theorem mm_s_new (hx : p.tables.exec = Jvm.exec) (hb : c.code = cc) (hts : ∀ w ∈ Ts, w.before args s = true) (hown : s.vm.findClass own = some m.cls) (hK : va_K D cl G.2.2.2 s) (hA : ∀ q, s.heap.size ≤ q → A q) (hC : ∀ r ∈ cl, mm_okC Ts r)
    {i a : Nat} (ok : mm_okN Ts P cl own i a)
    (hd : decode cc pc = .ok (.new i, 3)) (hI : mm_In G D cl A s.heap nL c0 s0 a0 ls st w H locs cells slots L S) (h : mm_new P a pc ls st w = some (.inr F)) (hR : F.2.2.2.2.1 ≤ R.cells + c0 ∧ F.2.2.2.2.2 ≤ R.slots + s0) (k : mm_Kn p l e R s m args below meth c Q G D cl A s.heap nL c0 s0 a0 F) : W p l e R s m args below meth c H locs cells slots Q (F0 m pc L S) := by
  unfold mm_new at h
  split at h
  case h_2 => cases h
  rename_i vs hvs
  cases h
  obtain ⟨r, o1, o2, o3, o4, o5⟩ := ok
  obtain ⟨o5, o6⟩ := o5 vs hvs
  obtain ⟨ws, lv, hP, hD, hS, hW, hL, hl, hn, hs, e1, e2⟩ := hI
  have hok := hC r (List.mem_of_getElem? o1)
  obtain ⟨ty0, hty0⟩ := hok.2.1
  simp only [mm_mk] at hR
  obtain ⟨hR1, hR2⟩ := hR
  rw [o5] at hR2
  refine va_new (ci := a) (fs := vs) (C := r.1) (T := r.2.1) (N := r.2.2) hx hb hts hok.1 ty0 hty0 hown (hts _ o2) (hts _ o3) (hts _ o4) hK hP hD hS hA o1 (fun j hj => ?_) (by omega) (by omega) hd (fun q H1 hP1 hD1 hS1 => ?_)
  · obtain ⟨ty, v, q1, q2, q3, q4⟩ := o6 j hj
    rw [hty0 j hj] at q1
    cases q1
    rw [← q3]
    simp [vp_V, q2]
  · have kk := mm_push (k := (.inr a, vs)) hP1 hD1 hS1 hW hL hl hn hs e1 e2 ⟨vs, rfl, rfl, fun j v hv => ⟨v, hv, by
      obtain ⟨ty, v', q1, q2, q3, q4⟩ := o6 j (by rw [← o5]; exact (List.getElem?_eq_some_iff.mp hv).1)
      have hq : vs[j]? = some v := hv
      rw [q2] at hq
      cases hq
      exact q4.any (fun j hj => by rw [q3] at hj; cases ty <;> cases hj)⟩⟩
    rw [o5] at kk
    exact k _ _ _ _ _ _ kk
theorem mm_s_cast (hx : p.tables.exec = Jvm.exec) (hb : c.code = cc) (hts : ∀ w ∈ Ts, w.before args s = true) (hown : s.vm.findClass own = some m.cls) (hK : va_K D cl G.2.2.2 s)
    {i a : Nat} (ok : ∃ r : vw_C, cl[a]? = some r ∧ Cond.classLink own i r.1 ∈ Ts)
    (hd : decode cc pc = .ok (.checkcast i, 3)) (hI : mm_In G D cl A s.heap nL c0 s0 a0 ls st w H locs cells slots L S) (h : mm_cast a pc ls st w = some (.inr F)) (k : mm_Kn p l e R s m args below meth c Q G D cl A s.heap nL c0 s0 a0 F) : W p l e R s m args below meth c H locs cells slots Q (F0 m pc L S) := by
  obtain ⟨r, o1, o2⟩ := ok
  obtain ⟨ws, lv, hP, hD, hS, hW, hL, hl, hn, hs, e1, e2⟩ := hI
  unfold mm_cast at h
  split at h
  · cases h
    obtain ⟨_, S', rfl, hv, hs⟩ := hs
    cases hv
    exact lv_castN hx hb hd (k _ _ _ _ _ _ ⟨ws, lv, hP, hD, hS, hW, hL, hl, hn, ⟨_, _, rfl, rfl, hs⟩, e1, e2⟩)
  · split at h
    case h_2 => cases h
    rename_i x _ ci vs hc
    split at h
    case isFalse => cases h
    rename_i hca
    subst hca
    cases h
    obtain ⟨x', S', rfl, hxx, hs⟩ := hs
    have hx2 := hxx
    obtain ⟨ad, e, rfl, g1, g2⟩ := mm_at hW hxx hc
    obtain ⟨fs, rfl, -, -⟩ := g2
    exact va_castS (cC := D.1 ci) hx hb hown (hts _ o2) (hK.1 ci r o1).2 (va_recv hK hP o1 g1) hd (k _ _ _ _ _ _ ⟨ws, lv, hP, hD, hS, hW, hL, hl, hn, ⟨_, _, rfl, hx2, hs⟩, e1, e2⟩)
  · cases h
theorem mm_ldc_inv {a b d : Nat} (h : mm_ldc a b d pc ls st w = some (.inr F)) : (a = 0 ∧ F = (pc + d, ls, .int (Int32.ofNat b) :: st, w)) ∨ (a = 1 ∧ F = (pc + d, ls, .retAddr b :: st, w)) ∨ (a = 2 ∧ F = (pc + d, ls, .float 0 :: st, w)) := by
  unfold mm_ldc at h
  split at h
  · cases h
    exact Or.inl ⟨rfl, rfl⟩
  · cases h
    exact Or.inr (Or.inl ⟨rfl, rfl⟩)
  · cases h
    exact Or.inr (Or.inr ⟨rfl, rfl⟩)
  · cases h
/-- a static: a number, an old cell, or a reference that nobody asks after -/
def mm_stF (G : mmG) (a b : Nat) (C n d : String) (A : Nat → Prop) (U : State) (H : Heap) : Prop := if a = 2 then va_Zq C n d A U H else va_Z C n d (mm_stv G a b) A U H
theorem mm_stF.moved {G : mmG} {a b : Nat} {C n d : String} {A : Nat → Prop} {u U : State} {H : Heap} (hvm : u.vm.Alike U.vm) (h : mm_stF G a b C n d A u H) : mm_stF G a b C n d A U H := by
  unfold mm_stF at h ⊢
  split
  · rename_i h2
    rw [if_pos h2] at h
    exact h.moved hvm
  · rename_i h2
    rw [if_neg h2] at h
    exact va_Z.moved hvm h
theorem mm_stF.kept {G : mmG} {a b : Nat} {C n d : String} {A : Nat → Prop} {U : State} {H H1 : Heap} (h : mm_stF G a b C n d A U H) (hq : ∀ a : Nat, a < H.size → ¬ A a → H1[a]? = H[a]?) : mm_stF G a b C n d A U H1 := by
  unfold mm_stF at h ⊢
  split
  · rename_i h2
    rw [if_pos h2] at h
    exact h.kept hq
  · rename_i h2
    rw [if_neg h2] at h
    exact h.kept hq
theorem mm_s_ldc (hx : p.tables.exec = Jvm.exec) (hb : c.code = cc) (hts : ∀ w ∈ Ts, w.before args s = true) (hown : s.vm.findClass own = some m.cls)
    {i a b : Nat} (ok : (a = 0 ∧ Cond.constant own i (Int32.ofNat b) ∈ Ts) ∨ (a = 1 ∧ ((∃ tx, vk_R own i tx (G.1 b) s) ∨ ∃ C, Cond.classLink own i C ∈ Ts ∧ va_Mi C (G.1 b) s)))
    (hd : decode cc pc = .ok (.ldc i, 2)) (hI : mm_In G D cl A s.heap nL c0 s0 a0 ls st w H locs cells slots L S) (h : mm_ldc a b 2 pc ls st w = some (.inr F)) (k : mm_Kn p l e R s m args below meth c Q G D cl A s.heap nL c0 s0 a0 F) : W p l e R s m args below meth c H locs cells slots Q (F0 m pc L S) := by
  obtain ⟨ws, lv, hP, hD, hS, hW, hL, hl, hn, hs, e1, e2⟩ := hI
  rcases mm_ldc_inv h with ⟨rfl, rfl⟩ | ⟨rfl, rfl⟩ | ⟨rfl, rfl⟩
  · rcases ok with ⟨-, ok⟩ | ⟨h0, -⟩
    · exact lv_ldc hx hb hown (hts _ ok) hd (k _ _ _ _ _ _ ⟨ws, lv, hP, hD, hS, hW, hL, hl, hn, ⟨_, _, rfl, rfl, hs⟩, e1, e2⟩)
    · cases h0
  · rcases ok with ⟨h0, -⟩ | ⟨-, ok⟩
    · cases h0
    · have kk := k H locs cells slots L (.ref (G.1 b) :: S) ⟨ws, lv, hP, hD, hS, hW, hL, hl, hn, ⟨_, _, rfl, rfl, hs⟩, e1, e2⟩
      rcases ok with ⟨tx, ok⟩ | ⟨C, ok1, ok2⟩
      · exact va_ldcS hx hb hown ok hd kk
      · exact va_ldcM hx hb hown (hts _ ok1) ok2 hd kk
  · rcases ok with ⟨h0, -⟩ | ⟨h0, -⟩ <;> cases h0
theorem mm_s_ldcw (hx : p.tables.exec = Jvm.exec) (hb : c.code = cc) (hts : ∀ w ∈ Ts, w.before args s = true) (hown : s.vm.findClass own = some m.cls)
    {i a b : Nat} (ok : a = 0 ∧ Cond.constant own i (Int32.ofNat b) ∈ Ts)
    (hd : decode cc pc = .ok (.ldc_w i, 3)) (hI : mm_In G D cl A s.heap nL c0 s0 a0 ls st w H locs cells slots L S) (h : mm_ldc a b 3 pc ls st w = some (.inr F)) (k : mm_Kn p l e R s m args below meth c Q G D cl A s.heap nL c0 s0 a0 F) : W p l e R s m args below meth c H locs cells slots Q (F0 m pc L S) := by
  obtain ⟨ws, lv, hP, hD, hS, hW, hL, hl, hn, hs, e1, e2⟩ := hI
  obtain ⟨rfl, ok⟩ := ok
  rcases mm_ldc_inv h with ⟨-, rfl⟩ | ⟨h0, -⟩ | ⟨h0, -⟩
  · exact lv_ldcw hx hb hown (hts _ ok) hd (k _ _ _ _ _ _ ⟨ws, lv, hP, hD, hS, hW, hL, hl, hn, ⟨_, _, rfl, rfl, hs⟩, e1, e2⟩)
  · cases h0
  · cases h0
theorem mm_s_gets (hx : p.tables.exec = Jvm.exec) (hb : c.code = cc) (hts : ∀ w ∈ Ts, w.before args s = true) (hown : s.vm.findClass own = some m.cls)
    {i a b : Nat} (ok : ∃ C n d, Cond.fieldLink own i C n d ∈ Ts ∧ mm_stF G a b C n d A s s.heap)
    (hd : decode cc pc = .ok (.getstatic i, 3)) (hI : mm_In G D cl A s.heap nL c0 s0 a0 ls st w H locs cells slots L S) (h : mm_ldc a b 3 pc ls st w = some (.inr F)) (k : mm_Kn p l e R s m args below meth c Q G D cl A s.heap nL c0 s0 a0 F) : W p l e R s m args below meth c H locs cells slots Q (F0 m pc L S) := by
  obtain ⟨ws, lv, hP, hD, hS, hW, hL, hl, hn, hs, e1, e2⟩ := hI
  obtain ⟨C, n, d, o1, o2⟩ := ok
  unfold mm_stF at o2
  rcases mm_ldc_inv h with ⟨rfl, rfl⟩ | ⟨rfl, rfl⟩ | ⟨rfl, rfl⟩
  · rw [if_neg (by decide)] at o2
    exact va_gets hx hb o2 hS hown (hts _ o1) (fun _ q => q) hd (k _ _ _ _ _ _ ⟨ws, lv, hP, hD, hS, hW, hL, hl, hn, ⟨_, _, rfl, rfl, hs⟩, e1, e2⟩)
  · rw [if_neg (by decide)] at o2
    exact va_gets hx hb o2 hS hown (hts _ o1) (fun _ q => q) hd (k _ _ _ _ _ _ ⟨ws, lv, hP, hD, hS, hW, hL, hl, hn, ⟨_, _, rfl, rfl, hs⟩, e1, e2⟩)
  · rw [if_pos rfl] at o2
    rcases o2 with o2 | ⟨t, o2⟩
    · exact va_gets hx hb o2 hS hown (hts _ o1) (fun _ q => q) hd (k _ _ _ _ _ _ ⟨ws, lv, hP, hD, hS, hW, hL, hl, hn, ⟨_, _, rfl, Or.inl rfl, hs⟩, e1, e2⟩)
    · exact va_gets hx hb o2 hS hown (hts _ o1) (fun _ q => q) hd (k _ _ _ _ _ _ ⟨ws, lv, hP, hD, hS, hW, hL, hl, hn, ⟨_, _, rfl, Or.inr ⟨t, rfl⟩, hs⟩, e1, e2⟩)
/-- references compared -/
theorem mm_req_ok {ws : va_W} {a b a' b' : Value} {z : Bool} (hD : va_D A ws) (hO : ∀ j, j < 6 → ¬ A (G.1 j)) (ha : mm_vR G (ws.map Prod.fst) a a') (hb : mm_vR G (ws.map Prod.fst) b b') (h : mm_req a b = some z) : ∃ x y : Option Nat, a' = va_rf x ∧ b' = va_rf y ∧ (x = y ↔ z = true) := by
  have inA : ∀ {k q : Nat}, (ws.map Prod.fst)[k]? = some q → A q ∧ ∃ e, ws[k]? = some (q, e) := by
    intro k q hk
    rw [List.getElem?_map] at hk
    cases hw : ws[k]? with
    | none => rw [hw] at hk; cases hk
    | some x =>
      rw [hw] at hk
      cases hk
      exact ⟨hD.2 k x hw, x.2, rfl⟩
  cases a with
  | null =>
    cases ha
    cases b with
    | null => cases hb; cases h; exact ⟨none, none, rfl, rfl, by simp⟩
    | ref y => obtain ⟨q, -, rfl⟩ := hb; cases h; exact ⟨none, some q, rfl, rfl, by simp⟩
    | retAddr j => cases hb; cases h; exact ⟨none, some _, rfl, rfl, by simp⟩
    | int _ => cases h
    | long _ => cases h
    | float _ => cases h
    | double _ => cases h
  | ref x =>
    obtain ⟨q, hq, rfl⟩ := ha
    cases b with
    | null => cases hb; cases h; exact ⟨some q, none, rfl, rfl, by simp⟩
    | ref y =>
      obtain ⟨q2, hq2, rfl⟩ := hb
      cases h
      refine ⟨some q, some q2, rfl, rfl, ?_⟩
      obtain ⟨-, e1, w1⟩ := inA hq
      obtain ⟨-, e2, w2⟩ := inA hq2
      constructor
      · intro hh
        cases hh
        have := hD.1 x y _ _ w1 w2 rfl
        simpa using this
      · intro hh
        have : x = y := by simpa using hh
        subst this
        rw [hq] at hq2
        exact hq2
    | retAddr j =>
      cases hb
      simp only [mm_req] at h
      split at h
      · rename_i hj
        cases h
        refine ⟨some q, some _, rfl, rfl, ?_⟩
        constructor
        · intro hh
          cases hh
          exact absurd (inA hq).1 (hO j hj)
        · intro hh
          cases hh
      · cases h
    | int _ => cases h
    | long _ => cases h
    | float _ => cases h
    | double _ => cases h
  | retAddr i =>
    cases ha
    cases b with
    | null => cases hb; cases h; exact ⟨some _, none, rfl, rfl, by simp⟩
    | ref y =>
      obtain ⟨q, hq, rfl⟩ := hb
      simp only [mm_req] at h
      split at h
      · rename_i hi
        cases h
        refine ⟨some _, some q, rfl, rfl, ?_⟩
        constructor
        · intro hh
          have : q = G.1 i := (Option.some.inj hh).symm
          subst this
          exact absurd (inA hq).1 (hO i hi)
        · intro hh
          cases hh
      · cases h
    | retAddr j =>
      cases hb
      simp only [mm_req] at h
      split at h
      · rename_i hij
        subst hij
        cases h
        exact ⟨some _, some _, rfl, rfl, by simp⟩
      · cases h
    | int _ => cases h
    | long _ => cases h
    | float _ => cases h
    | double _ => cases h
  | int _ => cases h
  | long _ => cases h
  | float _ => cases h
  | double _ => cases h
theorem mm_s_acmp (hx : p.tables.exec = Jvm.exec) (hb : c.code = cc) (hO : ∀ j, j < 6 → ¬ A (G.1 j)) {q : ACond} {off : Int} (hj : mm_okJ pc off) (hd : decode cc pc = .ok (.if_acmp q off, 3)) (hI : mm_In G D cl A s.heap nL c0 s0 a0 ls st w H locs cells slots L S) (h : mm_acmp q off pc ls st w = some (.inr F)) (k : mm_Kn p l e R s m args below meth c Q G D cl A s.heap nL c0 s0 a0 F) : W p l e R s m args below meth c H locs cells slots Q (F0 m pc L S) := by
  unfold mm_acmp at h
  split at h
  case h_2 => cases h
  rename_i vb va r
  split at h
  case h_2 => cases h
  rename_i z hz
  have h := mm_bif_inv h
  obtain ⟨tgt, ht⟩ := hj
  obtain ⟨ws, lv, hP, hD, hS, hW, hL, hl, hn, hs, e1, e2⟩ := hI
  obtain ⟨vb', _, rfl, hvb, va', S', rfl, hva, hs⟩ := hs
  obtain ⟨x, y, rfl, rfl, hxy⟩ := mm_req_ok hD hO hva hvb hz
  have kk : W p l e R s m args below meth c H locs cells slots Q (F0 m F.1 L S') := by
    have hF : F.2 = (ls, r, w) := by rcases h with ⟨-, t', -, rfl⟩ | ⟨-, rfl⟩ <;> rfl
    refine k _ _ _ _ _ _ ?_
    rw [hF]
    exact ⟨ws, lv, hP, hD, hS, hW, hL, hl, hn, hs, e1, e2⟩
  cases q with
  | eq =>
    refine lv_acmp_eq hx hb hd ht (fun hc => ?_) (fun hc => ?_)
    · rcases h with ⟨hq, t', ht', rfl⟩ | ⟨hq, -⟩
      · rw [ht] at ht'
        cases ht'
        exact kk
      · have hq : z = false := hq
        rw [hxy.mp hc] at hq
        cases hq
    · rcases h with ⟨hq, -⟩ | ⟨-, rfl⟩
      · exact absurd (hxy.mpr hq) hc
      · exact kk
  | ne =>
    refine lv_acmp_ne hx hb hd ht (fun hc => ?_) (fun hc => ?_)
    · rcases h with ⟨hq, t', ht', rfl⟩ | ⟨hq, -⟩
      · rw [ht] at ht'
        cases ht'
        exact kk
      · have hq : (!z) = false := hq
        exact absurd (hxy.mpr (by simpa using hq)) hc
    · rcases h with ⟨hq, -⟩ | ⟨-, rfl⟩
      · have hq : (!z) = true := hq
        rw [hxy.mp hc] at hq
        cases hq
      · exact kk
theorem mm_s_obj (hx : p.tables.exec = Jvm.exec) (hb : c.code = cc) (hml : c.maxLocals = nL) (hts : ∀ w ∈ Ts, w.before args s = true) (hown : s.vm.findClass own = some m.cls) (hf : 1 ≤ R.frames) (hlo : 40 ≤ R.locals)
    {i : Nat} (ok : Cond.methodLink own i Lib.objectInit ∈ Ts ∧ Cond.instanceMethod Lib.objectInit ∈ Ts ∧ Cond.code Lib.objectInit ⟨#[0xb1]⟩ 1 none ∈ Ts)
    (hd : decode cc pc = .ok (.invokespecial i, 3)) (hI : mm_In G D cl A s.heap nL c0 s0 a0 ls st w H locs cells slots L S) (h : mm_obj pc ls st w = some (.inr F)) (k : mm_Kn p l e R s m args below meth c Q G D cl A s.heap nL c0 s0 a0 F) : W p l e R s m args below meth c H locs cells slots Q (F0 m pc L S) := by
  unfold mm_obj at h
  split at h
  case h_2 => cases h
  split at h
  case isFalse => cases h
  rename_i hc
  cases h
  obtain ⟨ws, lv, hP, hD, hS, hW, hL, hl, hn, hs, e1, e2⟩ := hI
  obtain ⟨_, S', rfl, ⟨a, -, rfl⟩, hs⟩ := hs
  have hcat := hs.cat
  unfold mm_cat at hcat hc
  exact W.objInit hx hb hown (hts _ ok.1) (hts _ ok.2.1) (hts _ ok.2.2) rfl (by rw [hml]; exact hL.1) rfl hd hf (by show 2 * 0 + _ + 12 ≤ _; omega) (k _ _ _ _ _ _ ⟨ws, lv, hP, hD, hS, hW, hL, hl, hn, hs, e1, e2⟩)
end MMZ
