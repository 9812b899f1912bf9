/-! fields and arrays -/
/-- the classes by number: those whose objects the world holds, and those of old objects -/
def mm_cl (cl : List vw_C) (ocl : Nat → Option vw_C) (a : Nat) : Option vw_C := match cl[a]? with
  | some r => some r
  | none => ocl a
/-- the old cells, as the program tells them -/
def mm_oR (P : mmP) (G : mmG) (cl : List vw_C) (ocl : Nat → Option vw_C) (A : Nat → Prop) (U : State) (H : Heap) : Prop := ∀ (j : Nat) (c : mmC), P.2.2.1 j = some c → match c.1 with
  | .inr ci => ∃ r : vw_C, mm_cl cl ocl ci = some r ∧ va_O r.1 (G.1 j) A U H ∧ ∀ (b : Nat) (v : Value), c.2[b]? = some v → ∃ v', mm_vR G [] v v' ∧ va_OF (r.2.1 b).1 (r.2.1 b).2.1 (r.2.1 b).2.2.1 v' (G.1 j) A U H
  | .inl t => ∃ f, va_T (mm_ty G t) (G.1 j) c.2.length f A U H ∧ ∀ (i : Nat) (v : Value), c.2[i]? = some v → mm_vR G [] v (f i)
theorem mm_vR.nil {G : mmG} {ad : List Nat} {v v' : Value} (h : mm_vR G [] v v') : mm_vR G ad v v' := h.up (fun k a hk => by simp at hk)
theorem mm_oR.moved {P : mmP} {G : mmG} {cl : List vw_C} {ocl : Nat → Option vw_C} {A : Nat → Prop} {u U : State} {H : Heap} (hvm : u.vm.Alike U.vm) (h : mm_oR P G cl ocl A u H) : mm_oR P G cl ocl A U H := by
  intro j c hc
  have h1 := h j c hc
  obtain ⟨t | ci, vs⟩ := c
  · obtain ⟨f, g1, g2⟩ := h1
    exact ⟨f, va_T.moved hvm g1, g2⟩
  · obtain ⟨r, g1, g2, g3⟩ := h1
    exact ⟨r, g1, va_O.moved hvm g2, fun b v hb => by
      obtain ⟨v', k1, k2⟩ := g3 b v hb
      exact ⟨v', k1, va_OF.moved hvm k2⟩⟩
theorem mm_oR.kept {P : mmP} {G : mmG} {cl : List vw_C} {ocl : Nat → Option vw_C} {A : Nat → Prop} {U : State} {H H1 : Heap} (h : mm_oR P G cl ocl A U H) (hq : ∀ a : Nat, a < H.size → ¬ A a → H1[a]? = H[a]?) : mm_oR P G cl ocl A U H1 := by
  intro j c hc
  have h1 := h j c hc
  obtain ⟨t | ci, vs⟩ := c
  · obtain ⟨f, g1, g2⟩ := h1
    exact ⟨f, g1.kept hq, g2⟩
  · obtain ⟨r, g1, g2, g3⟩ := h1
    exact ⟨r, g1, g2.kept hq, fun b v hb => by
      obtain ⟨v', k1, k2⟩ := g3 b v hb
      exact ⟨v', k1, k2.kept hq⟩⟩
/-- what the tables say of a class -/
def mm_okC (Ts : List Cond) (r : vw_C) : Prop := (∀ w ∈ u_ws r.1 r.2.1 r.2.2, w ∈ Ts) ∧ (∃ ty0 : Nat → FieldType, ∀ k, k < r.2.2 → parseFieldDescriptor (r.2.1 k).2.2.1 = some (ty0 k)) ∧ ∀ a, a < r.2.2 → ∀ b, b < r.2.2 → a ≠ b → (r.2.1 a).2.1 ≠ (r.2.1 b).2.1
/-- what the tables say of a field's link -/
def mm_okF (Ts : List Cond) (cl : List vw_C) (ocl : Nat → Option vw_C) (own : String) (index a b : Nat) : Prop := ∃ (r : vw_C) (ref : String), mm_cl cl ocl a = some r ∧ b < r.2.2 ∧ (ref = (r.2.1 b).1 ∨ Cond.sameField ref (r.2.1 b).1 (r.2.1 b).2.1 (r.2.1 b).2.2.1 ∈ Ts) ∧ (Cond.fieldLink own index ref (r.2.1 b).2.1 (r.2.1 b).2.2.1 ∈ Ts ∨ ∃ host, Cond.fieldLinkNest own index ref (r.2.1 b).2.1 (r.2.1 b).2.2.1 host ∈ Ts)
theorem mm_cl_in {cl : List vw_C} {ocl : Nat → Option vw_C} {a : Nat} {r r' : vw_C} (h : mm_cl cl ocl a = some r) (h' : cl[a]? = some r') : cl[a]? = some r := by
  unfold mm_cl at h
  rw [h'] at h
  rw [h']
  exact h
theorem mm_sameF {Ts : List Cond} {args : Array Value} {s : State} {ref o n d : String} (hts : ∀ w ∈ Ts, w.before args s = true) (h : ref = o ∨ Cond.sameField ref o n d ∈ Ts) : ∀ x, s.fieldFound? o n d = some x → s.fieldFound? ref n d = some x := by
  rcases h with rfl | h
  · exact fun _ q => q
  · exact u_same (hts _ h)
section MMW
variable {p : Program} {l : Launch} {e : Env} {R : Room} {s : State} {m : MethodId} {args : Array Value} {below : List Frame} {meth : Method} {c : Code} {Q : State → Prop}
variable {G : mmG} {D : va_G} {cl : List vw_C} {ocl : Nat → Option vw_C} {A : Nat → Prop} {nL c0 s0 : Nat} {a0 : List Nat} {cc : ByteArray} {pc : Nat} {ls : mmL} {st : List Value} {w : mmW} {H : Heap} {locs : List Loc} {cells slots : Nat} {L : Array Slot} {S : List Value} {F : mmF} {P : mmP} {Ts : List Cond} {own : String}
theorem mm_at {ws : va_W} {x : Nat} {v' : Value} {k : mmC} (hW : mm_wR G a0 w ws) (hv : mm_vR G (ws.map Prod.fst) (.ref x) v') (hc : w.1[x]? = some k) : ∃ a e, v' = .ref a ∧ ws[x]? = some (a, e) ∧ mm_cR G (ws.map Prod.fst) k e := by
  obtain ⟨a, h1, rfl⟩ := hv
  obtain ⟨q, h2, h3⟩ := hW.2.1 x k hc
  rw [List.getElem?_map, h2] at h1
  cases h1
  exact ⟨q.1, q.2, rfl, h2, h3⟩
theorem mm_s_get (hx : p.tables.exec = Jvm.exec) (hb : c.code = cc) (hts : ∀ w ∈ Ts, w.before args s = true) (hown : s.vm.findClass own = some m.cls) (hK : va_K D cl G.2.2.2 s) (hC : ∀ r ∈ cl, mm_okC Ts r) (hO : mm_oR P G cl ocl A s s.heap)
    {i a b : Nat} (ok : mm_okF Ts cl ocl own i a b) (hd : decode cc pc = .ok (.getfield i, 3)) (hI : mm_In G D cl A s.heap nL c0 s0 a0 ls st w H locs cells slots L S) (h : mm_get P a b pc ls st w = some (.inr F)) (k : mm_Kn p l e R s m args below meth c Q G D cl A s.heap nL c0 s0 a0 F) : W p l e R s m args below meth c H locs cells slots Q (F0 m pc L S) := by
  obtain ⟨r, ref, o1, o2, o3, o4⟩ := ok
  unfold mm_get at h
  split at h
  case h_2 => cases h
  rename_i x rest
  split at h
  case h_2 => cases h
  rename_i ci vs hcell
  split at h
  case isFalse => cases h
  rename_i hca
  subst hca
  split at h
  case h_2 => cases h
  rename_i v hv
  cases h
  obtain ⟨ws, lv, hP, hD, hS, hW, hL, hl, hn, hs, e1, e2⟩ := hI
  obtain ⟨x', S', rfl, hxx, hs⟩ := hs
  cases x with
  | ref x =>
    obtain ⟨ad, e, rfl, g1, g2⟩ := mm_at hW hxx hcell
    obtain ⟨fs, rfl, g3, g4⟩ := g2
    obtain ⟨v', g5, g6⟩ := g4 b v hv
    obtain ⟨r', g7, -⟩ := hP x _ g1
    have g8 := mm_cl_in o1 g7
    have hok := hC r (List.mem_of_getElem? g8)
    have kk := k H locs cells slots L (v' :: S') ⟨ws, lv, hP, hD, hS, hW, hL, hl, hn, ⟨_, _, rfl, g6, hs⟩, e1, e2⟩
    rcases o4 with o4 | ⟨host, o4⟩
    · exact va_get (C := r.1) (T := r.2.1) (N := r.2.2) hx hb hts hok.1 hown hK hP x g1 g8 b o2 (hts _ o4) (mm_sameF hts o3) g5 hd kk
    · exact va_getN (C := r.1) (T := r.2.1) (N := r.2.2) hx hb hts hok.1 hown hK hP x g1 g8 b o2 (hts _ o4) (mm_sameF hts o3) g5 hd kk
  | retAddr j =>
    have hcell : P.2.2.1 j = some (.inr ci, vs) := hcell
    cases hxx
    obtain ⟨r', g1, g2, g3⟩ := hO j _ hcell
    have hr : r' = r := by rw [o1] at g1; exact (Option.some.inj g1).symm
    subst hr
    obtain ⟨v', g4, g5⟩ := g3 b v hv
    have kk := k H locs cells slots L (v' :: S') ⟨ws, lv, hP, hD, hS, hW, hL, hl, hn, ⟨_, _, rfl, g4.nil, hs⟩, e1, e2⟩
    rcases o4 with o4 | ⟨host, o4⟩
    · exact vk_getf hx hb g5 hS hown (hts _ o4) (mm_sameF hts o3) hd kk
    · obtain ⟨cf, kf, fi, f, cell, h1, h2, h3, h4, h5, h6⟩ := g5.kept hS.2.1
      exact va_Wgetf hx hb hown (hts _ o4) (mm_sameF hts o3 _ h1) h2 h3 h4 (v := v') h5 rfl rfl hd kk
  | int x => cases hcell
  | long x => cases hcell
  | float x => cases hcell
  | double x => cases hcell
  | null => cases hcell
def mm_fty (t : Nat) (d : String) : Prop := match t with
  | 0 => parseFieldDescriptor d = some .int
  | 1 => parseFieldDescriptor d = some .boolean
  | 2 => (∃ C, parseFieldDescriptor d = some (.object C)) ∨ ∃ T, parseFieldDescriptor d = some (.array T)
  | 3 => parseFieldDescriptor d = some .long
  | _ => False
theorem mm_fit_ok {ad : List Nat} {t : Nat} {d : String} {v v' : Value} (ht : mm_fty t d) (hf : mm_fit t v = true) (hr : mm_vR G ad v v') : ∃ ty, parseFieldDescriptor d = some ty ∧ narrow ty v' = v' ∧ fits ty v' = true := by
  match t, ht with
  | 0, ht =>
    cases v <;> simp [mm_fit] at hf
    cases hr
    exact ⟨_, ht, rfl, rfl⟩
  | 1, ht =>
    cases v <;> simp [mm_fit] at hf
    cases hr
    rcases hf with rfl | rfl
    · exact ⟨_, ht, by decide, by decide⟩
    · exact ⟨_, ht, by decide, by decide⟩
  | 2, ht =>
    have hq := mm_kd2 (G := G) (v := v) (by cases v <;> simp [mm_fit] at hf <;> rfl) hr
    rcases ht with ⟨C, ht⟩ | ⟨T, ht⟩
    · exact ⟨_, ht, by rcases hq with rfl | ⟨a, rfl⟩ <;> rfl, by rcases hq with rfl | ⟨a, rfl⟩ <;> rfl⟩
    · exact ⟨_, ht, by rcases hq with rfl | ⟨a, rfl⟩ <;> rfl, by rcases hq with rfl | ⟨a, rfl⟩ <;> rfl⟩
  | 3, ht =>
    cases v <;> simp [mm_fit] at hf
    cases hr
    exact ⟨_, ht, rfl, rfl⟩
  | _ + 4, ht => exact ht.elim
theorem mm_cR.set {ad : List Nat} {ci : Nat} {vs fs : List Value} {b : Nat} {v v' : Value} (h : mm_cR G ad (.inr ci, vs) (.inr (ci, fs))) (hv : mm_vR G ad v v') : mm_cR G ad (.inr ci, vs.set b v) (.inr (ci, fs.set b v')) := by
  obtain ⟨fs', h1, h2, h3⟩ := h
  cases h1
  refine ⟨_, rfl, by simpa using h2, fun k x hk => ?_⟩
  by_cases hbk : b = k
  · subst hbk
    rw [List.getElem?_set] at hk
    split at hk
    · split at hk
      · rename_i hl
        cases hk
        exact ⟨v', List.getElem?_set_self (by rw [h2]; exact hl), hv⟩
      · cases hk
    · rename_i hh
      exact absurd rfl hh
  · rw [List.getElem?_set_ne hbk] at hk ⊢
    exact h3 k x hk
theorem mm_s_put (hx : p.tables.exec = Jvm.exec) (hb : c.code = cc) (hts : ∀ w ∈ Ts, w.before args s = true) (hown : s.vm.findClass own = some m.cls) (hK : va_K D cl G.2.2.2 s) (hC : ∀ r ∈ cl, mm_okC Ts r)
    {i a b t : Nat} (ok : mm_okF Ts cl ocl own i a b) (ok2 : ∀ r : vw_C, mm_cl cl ocl a = some r → mm_fty t (r.2.1 b).2.2.1 ∧ ((r.2.1 b).2.2.2 = false ∨ (meth.name = "<init>" ∧ (r.2.1 b).1 = own ∧ ∃ ref, (ref = (r.2.1 b).1 ∨ Cond.sameField ref (r.2.1 b).1 (r.2.1 b).2.1 (r.2.1 b).2.2.1 ∈ Ts) ∧ Cond.fieldLink own i ref (r.2.1 b).2.1 (r.2.1 b).2.2.1 ∈ Ts))) (hd : decode cc pc = .ok (.putfield i, 3)) (hI : mm_In G D cl A s.heap nL c0 s0 a0 ls st w H locs cells slots L S) (h : mm_put a b t pc ls st w = some (.inr F)) (k : mm_Kn p l e R s m args below meth c Q G D cl A s.heap nL c0 s0 a0 F) : W p l e R s m args below meth c H locs cells slots Q (F0 m pc L S) := by
  obtain ⟨r, ref, o1, o2, o3, o4⟩ := ok
  obtain ⟨p1, p2⟩ := ok2 r o1
  unfold mm_put at h
  split at h
  case h_2 => cases h
  rename_i v x rest
  split at h
  case h_2 => cases h
  rename_i ci vs hcell
  split at h
  case isFalse => cases h
  rename_i hca
  obtain ⟨rfl, hl2, hf⟩ := hca
  cases h
  obtain ⟨ws, lv, hP, hD, hS, hW, hL, hl, hn, hs, e1, e2⟩ := hI
  obtain ⟨v', _, rfl, hv, x', S', rfl, hxx, hs⟩ := hs
  obtain ⟨ad, e, rfl, g1, g2⟩ := mm_at hW hxx hcell
  have g2' := g2
  obtain ⟨fs, rfl, g3, g4⟩ := g2
  obtain ⟨r', g7, -⟩ := hP x _ g1
  have g8 := mm_cl_in o1 g7
  have hok := hC r (List.mem_of_getElem? g8)
  obtain ⟨ty0, hty0⟩ := hok.2.1
  obtain ⟨ty, f1, f2, f3⟩ := mm_fit_ok p1 hf hv
  have kk : ∀ (H1 : Heap) (locs1 : List Loc), va_P D cl (ws.set x (ad, .inr (ci, fs.set b v'))) H1 → va_D A (ws.set x (ad, .inr (ci, fs.set b v'))) → va_S A s.heap H1 locs1 → W p l e R s m args below meth c H1 locs1 cells slots Q (F0 m (pc + 3) L S') := fun H1 locs1 hP1 hD1 hS1 =>
    k H1 locs1 cells slots L S' ⟨_, lv, hP1, hD1, hS1, hW.put g1 (g2'.set hv), hL, by rw [mm_mapset g1]; exact hl, hn, by rw [mm_mapset g1]; exact hs, e1, e2⟩
  rcases p2 with p2 | ⟨p2, p3, ref2, p4, p5⟩
  · rcases o4 with o4 | ⟨host, o4⟩
    · exact va_put (C := r.1) (T := r.2.1) (N := r.2.2) hx hb hts hok.1 ty0 hty0 hok.2.2 hown hK hP hD hS x g1 g8 b o2 (hts _ o4) (mm_sameF hts o3) p2 f1 f2 f3 (by rw [g3]; exact hl2) hd kk
    · exact va_putN (C := r.1) (T := r.2.1) (N := r.2.2) hx hb hts hok.1 ty0 hty0 hok.2.2 hown hK hP hD hS x g1 g8 b o2 (hts _ o4) (mm_sameF hts o3) p2 f1 f2 f3 (by rw [g3]; exact hl2) hd kk
  · by_cases p6 : (r.2.1 b).2.2.2 = true
    · exact va_putF (C := r.1) (T := r.2.1) (N := r.2.2) hx hb hts hok.1 ty0 hty0 hok.2.2 hown hK hP hD hS x g1 g8 b o2 (hts _ p5) (mm_sameF hts p4) p6 p2 p3 f1 f2 f3 (by rw [g3]; exact hl2) hd kk
    · exact va_put (C := r.1) (T := r.2.1) (N := r.2.2) hx hb hts hok.1 ty0 hty0 hok.2.2 hown hK hP hD hS x g1 g8 b o2 (hts _ p5) (mm_sameF hts p4) (by simpa using p6) f1 f2 f3 (by rw [g3]; exact hl2) hd kk
end MMW
