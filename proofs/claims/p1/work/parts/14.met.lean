/-! the loop, the returns, every method -/
/-- the program: each entry of a method's code is the code's, and the tables bear it -/
def mm_okP (Ts : List Cond) (P : mmP) (G : mmG) (cl : List vw_C) (X : mmX) (Mt : mmM) : Prop := ∀ (k : Nat) (y : MethodName) (bytes : ByteArray) (ret : Option FieldType), Mt k = some (y, bytes, ret) → plainName y.cls = true ∧ ∀ (pc : Nat) (en : mmE), P.1 k pc = some en → mm_okI Ts P G cl X Mt y ret pc en ∧ mm_okD bytes pc en
/-- what stays through a whole run -/
def mm_okS (Ts : List Cond) (P : mmP) (G : mmG) (cl : List vw_C) (B : Nat) : Prop := (∀ w ∈ Ts, mm_good w = true) ∧ (∀ j, j < 6 → ¬ mm_A B (G.1 j)) ∧ (∀ r ∈ cl, mm_okC Ts r) ∧ mm_okE Ts P G cl ∧ (∀ j vs, P.2.2.1 j ≠ some (.inl 3, vs)) ∧ ∀ j t vs, 4 ≤ t → P.2.2.1 j = some (.inl t, vs) → vs = []
section MMM
variable {p : Program} {l : Launch} {e : Env} {R : Room} {s : State} {m : MethodId} {args : Array Value} {below : List Frame} {meth : Method} {c : Code} {Q : State → Prop}
variable {G : mmG} {D : va_G} {cl : List vw_C} {X : mmX} {B : Nat} {nL c0 s0 : Nat} {a0 : List Nat} {cc : ByteArray} {pc : Nat} {ls : mmL} {st : List Value} {w : mmW} {H : Heap} {locs : List Loc} {cells slots : Nat} {L : Array Slot} {S : List Value} {F : mmF} {P : mmP} {Ts : List Cond} {Mt : mmM} {y : MethodName} {ret : Option FieldType}
theorem mm_loop {d k : Nat} {call : Nat → List Value → mmW → Option mmO} (hx : p.tables.exec = Jvm.exec) (hb : c.code = cc) (hml : c.maxLocals = nL) (hts : ∀ w ∈ Ts, w.before args s = true) (hown : s.vm.findClass y.cls = some m.cls) (hnm : meth.name = y.name) (hGK : mm_GK P G D cl X B s) (hBs : B ≤ s.heap.size) (hS0 : mm_okS Ts P G cl B)
    (hcall : mm_CallOK l P G D cl X B Mt Ts d call) (hle : ∀ a as w v w', call a as w = some (v, w') → mm_le w w') (hf : d + 1 ≤ R.frames) (hlo : 41 * d + 41 ≤ R.locals)
    (hcode : ∀ (pc : Nat) (en : mmE), P.1 k pc = some en → mm_okI Ts P G cl X Mt y ret pc en ∧ mm_okD cc pc en) (o : mmO) (ho : o.2.2.1 ≤ R.cells + c0 ∧ o.2.2.2 ≤ R.slots + s0)
    (hret : ∀ (pc : Nat) (en : mmE) (ls : mmL) (st : List Value) (w : mmW) (H : Heap) (locs : List Loc) (cells slots : Nat) (L : Array Slot) (S : List Value), P.1 k pc = some en → mm1 P call en pc ls st w = some (.inl o) → mm_In G D cl (mm_A B) s.heap nL c0 s0 a0 ls st w H locs cells slots L S → W p l e R s m args below meth c H locs cells slots Q (F0 m pc L S)) :
    ∀ (n : Nat) (f : mmF), mm_go P call k n f = some o → mm_Kn p l e R s m args below meth c Q G D cl (mm_A B) s.heap nL c0 s0 a0 f
  | 0, _, h => by cases h
  | n + 1, (pc, ls, st, w), h => by
    intro H locs cells slots L S hI
    have h0 := h
    unfold mm_go at h
    split at h
    · cases h
    · rename_i en hen
      obtain ⟨q1, q2⟩ := hcode pc en hen
      split at h
      · cases h
      · rename_i o' ho'
        cases h
        exact hret pc en ls st w H locs cells slots L S hen ho' hI
      · rename_i f hf'
        have hl2 := mm_go_le hle n f o h
        obtain ⟨z1, z2, z3, z4, z5, z6⟩ := hS0
        exact mm_step hx hb hml hts z1 hown hnm hGK hBs z2 z3 z4 z5 z6 hcall hf hlo q1 q2 hI hf' ⟨Nat.le_trans hl2.1 ho.1, Nat.le_trans hl2.2 ho.2⟩ (mm_loop hx hb hml hts hown hnm hGK hBs ⟨z1, z2, z3, z4, z5, z6⟩ hcall hle hf hlo hcode o ho hret n f h)
/-- a method's return -/
theorem mm_rets {call : Nat → List Value → mmW → Option mmO} {mc ms : Nat} (hx : p.tables.exec = Jvm.exec) (hb : c.code = cc) (hr : meth.sig.returnType = ret) (hlocks : meth.locks = false) {en : mmE} {o : mmO} (ok : mm_okI Ts P G cl X Mt y ret pc en) (hd : mm_okD cc pc en) (hmc : mc + c0 = o.2.2.1) (hms : ms + s0 = o.2.2.2)
    (hI : mm_In G D cl (mm_A B) s.heap nL c0 s0 a0 ls st w H locs cells slots L S) (h : mm1 P call en pc ls st w = some (.inl o)) : W p l e R s m args below meth c H locs cells slots (MQ below (mm_Qc G D cl B a0 o.1 o.2) args s mc ms (mm_A B)) (F0 m pc L S) := by
  obtain ⟨hw, hrt⟩ := mm1_inl h
  obtain ⟨v, w'⟩ := o
  simp only at hw hrt hmc hms
  subst hw
  obtain ⟨ws, lv, hP, hD, hS, hW, hL, hl, hn, hs, e1, e2⟩ := hI
  obtain rfl : cells = mc := by omega
  obtain rfl : slots = ms := by omega
  have fin : ∀ (v' : Option Value) (t : State), mm_oVR G (ws.map Prod.fst) v v' → t.heap = H → mm_Qc G D cl B a0 v w' args s (.returned v') t := fun v' t hv ht => ⟨⟨ws, v', rfl, hv, hW, by rw [ht]; exact hP, hD⟩, hS.F ht⟩
  obtain ⟨i, a, b, t⟩ := en
  simp only at hrt
  rcases hrt with ⟨rfl, x, rfl, rfl, hc⟩ | ⟨rfl, x, rfl, rfl⟩ | ⟨rfl, x, rfl, rfl, hk⟩ | ⟨rfl, rfl, rfl⟩
  · obtain ⟨x', S', rfl, hxx, hs⟩ := hs
    cases hxx
    cases hs
    rcases hc with rfl | ⟨rfl, hc⟩ | ⟨rfl, hc⟩ | ⟨rfl, hc⟩
    · have ok : ret = some .int := ok
      exact W.iret (v := x) hx hb (hr.trans ok) (fun t ht _ => fin _ t ⟨_, rfl, rfl⟩ ht) hS.2.2 hd hlocks
    · have ok : ret = some .boolean := ok
      exact W.zret (v := x) hx hb (hr.trans ok) hc (fun t ht _ => fin _ t ⟨_, rfl, rfl⟩ ht) hS.2.2 hd hlocks
    · have ok : ret = some .char := ok
      exact W.zret (v := x) hx hb (hr.trans ok) hc (fun t ht _ => fin _ t ⟨_, rfl, rfl⟩ ht) hS.2.2 hd hlocks
    · have ok : ret = some .byte := ok
      exact W.zret (v := x) hx hb (hr.trans ok) hc (fun t ht _ => fin _ t ⟨_, rfl, rfl⟩ ht) hS.2.2 hd hlocks
  · obtain ⟨x', S', rfl, hxx, hs⟩ := hs
    cases hxx
    cases hs
    have ok : ret = some .long := ok
    exact W.lret (v := x) hx hb (hr.trans ok) (fun t ht _ => fin _ t ⟨_, rfl, rfl⟩ ht) hS.2.2 hd hlocks
  · obtain ⟨x', S', rfl, hxx, hs⟩ := hs
    cases hs
    obtain ⟨rt, ok1, ok2⟩ : ∃ rt, ret = some rt ∧ ((∃ n, rt = .object n) ∨ ∃ t, rt = .array t) := ok
    exact W.aret (v := x') hx hb (hr.trans ok1) ok2 (mm_kd2 hk hxx) (fun t ht _ => fin _ t ⟨_, rfl, hxx⟩ ht) hS.2.2 hd hlocks
  · cases hs
    have ok : ret = none := ok
    exact W.vret hx hb (hr.trans ok) (fun t ht _ => fin _ t rfl ht) hS.2.2 hd hlocks
end MMM
theorem mm_args_len {G : mmG} {ad : List Nat} : ∀ {as S : List Value}, mm_sR G ad as S → (lg_sl S).length = (mm_args as).length
  | [], _, h => by cases h; rfl
  | v :: r, _, h => by
    obtain ⟨v', r', rfl, h2, h3⟩ := h
    have := mm_args_len h3
    simp only [lg_sl, mm_args, List.flatMap_cons, List.length_append] at this ⊢
    rw [this, h2.cat]
    split <;> rfl
theorem mm_args_R {G : mmG} {ad : List Nat} : ∀ {as S : List Value} (k : Nat), mm_sR G ad as S → ∀ (i : Nat) (v : Value), (mm_args as)[i]? = some (some v) → ∃ v', (k + i, v') ∈ lv_args k S ∧ mm_vR G ad v v'
  | [], _, _, _, i, v, hi => by simp [mm_args] at hi
  | x :: r, _, k, h, i, v, hi => by
    obtain ⟨x', r', rfl, h2, h3⟩ := h
    simp only [mm_args, List.flatMap_cons] at hi
    simp only [lv_args]
    by_cases hc : x.category = 2
    · rw [if_pos hc] at hi
      rw [if_pos (h2.cat.trans hc)]
      match i, hi with
      | 0, hi =>
        simp at hi
        subst hi
        exact ⟨x', List.mem_cons_self, h2⟩
      | 1, hi => simp at hi
      | i + 2, hi =>
        have hi : (mm_args r)[i]? = some (some v) := by simpa [mm_args] using hi
        obtain ⟨v', g1, g2⟩ := mm_args_R (k + 2) h3 i v hi
        exact ⟨v', List.mem_cons_of_mem _ (by rw [show k + (i + 2) = k + 2 + i by omega]; exact g1), g2⟩
    · rw [if_neg hc] at hi
      rw [if_neg (fun z => hc (h2.cat.symm.trans z))]
      match i, hi with
      | 0, hi =>
        simp at hi
        subst hi
        exact ⟨x', List.mem_cons_self, h2⟩
      | i + 1, hi =>
        have hi : (mm_args r)[i]? = some (some v) := by simpa [mm_args] using hi
        obtain ⟨v', g1, g2⟩ := mm_args_R (k + 1) h3 i v hi
        exact ⟨v', List.mem_cons_of_mem _ (by rw [show k + (i + 1) = k + 1 + i by omega]; exact g1), g2⟩
theorem mm_entry_R {G : mmG} {ad : List Nat} {as S : List Value} {nl : Nat} (h : mm_sR G ad as S) : mm_lR G ad (mm_entry nl as) (lv_args 0 S) := by
  intro i v hi
  unfold mm_entry at hi
  by_cases hl : i < (mm_args as).length
  · rw [List.getElem?_append_left hl] at hi
    obtain ⟨v', g1, g2⟩ := mm_args_R 0 h i v hi
    exact ⟨v', by rw [Nat.zero_add] at g1; exact g1, g2⟩
  · rw [List.getElem?_append_right (by omega)] at hi
    have := List.eq_of_mem_replicate (List.mem_of_getElem? hi)
    cases this
theorem mm_entry_len {as : List Value} {nl : Nat} (h : (mm_args as).length ≤ nl) : (mm_entry nl as).length = nl := by
  simp only [mm_entry, List.length_append, List.length_replicate]
  omega
set_option maxHeartbeats 1000000 in
/-- every method -/
theorem mm_met {l : Launch} {P : mmP} {G : mmG} {D : va_G} {cl : List vw_C} {X : mmX} {B : Nat} {Mt : mmM} {Ts : List Cond} (hS0 : mm_okS Ts P G cl B) (hP0 : mm_okP Ts P G cl X Mt) (N : Nat) : ∀ d : Nat, mm_CallOK l P G D cl X B Mt Ts d (mm_ev P N d)
  | 0 => fun a as w w' v h => by cases h
  | d + 1 => by
    have ih := mm_met (l := l) (D := D) hS0 hP0 N d
    intro a as w w' v h
    have hle := mm_ev_le (d + 1) a as w v w' h
    refine ⟨hle.1, hle.2, fun y bytes ret hM S ws a0 hW hs hD => ?_⟩
    obtain ⟨hpl, hcode⟩ := hP0 a y bytes ret hM
    unfold mm_ev at h
    split at h
    case isFalse => cases h
    rename_i hlen
    refine Met.ofW (cc := bytes) (maxL := P.2.2.2.2 a) (ret := ret) hpl rfl ?_
    intro p e s m args below meth c s₁ Bd hml hv
    obtain ⟨rfl, hPh, hGK, hBs⟩ := hv
    have hx := Bd.exec
    have hb := Bd.bytes
    have hr := Bd.returns
    have hts : ∀ w ∈ Ts, w.before S.toArray s = true := fun w hw => atoms_spec (ws := Cond.code y bytes (P.2.2.2.2 a) ret :: Ts) Bd.pre w (List.mem_cons_of_mem _ hw)
    have hown : s.vm.findClass y.cls = some m.cls := findClass_of_methodNamed Bd.named
    have hlocks := Bd.notSynchronized
    have hnm : meth.name = y.name := (name_of_methodNamed Bd.named Bd.method).1
    have hlS := mm_args_len hs
    have hl := lv_entry S (n := P.2.2.2.2 a) (by omega)
    rw [lg_entry_eq]
    refine mm_loop (k := a) (c0 := w.2.1) (s0 := w.2.2) (a0 := ws.map Prod.fst) (d := d) hx hb hml hts hown hnm hGK hBs hS0 ih (mm_ev_le d) (show d + 1 ≤ d + 1 from Nat.le_refl _) (show 41 * d + 41 ≤ 41 * (d + 1) by omega) hcode (v, w') (show w'.2.1 ≤ w'.2.1 - w.2.1 + w.2.1 ∧ w'.2.2 ≤ w'.2.2 - w.2.2 + w.2.2 from ⟨by omega, by omega⟩) ?_ N _ h _ _ _ _ _ _ ⟨ws, lv_args 0 S, hPh, hD, va_S.rf, ⟨hW.1, hW.2.1, mm_ex.rf⟩, hl, mm_entry_R hs, mm_entry_len hlen, rfl, Nat.zero_add _, Nat.zero_add _⟩
    intro pc en ls st w1 H locs cells slots L S1 hen h1 hI
    obtain ⟨q1, q2⟩ := hcode pc en hen
    have hw1 := hle.1
    have hw2 := hle.2
    exact mm_rets hx hb hr hlocks q1 q2 (show w'.2.1 - w.2.1 + w.2.1 = w'.2.1 by omega) (show w'.2.2 - w.2.2 + w.2.2 = w'.2.2 by omega) hI h1
