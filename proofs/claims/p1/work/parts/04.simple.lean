/-! one instruction of MM, one of the machine: those that leave the world alone -/
section MMA
variable {p : Program} {l : Launch} {e : Env} {R : Room} {s : State} {m : MethodId} {args : Array Value} {below : List Frame} {meth : Method} {c : Code} {Q : State → Prop}
variable {G : mmG} {D : va_G} {cl : List vw_C} {A : Nat → Prop} {H0 : Heap} {nL c0 s0 : Nat} {a0 : List Nat} {cc : ByteArray} {pc : Nat} {ls : mmL} {st : List Value} {w : mmW} {H : Heap} {locs : List Loc} {cells slots : Nat} {L : Array Slot} {S : List Value} {F : mmF}
/-- the walk goes on from every state in which the frame F stands -/
def mm_Kn (p : Program) (l : Launch) (e : Env) (R : Room) (s : State) (m : MethodId) (args : Array Value) (below : List Frame) (meth : Method) (c : Code) (Q : State → Prop) (G : mmG) (D : va_G) (cl : List vw_C) (A : Nat → Prop) (H0 : Heap) (nL c0 s0 : Nat) (a0 : List Nat) (F : mmF) : Prop :=
  ∀ (H : Heap) (locs : List Loc) (cells slots : Nat) (L : Array Slot) (S : List Value), mm_In G D cl A H0 nL c0 s0 a0 F.2.1 F.2.2.1 F.2.2.2 H locs cells slots L S → W p l e R s m args below meth c H locs cells slots Q (F0 m F.1 L S)
theorem mm_ld_inv {k i d : Nat} (h : mm_ld k i d pc ls st w = some (.inr F)) : ∃ v, ls[i]? = some (some v) ∧ mm_kd v = k ∧ F = (pc + d, ls, v :: st, w) := by
  unfold mm_ld at h
  split at h
  · rename_i v hv
    split at h
    · rename_i hk
      cases h
      exact ⟨v, hv, hk, rfl⟩
    · cases h
  · cases h
theorem mm_kd0 {G : mmG} {ad : List Nat} {v v' : Value} (h : mm_kd v = 0) (hr : mm_vR G ad v v') : ∃ x, v = .int x ∧ v' = .int x := by
  cases v <;> simp [mm_kd] at h
  exact ⟨_, rfl, hr⟩
theorem mm_kd1 {G : mmG} {ad : List Nat} {v v' : Value} (h : mm_kd v = 1) (hr : mm_vR G ad v v') : ∃ x, v = .long x ∧ v' = .long x := by
  cases v <;> simp [mm_kd] at h
  exact ⟨_, rfl, hr⟩
theorem mm_kd2 {G : mmG} {ad : List Nat} {v v' : Value} (h : mm_kd v = 2) (hr : mm_vR G ad v v') : v' = .null ∨ ∃ a, v' = .ref a := by
  cases v <;> simp [mm_kd] at h
  · exact hr
  · exact Or.inl hr
  · obtain ⟨a, -, rfl⟩ := hr
    exact Or.inr ⟨a, rfl⟩
  · exact Or.inr ⟨_, hr⟩
theorem mm_s_iload (hx : p.tables.exec = Jvm.exec) (hb : c.code = cc) {i : Nat} (hd : decode cc pc = .ok (.iload i, 2)) (hI : mm_In G D cl A H0 nL c0 s0 a0 ls st w H locs cells slots L S) (h : mm_ld 0 i 2 pc ls st w = some (.inr F)) (k : mm_Kn p l e R s m args below meth c Q G D cl A H0 nL c0 s0 a0 F) : W p l e R s m args below meth c H locs cells slots Q (F0 m pc L S) := by
  obtain ⟨v, hv, hk, rfl⟩ := mm_ld_inv h
  obtain ⟨ws, lv, hP, hD, hS, hW, hL, hl, hn, hs, e1, e2⟩ := hI
  obtain ⟨v', hm, hr⟩ := hl i v hv
  obtain ⟨x, rfl, rfl⟩ := mm_kd0 hk hr
  exact lv_iload hx hb hd (hL.2.2 _ hm) (k _ _ _ _ _ _ ⟨ws, lv, hP, hD, hS, hW, hL, hl, hn, ⟨_, _, rfl, rfl, hs⟩, e1, e2⟩)
theorem mm_s_iload_n (hx : p.tables.exec = Jvm.exec) (hb : c.code = cc) {i : Fin 4} (hd : decode cc pc = .ok (.iload_n i, 1)) (hI : mm_In G D cl A H0 nL c0 s0 a0 ls st w H locs cells slots L S) (h : mm_ld 0 i 1 pc ls st w = some (.inr F)) (k : mm_Kn p l e R s m args below meth c Q G D cl A H0 nL c0 s0 a0 F) : W p l e R s m args below meth c H locs cells slots Q (F0 m pc L S) := by
  obtain ⟨v, hv, hk, rfl⟩ := mm_ld_inv h
  obtain ⟨ws, lv, hP, hD, hS, hW, hL, hl, hn, hs, e1, e2⟩ := hI
  obtain ⟨v', hm, hr⟩ := hl i v hv
  obtain ⟨x, rfl, rfl⟩ := mm_kd0 hk hr
  exact lv_iload_n hx hb hd rfl (hL.2.2 _ hm) (k _ _ _ _ _ _ ⟨ws, lv, hP, hD, hS, hW, hL, hl, hn, ⟨_, _, rfl, rfl, hs⟩, e1, e2⟩)
theorem mm_s_lload (hx : p.tables.exec = Jvm.exec) (hb : c.code = cc) {i : Nat} (hd : decode cc pc = .ok (.lload i, 2)) (hI : mm_In G D cl A H0 nL c0 s0 a0 ls st w H locs cells slots L S) (h : mm_ld 1 i 2 pc ls st w = some (.inr F)) (k : mm_Kn p l e R s m args below meth c Q G D cl A H0 nL c0 s0 a0 F) : W p l e R s m args below meth c H locs cells slots Q (F0 m pc L S) := by
  obtain ⟨v, hv, hk, rfl⟩ := mm_ld_inv h
  obtain ⟨ws, lv, hP, hD, hS, hW, hL, hl, hn, hs, e1, e2⟩ := hI
  obtain ⟨v', hm, hr⟩ := hl i v hv
  obtain ⟨x, rfl, rfl⟩ := mm_kd1 hk hr
  exact lv_lload hx hb hd (hL.2.2 _ hm) (k _ _ _ _ _ _ ⟨ws, lv, hP, hD, hS, hW, hL, hl, hn, ⟨_, _, rfl, rfl, hs⟩, e1, e2⟩)
theorem mm_s_lload_n (hx : p.tables.exec = Jvm.exec) (hb : c.code = cc) {i : Fin 4} (hd : decode cc pc = .ok (.lload_n i, 1)) (hI : mm_In G D cl A H0 nL c0 s0 a0 ls st w H locs cells slots L S) (h : mm_ld 1 i 1 pc ls st w = some (.inr F)) (k : mm_Kn p l e R s m args below meth c Q G D cl A H0 nL c0 s0 a0 F) : W p l e R s m args below meth c H locs cells slots Q (F0 m pc L S) := by
  obtain ⟨v, hv, hk, rfl⟩ := mm_ld_inv h
  obtain ⟨ws, lv, hP, hD, hS, hW, hL, hl, hn, hs, e1, e2⟩ := hI
  obtain ⟨v', hm, hr⟩ := hl i v hv
  obtain ⟨x, rfl, rfl⟩ := mm_kd1 hk hr
  exact lv_lload_n hx hb hd rfl (hL.2.2 _ hm) (k _ _ _ _ _ _ ⟨ws, lv, hP, hD, hS, hW, hL, hl, hn, ⟨_, _, rfl, rfl, hs⟩, e1, e2⟩)
theorem mm_s_aload (hx : p.tables.exec = Jvm.exec) (hb : c.code = cc) {i : Nat} (hd : decode cc pc = .ok (.aload i, 2)) (hI : mm_In G D cl A H0 nL c0 s0 a0 ls st w H locs cells slots L S) (h : mm_ld 2 i 2 pc ls st w = some (.inr F)) (k : mm_Kn p l e R s m args below meth c Q G D cl A H0 nL c0 s0 a0 F) : W p l e R s m args below meth c H locs cells slots Q (F0 m pc L S) := by
  obtain ⟨v, hv, hk, rfl⟩ := mm_ld_inv h
  obtain ⟨ws, lv, hP, hD, hS, hW, hL, hl, hn, hs, e1, e2⟩ := hI
  obtain ⟨v', hm, hr⟩ := hl i v hv
  have kk := k H locs cells slots L (v' :: S) ⟨ws, lv, hP, hD, hS, hW, hL, hl, hn, ⟨_, _, rfl, hr, hs⟩, e1, e2⟩
  rcases mm_kd2 hk hr with rfl | ⟨a, rfl⟩
  · exact lv_aloadN hx hb hd (hL.2.2 _ hm) kk
  · exact lv_aload hx hb hd (hL.2.2 _ hm) kk
theorem mm_s_aload_n (hx : p.tables.exec = Jvm.exec) (hb : c.code = cc) {i : Fin 4} (hd : decode cc pc = .ok (.aload_n i, 1)) (hI : mm_In G D cl A H0 nL c0 s0 a0 ls st w H locs cells slots L S) (h : mm_ld 2 i 1 pc ls st w = some (.inr F)) (k : mm_Kn p l e R s m args below meth c Q G D cl A H0 nL c0 s0 a0 F) : W p l e R s m args below meth c H locs cells slots Q (F0 m pc L S) := by
  obtain ⟨v, hv, hk, rfl⟩ := mm_ld_inv h
  obtain ⟨ws, lv, hP, hD, hS, hW, hL, hl, hn, hs, e1, e2⟩ := hI
  obtain ⟨v', hm, hr⟩ := hl i v hv
  have kk := k H locs cells slots L (v' :: S) ⟨ws, lv, hP, hD, hS, hW, hL, hl, hn, ⟨_, _, rfl, hr, hs⟩, e1, e2⟩
  rcases mm_kd2 hk hr with rfl | ⟨a, rfl⟩
  · exact lv_aload_nN hx hb hd rfl (hL.2.2 _ hm) kk
  · exact lv_aload_n hx hb hd rfl (hL.2.2 _ hm) kk
/-- stores -/
theorem mm_st_inv {k i d : Nat} (h : mm_st k i d pc ls st w = some (.inr F)) : ∃ v r, st = v :: r ∧ mm_kd v = k ∧ i < ls.length ∧ mm_nol ls i = true ∧ F = (pc + d, ls.set i (some v), r, w) := by
  unfold mm_st at h
  split at h
  · rename_i v r
    split at h
    · rename_i hk
      cases h
      exact ⟨v, r, rfl, hk.1, hk.2.1, hk.2.2, rfl⟩
    · cases h
  · cases h
theorem mm_lR.put {ad : List Nat} {lv : List (Nat × Value)} {i : Nat} {v v' : Value} (h : mm_lR G ad ls lv) (hn : mm_nol ls i = true) (hr : mm_vR G ad v v') : mm_lR G ad (ls.set i (some v)) ((i, v') :: lv.filter (fun q => !(q.1 == i) && !(q.1 + 1 == i && q.2.category == 2))) := by
  intro j x hj
  by_cases hij : i = j
  · subst hij
    rw [List.getElem?_set] at hj
    split at hj
    · split at hj
      · cases hj
        exact ⟨v', List.mem_cons_self, hr⟩
      · cases hj
    · rename_i hh
      exact absurd rfl hh
  · rw [List.getElem?_set_ne hij] at hj
    obtain ⟨x', hm, hx⟩ := h j x hj
    refine ⟨x', List.mem_cons_of_mem _ (List.mem_filter.mpr ⟨hm, ?_⟩), hx⟩
    have h1 : (j == i) = false := by simpa using fun e => hij e.symm
    by_cases h2 : j + 1 = i
    · subst h2
      have hc : x'.category = 1 := by
        rw [hx.cat]
        cases x with
        | long y => simp [mm_nol, hj] at hn
        | double y => exact hx.elim
        | _ => rfl
      simp [hc]
    · simp [h1, h2]
theorem mm_s_istore (hx : p.tables.exec = Jvm.exec) (hb : c.code = cc) {i : Nat} (hd : decode cc pc = .ok (.istore i, 2)) (hI : mm_In G D cl A H0 nL c0 s0 a0 ls st w H locs cells slots L S) (h : mm_st 0 i 2 pc ls st w = some (.inr F)) (k : mm_Kn p l e R s m args below meth c Q G D cl A H0 nL c0 s0 a0 F) : W p l e R s m args below meth c H locs cells slots Q (F0 m pc L S) := by
  obtain ⟨v, r, rfl, hk, hi, ho, rfl⟩ := mm_st_inv h
  obtain ⟨ws, lv, hP, hD, hS, hW, hL, hl, hn, hs, e1, e2⟩ := hI
  obtain ⟨v', r', rfl, hr, hs⟩ := hs
  obtain ⟨x, rfl, rfl⟩ := mm_kd0 hk hr
  exact lv_istore hx hb hd hL (by omega) rfl (fun L' hL' => k _ _ _ _ _ _ ⟨ws, _, hP, hD, hS, hW, hL', hl.put ho hr, by simp [hn], hs, e1, e2⟩)
theorem mm_s_istore_n (hx : p.tables.exec = Jvm.exec) (hb : c.code = cc) {i : Fin 4} (hd : decode cc pc = .ok (.istore_n i, 1)) (hI : mm_In G D cl A H0 nL c0 s0 a0 ls st w H locs cells slots L S) (h : mm_st 0 i 1 pc ls st w = some (.inr F)) (k : mm_Kn p l e R s m args below meth c Q G D cl A H0 nL c0 s0 a0 F) : W p l e R s m args below meth c H locs cells slots Q (F0 m pc L S) := by
  obtain ⟨v, r, rfl, hk, hi, ho, rfl⟩ := mm_st_inv h
  obtain ⟨ws, lv, hP, hD, hS, hW, hL, hl, hn, hs, e1, e2⟩ := hI
  obtain ⟨v', r', rfl, hr, hs⟩ := hs
  obtain ⟨x, rfl, rfl⟩ := mm_kd0 hk hr
  exact lv_istore_n hx hb hd rfl hL (by omega) rfl (fun L' hL' => k _ _ _ _ _ _ ⟨ws, _, hP, hD, hS, hW, hL', hl.put ho hr, by simp [hn], hs, e1, e2⟩)
theorem mm_s_astore (hx : p.tables.exec = Jvm.exec) (hb : c.code = cc) {i : Nat} (hd : decode cc pc = .ok (.astore i, 2)) (hI : mm_In G D cl A H0 nL c0 s0 a0 ls st w H locs cells slots L S) (h : mm_st 2 i 2 pc ls st w = some (.inr F)) (k : mm_Kn p l e R s m args below meth c Q G D cl A H0 nL c0 s0 a0 F) : W p l e R s m args below meth c H locs cells slots Q (F0 m pc L S) := by
  obtain ⟨v, r, rfl, hk, hi, ho, rfl⟩ := mm_st_inv h
  obtain ⟨ws, lv, hP, hD, hS, hW, hL, hl, hn, hs, e1, e2⟩ := hI
  obtain ⟨v', r', rfl, hr, hs⟩ := hs
  rcases mm_kd2 hk hr with rfl | ⟨a, rfl⟩
  · exact lv_astoreN hx hb hd hL (by omega) rfl (fun L' hL' => k _ _ _ _ _ _ ⟨ws, _, hP, hD, hS, hW, hL', hl.put ho hr, by simp [hn], hs, e1, e2⟩)
  · exact lv_astore hx hb hd hL (by omega) rfl (fun L' hL' => k _ _ _ _ _ _ ⟨ws, _, hP, hD, hS, hW, hL', hl.put ho hr, by simp [hn], hs, e1, e2⟩)
theorem mm_s_astore_n (hx : p.tables.exec = Jvm.exec) (hb : c.code = cc) {i : Fin 4} (hd : decode cc pc = .ok (.astore_n i, 1)) (hI : mm_In G D cl A H0 nL c0 s0 a0 ls st w H locs cells slots L S) (h : mm_st 2 i 1 pc ls st w = some (.inr F)) (k : mm_Kn p l e R s m args below meth c Q G D cl A H0 nL c0 s0 a0 F) : W p l e R s m args below meth c H locs cells slots Q (F0 m pc L S) := by
  obtain ⟨v, r, rfl, hk, hi, ho, rfl⟩ := mm_st_inv h
  obtain ⟨ws, lv, hP, hD, hS, hW, hL, hl, hn, hs, e1, e2⟩ := hI
  obtain ⟨v', r', rfl, hr, hs⟩ := hs
  rcases mm_kd2 hk hr with rfl | ⟨a, rfl⟩
  · exact lv_astore_nN hx hb hd rfl hL (by omega) rfl (fun L' hL' => k _ _ _ _ _ _ ⟨ws, _, hP, hD, hS, hW, hL', hl.put ho hr, by simp [hn], hs, e1, e2⟩)
  · exact lv_astore_n hx hb hd rfl hL (by omega) rfl (fun L' hL' => k _ _ _ _ _ _ ⟨ws, _, hP, hD, hS, hW, hL', hl.put ho hr, by simp [hn], hs, e1, e2⟩)
theorem mm_st2_inv {i d : Nat} (h : mm_st2 i d pc ls st w = some (.inr F)) : ∃ v r, st = .long v :: r ∧ i + 1 < ls.length ∧ mm_nol ls i = true ∧ F = (pc + d, (ls.set i (some (.long v))).set (i + 1) none, r, w) := by
  unfold mm_st2 at h
  split at h
  · rename_i v r
    split at h
    · rename_i hk
      cases h
      exact ⟨v, r, rfl, hk.1, hk.2, rfl⟩
    · cases h
  · cases h
theorem mm_lR.put2 {ad : List Nat} {lv : List (Nat × Value)} {i : Nat} {v : Int64} (h : mm_lR G ad ls lv) (hn : mm_nol ls i = true) : mm_lR G ad ((ls.set i (some (.long v))).set (i + 1) none) ((i, .long v) :: lv.filter (fun q => !(q.1 == i) && (!(q.1 == i + 1) && !(q.1 + 1 == i && q.2.category == 2)))) := by
  intro j x hj
  by_cases h1 : i + 1 = j
  · subst h1
    rw [List.getElem?_set] at hj
    split at hj
    · split at hj <;> cases hj
    · rename_i hh
      exact absurd rfl hh
  · rw [List.getElem?_set_ne h1] at hj
    by_cases hij : i = j
    · subst hij
      rw [List.getElem?_set] at hj
      split at hj
      · split at hj
        · cases hj
          exact ⟨_, List.mem_cons_self, rfl⟩
        · cases hj
      · rename_i hh
        exact absurd rfl hh
    · rw [List.getElem?_set_ne hij] at hj
      obtain ⟨x', hm, hx⟩ := h j x hj
      refine ⟨x', List.mem_cons_of_mem _ (List.mem_filter.mpr ⟨hm, ?_⟩), hx⟩
      have h3 : (j == i) = false := by simpa using fun e => hij e.symm
      have h4 : (j == i + 1) = false := by simpa using fun e => h1 e.symm
      by_cases h2 : j + 1 = i
      · subst h2
        have hc : x'.category = 1 := by
          rw [hx.cat]
          cases x with
          | long y => simp [mm_nol, hj] at hn
          | double y => exact hx.elim
          | _ => rfl
        simp [hc]
        omega
      · simp [h3, h4, h2]
theorem mm_s_lstore (hx : p.tables.exec = Jvm.exec) (hb : c.code = cc) {i : Nat} (hd : decode cc pc = .ok (.lstore i, 2)) (hI : mm_In G D cl A H0 nL c0 s0 a0 ls st w H locs cells slots L S) (h : mm_st2 i 2 pc ls st w = some (.inr F)) (k : mm_Kn p l e R s m args below meth c Q G D cl A H0 nL c0 s0 a0 F) : W p l e R s m args below meth c H locs cells slots Q (F0 m pc L S) := by
  obtain ⟨v, r, rfl, hi, ho, rfl⟩ := mm_st2_inv h
  obtain ⟨ws, lv, hP, hD, hS, hW, hL, hl, hn, hs, e1, e2⟩ := hI
  obtain ⟨v', r', rfl, hr, hs⟩ := hs
  cases hr
  exact lv_lstore hx hb hd hL (by omega) rfl (fun L' hL' => k _ _ _ _ _ _ ⟨ws, _, hP, hD, hS, hW, hL', hl.put2 ho, by simp [hn], hs, e1, e2⟩)
theorem mm_s_lstore_n (hx : p.tables.exec = Jvm.exec) (hb : c.code = cc) {i : Fin 4} (hd : decode cc pc = .ok (.lstore_n i, 1)) (hI : mm_In G D cl A H0 nL c0 s0 a0 ls st w H locs cells slots L S) (h : mm_st2 i 1 pc ls st w = some (.inr F)) (k : mm_Kn p l e R s m args below meth c Q G D cl A H0 nL c0 s0 a0 F) : W p l e R s m args below meth c H locs cells slots Q (F0 m pc L S) := by
  obtain ⟨v, r, rfl, hi, ho, rfl⟩ := mm_st2_inv h
  obtain ⟨ws, lv, hP, hD, hS, hW, hL, hl, hn, hs, e1, e2⟩ := hI
  obtain ⟨v', r', rfl, hr, hs⟩ := hs
  cases hr
  exact lv_lstore_n hx hb hd rfl hL (by omega) rfl (fun L' hL' => k _ _ _ _ _ _ ⟨ws, _, hP, hD, hS, hW, hL', hl.put2 ho, by simp [hn], hs, e1, e2⟩)
theorem mm_s_iinc (hx : p.tables.exec = Jvm.exec) (hb : c.code = cc) {i : Nat} {n : Int} (hd : decode cc pc = .ok (.iinc i n, 3)) (hI : mm_In G D cl A H0 nL c0 s0 a0 ls st w H locs cells slots L S) (h : mm_iinc i n pc ls st w = some (.inr F)) (k : mm_Kn p l e R s m args below meth c Q G D cl A H0 nL c0 s0 a0 F) : W p l e R s m args below meth c H locs cells slots Q (F0 m pc L S) := by
  unfold mm_iinc at h
  split at h
  · rename_i x hv
    cases h
    obtain ⟨ws, lv, hP, hD, hS, hW, hL, hl, hn, hs, e1, e2⟩ := hI
    obtain ⟨v', hm, hr⟩ := hl i _ hv
    cases hr
    obtain ⟨j, hj⟩ := List.getElem?_of_mem hm
    have hi : i < ls.length := (List.getElem?_eq_some_iff.mp hv).1
    have ho : mm_nol ls i = true := by
      cases i with
      | zero => rfl
      | succ j =>
        simp only [mm_nol]
        split
        · rename_i y hy
          obtain ⟨z, hz, hzr⟩ := hl j _ hy
          cases hzr
          have h1 := hL.2.1.1 j _ (hL.2.2 _ hz) rfl
          have h2 := hL.2.2 _ hm
          simp only at h2
          rw [h1] at h2
          cases h2
        · rfl
    exact lv_iinc hx hb hd hL hj rfl (by omega) rfl (fun L' hL' => k _ _ _ _ _ _ ⟨ws, _, hP, hD, hS, hW, hL', hl.put ho rfl, by simp [hn], hs, e1, e2⟩)
  · cases h
end MMA
