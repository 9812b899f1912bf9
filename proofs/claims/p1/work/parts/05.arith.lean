/-! arithmetic, the stack, branches -/
section MMB
variable {p : Program} {l : Launch} {e : Env} {R : Room} {s : State} {m : MethodId} {args : Array Value} {below : List Frame} {meth : Method} {c : Code} {Q : State → Prop}
variable {G : mmG} {D : va_G} {cl : List vw_C} {A : Nat → Prop} {H0 : Heap} {nL c0 s0 : Nat} {a0 : List Nat} {cc : ByteArray} {pc : Nat} {ls : mmL} {st : List Value} {w : mmW} {H : Heap} {locs : List Loc} {cells slots : Nat} {L : Array Slot} {S : List Value} {F : mmF}

theorem mm_s_iconst (hx : p.tables.exec = Jvm.exec) (hb : c.code = cc) {n : Int} (hd : decode cc pc = .ok (.iconst n, 1)) (hI : mm_In G D cl A H0 nL c0 s0 a0 ls st w H locs cells slots L S) (h : mm_pu (.int (Int32.ofInt n)) 1 pc ls st w = some (.inr F)) (k : mm_Kn p l e R s m args below meth c Q G D cl A H0 nL c0 s0 a0 F) : W p l e R s m args below meth c H locs cells slots Q (F0 m pc L S) := by
  cases h
  obtain ⟨ws, lv, hP, hD, hS, hW, hL, hl, hn, hs, e1, e2⟩ := hI
  exact lv_iconst hx hb hd rfl (k _ _ _ _ _ _ ⟨ws, lv, hP, hD, hS, hW, hL, hl, hn, ⟨_, _, rfl, rfl, hs⟩, e1, e2⟩)
theorem mm_s_bipush (hx : p.tables.exec = Jvm.exec) (hb : c.code = cc) {n : Int} (hd : decode cc pc = .ok (.bipush n, 2)) (hI : mm_In G D cl A H0 nL c0 s0 a0 ls st w H locs cells slots L S) (h : mm_pu (.int (Int8.ofInt n).toInt32) 2 pc ls st w = some (.inr F)) (k : mm_Kn p l e R s m args below meth c Q G D cl A H0 nL c0 s0 a0 F) : W p l e R s m args below meth c H locs cells slots Q (F0 m pc L S) := by
  cases h
  obtain ⟨ws, lv, hP, hD, hS, hW, hL, hl, hn, hs, e1, e2⟩ := hI
  exact lv_bipush hx hb hd rfl (k _ _ _ _ _ _ ⟨ws, lv, hP, hD, hS, hW, hL, hl, hn, ⟨_, _, rfl, rfl, hs⟩, e1, e2⟩)
theorem mm_s_sipush (hx : p.tables.exec = Jvm.exec) (hb : c.code = cc) {n : Int} (hd : decode cc pc = .ok (.sipush n, 3)) (hI : mm_In G D cl A H0 nL c0 s0 a0 ls st w H locs cells slots L S) (h : mm_pu (.int (Int16.ofInt n).toInt32) 3 pc ls st w = some (.inr F)) (k : mm_Kn p l e R s m args below meth c Q G D cl A H0 nL c0 s0 a0 F) : W p l e R s m args below meth c H locs cells slots Q (F0 m pc L S) := by
  cases h
  obtain ⟨ws, lv, hP, hD, hS, hW, hL, hl, hn, hs, e1, e2⟩ := hI
  exact lv_sipush hx hb hd rfl (k _ _ _ _ _ _ ⟨ws, lv, hP, hD, hS, hW, hL, hl, hn, ⟨_, _, rfl, rfl, hs⟩, e1, e2⟩)
theorem mm_s_lconst (hx : p.tables.exec = Jvm.exec) (hb : c.code = cc) {n : Fin 2} (hd : decode cc pc = .ok (.lconst n, 1)) (hI : mm_In G D cl A H0 nL c0 s0 a0 ls st w H locs cells slots L S) (h : mm_pu (.long (Int64.ofNat n)) 1 pc ls st w = some (.inr F)) (k : mm_Kn p l e R s m args below meth c Q G D cl A H0 nL c0 s0 a0 F) : W p l e R s m args below meth c H locs cells slots Q (F0 m pc L S) := by
  cases h
  obtain ⟨ws, lv, hP, hD, hS, hW, hL, hl, hn, hs, e1, e2⟩ := hI
  exact lv_lconst hx hb hd rfl (k _ _ _ _ _ _ ⟨ws, lv, hP, hD, hS, hW, hL, hl, hn, ⟨_, _, rfl, rfl, hs⟩, e1, e2⟩)
theorem mm_s_aconst_null (hx : p.tables.exec = Jvm.exec) (hb : c.code = cc) (hd : decode cc pc = .ok (.aconst_null, 1)) (hI : mm_In G D cl A H0 nL c0 s0 a0 ls st w H locs cells slots L S) (h : mm_pu .null 1 pc ls st w = some (.inr F)) (k : mm_Kn p l e R s m args below meth c Q G D cl A H0 nL c0 s0 a0 F) : W p l e R s m args below meth c H locs cells slots Q (F0 m pc L S) := by
  cases h
  obtain ⟨ws, lv, hP, hD, hS, hW, hL, hl, hn, hs, e1, e2⟩ := hI
  exact lv_null hx hb hd (k _ _ _ _ _ _ ⟨ws, lv, hP, hD, hS, hW, hL, hl, hn, ⟨_, _, rfl, rfl, hs⟩, e1, e2⟩)
theorem mm_s_iadd (hx : p.tables.exec = Jvm.exec) (hb : c.code = cc) (hd : decode cc pc = .ok (.iadd, 1)) (hI : mm_In G D cl A H0 nL c0 s0 a0 ls st w H locs cells slots L S) (h : mm_bi (fun x y => x + y) pc ls st w = some (.inr F)) (k : mm_Kn p l e R s m args below meth c Q G D cl A H0 nL c0 s0 a0 F) : W p l e R s m args below meth c H locs cells slots Q (F0 m pc L S) := by
  unfold mm_bi at h
  split at h
  · cases h
    obtain ⟨ws, lv, hP, hD, hS, hW, hL, hl, hn, hs, e1, e2⟩ := hI
    obtain ⟨_, _, rfl, hv, _, _, rfl, hu, hs⟩ := hs
    cases hv
    cases hu
    exact lv_iadd hx hb hd (k _ _ _ _ _ _ ⟨ws, lv, hP, hD, hS, hW, hL, hl, hn, ⟨_, _, rfl, rfl, hs⟩, e1, e2⟩)
  · cases h
theorem mm_s_isub (hx : p.tables.exec = Jvm.exec) (hb : c.code = cc) (hd : decode cc pc = .ok (.isub, 1)) (hI : mm_In G D cl A H0 nL c0 s0 a0 ls st w H locs cells slots L S) (h : mm_bi (fun x y => x - y) pc ls st w = some (.inr F)) (k : mm_Kn p l e R s m args below meth c Q G D cl A H0 nL c0 s0 a0 F) : W p l e R s m args below meth c H locs cells slots Q (F0 m pc L S) := by
  unfold mm_bi at h
  split at h
  · cases h
    obtain ⟨ws, lv, hP, hD, hS, hW, hL, hl, hn, hs, e1, e2⟩ := hI
    obtain ⟨_, _, rfl, hv, _, _, rfl, hu, hs⟩ := hs
    cases hv
    cases hu
    exact lv_isub hx hb hd (k _ _ _ _ _ _ ⟨ws, lv, hP, hD, hS, hW, hL, hl, hn, ⟨_, _, rfl, rfl, hs⟩, e1, e2⟩)
  · cases h
theorem mm_s_imul (hx : p.tables.exec = Jvm.exec) (hb : c.code = cc) (hd : decode cc pc = .ok (.imul, 1)) (hI : mm_In G D cl A H0 nL c0 s0 a0 ls st w H locs cells slots L S) (h : mm_bi (fun x y => x * y) pc ls st w = some (.inr F)) (k : mm_Kn p l e R s m args below meth c Q G D cl A H0 nL c0 s0 a0 F) : W p l e R s m args below meth c H locs cells slots Q (F0 m pc L S) := by
  unfold mm_bi at h
  split at h
  · cases h
    obtain ⟨ws, lv, hP, hD, hS, hW, hL, hl, hn, hs, e1, e2⟩ := hI
    obtain ⟨_, _, rfl, hv, _, _, rfl, hu, hs⟩ := hs
    cases hv
    cases hu
    exact lv_imul hx hb hd (k _ _ _ _ _ _ ⟨ws, lv, hP, hD, hS, hW, hL, hl, hn, ⟨_, _, rfl, rfl, hs⟩, e1, e2⟩)
  · cases h
theorem mm_s_iand (hx : p.tables.exec = Jvm.exec) (hb : c.code = cc) (hd : decode cc pc = .ok (.iand, 1)) (hI : mm_In G D cl A H0 nL c0 s0 a0 ls st w H locs cells slots L S) (h : mm_bi (fun x y => x &&& y) pc ls st w = some (.inr F)) (k : mm_Kn p l e R s m args below meth c Q G D cl A H0 nL c0 s0 a0 F) : W p l e R s m args below meth c H locs cells slots Q (F0 m pc L S) := by
  unfold mm_bi at h
  split at h
  · cases h
    obtain ⟨ws, lv, hP, hD, hS, hW, hL, hl, hn, hs, e1, e2⟩ := hI
    obtain ⟨_, _, rfl, hv, _, _, rfl, hu, hs⟩ := hs
    cases hv
    cases hu
    exact lv_iand hx hb hd (k _ _ _ _ _ _ ⟨ws, lv, hP, hD, hS, hW, hL, hl, hn, ⟨_, _, rfl, rfl, hs⟩, e1, e2⟩)
  · cases h
theorem mm_s_ior (hx : p.tables.exec = Jvm.exec) (hb : c.code = cc) (hd : decode cc pc = .ok (.ior, 1)) (hI : mm_In G D cl A H0 nL c0 s0 a0 ls st w H locs cells slots L S) (h : mm_bi (fun x y => x ||| y) pc ls st w = some (.inr F)) (k : mm_Kn p l e R s m args below meth c Q G D cl A H0 nL c0 s0 a0 F) : W p l e R s m args below meth c H locs cells slots Q (F0 m pc L S) := by
  unfold mm_bi at h
  split at h
  · cases h
    obtain ⟨ws, lv, hP, hD, hS, hW, hL, hl, hn, hs, e1, e2⟩ := hI
    obtain ⟨_, _, rfl, hv, _, _, rfl, hu, hs⟩ := hs
    cases hv
    cases hu
    exact lv_ior hx hb hd (k _ _ _ _ _ _ ⟨ws, lv, hP, hD, hS, hW, hL, hl, hn, ⟨_, _, rfl, rfl, hs⟩, e1, e2⟩)
  · cases h
theorem mm_s_ishl (hx : p.tables.exec = Jvm.exec) (hb : c.code = cc) (hd : decode cc pc = .ok (.ishl, 1)) (hI : mm_In G D cl A H0 nL c0 s0 a0 ls st w H locs cells slots L S) (h : mm_bi (fun x y => x <<< (y &&& 31)) pc ls st w = some (.inr F)) (k : mm_Kn p l e R s m args below meth c Q G D cl A H0 nL c0 s0 a0 F) : W p l e R s m args below meth c H locs cells slots Q (F0 m pc L S) := by
  unfold mm_bi at h
  split at h
  · cases h
    obtain ⟨ws, lv, hP, hD, hS, hW, hL, hl, hn, hs, e1, e2⟩ := hI
    obtain ⟨_, _, rfl, hv, _, _, rfl, hu, hs⟩ := hs
    cases hv
    cases hu
    exact lv_ishl hx hb hd (k _ _ _ _ _ _ ⟨ws, lv, hP, hD, hS, hW, hL, hl, hn, ⟨_, _, rfl, rfl, hs⟩, e1, e2⟩)
  · cases h
theorem mm_s_ishr (hx : p.tables.exec = Jvm.exec) (hb : c.code = cc) (hd : decode cc pc = .ok (.ishr, 1)) (hI : mm_In G D cl A H0 nL c0 s0 a0 ls st w H locs cells slots L S) (h : mm_bi (fun x y => x >>> (y &&& 31)) pc ls st w = some (.inr F)) (k : mm_Kn p l e R s m args below meth c Q G D cl A H0 nL c0 s0 a0 F) : W p l e R s m args below meth c H locs cells slots Q (F0 m pc L S) := by
  unfold mm_bi at h
  split at h
  · cases h
    obtain ⟨ws, lv, hP, hD, hS, hW, hL, hl, hn, hs, e1, e2⟩ := hI
    obtain ⟨_, _, rfl, hv, _, _, rfl, hu, hs⟩ := hs
    cases hv
    cases hu
    exact lv_ishr hx hb hd (k _ _ _ _ _ _ ⟨ws, lv, hP, hD, hS, hW, hL, hl, hn, ⟨_, _, rfl, rfl, hs⟩, e1, e2⟩)
  · cases h
theorem mm_s_iushr (hx : p.tables.exec = Jvm.exec) (hb : c.code = cc) (hd : decode cc pc = .ok (.iushr, 1)) (hI : mm_In G D cl A H0 nL c0 s0 a0 ls st w H locs cells slots L S) (h : mm_bi (fun x y => (x.toUInt32 >>> (y.toUInt32 &&& Int32.toUInt32 31)).toInt32) pc ls st w = some (.inr F)) (k : mm_Kn p l e R s m args below meth c Q G D cl A H0 nL c0 s0 a0 F) : W p l e R s m args below meth c H locs cells slots Q (F0 m pc L S) := by
  unfold mm_bi at h
  split at h
  · cases h
    obtain ⟨ws, lv, hP, hD, hS, hW, hL, hl, hn, hs, e1, e2⟩ := hI
    obtain ⟨_, _, rfl, hv, _, _, rfl, hu, hs⟩ := hs
    cases hv
    cases hu
    exact lv_iushr hx hb hd rfl (k _ _ _ _ _ _ ⟨ws, lv, hP, hD, hS, hW, hL, hl, hn, ⟨_, _, rfl, rfl, hs⟩, e1, e2⟩)
  · cases h
theorem mm_s_idiv (hx : p.tables.exec = Jvm.exec) (hb : c.code = cc) (hd : decode cc pc = .ok (.idiv, 1)) (hI : mm_In G D cl A H0 nL c0 s0 a0 ls st w H locs cells slots L S) (h : mm_dv (fun x y => x / y) pc ls st w = some (.inr F)) (k : mm_Kn p l e R s m args below meth c Q G D cl A H0 nL c0 s0 a0 F) : W p l e R s m args below meth c H locs cells slots Q (F0 m pc L S) := by
  unfold mm_dv at h
  split at h
  · split at h
    · cases h
    · rename_i hz
      cases h
      obtain ⟨ws, lv, hP, hD, hS, hW, hL, hl, hn, hs, e1, e2⟩ := hI
      obtain ⟨_, _, rfl, hv, _, _, rfl, hu, hs⟩ := hs
      cases hv
      cases hu
      exact lv_idiv hx hb hd hz (k _ _ _ _ _ _ ⟨ws, lv, hP, hD, hS, hW, hL, hl, hn, ⟨_, _, rfl, rfl, hs⟩, e1, e2⟩)
  · cases h
theorem mm_s_irem (hx : p.tables.exec = Jvm.exec) (hb : c.code = cc) (hd : decode cc pc = .ok (.irem, 1)) (hI : mm_In G D cl A H0 nL c0 s0 a0 ls st w H locs cells slots L S) (h : mm_dv (fun x y => x - x / y * y) pc ls st w = some (.inr F)) (k : mm_Kn p l e R s m args below meth c Q G D cl A H0 nL c0 s0 a0 F) : W p l e R s m args below meth c H locs cells slots Q (F0 m pc L S) := by
  unfold mm_dv at h
  split at h
  · split at h
    · cases h
    · rename_i hz
      cases h
      obtain ⟨ws, lv, hP, hD, hS, hW, hL, hl, hn, hs, e1, e2⟩ := hI
      obtain ⟨_, _, rfl, hv, _, _, rfl, hu, hs⟩ := hs
      cases hv
      cases hu
      exact lv_irem hx hb hd hz (k _ _ _ _ _ _ ⟨ws, lv, hP, hD, hS, hW, hL, hl, hn, ⟨_, _, rfl, rfl, hs⟩, e1, e2⟩)
  · cases h
theorem mm_s_ineg (hx : p.tables.exec = Jvm.exec) (hb : c.code = cc) (hd : decode cc pc = .ok (.ineg, 1)) (hI : mm_In G D cl A H0 nL c0 s0 a0 ls st w H locs cells slots L S) (h : mm_un (fun x => .int (-x)) pc ls st w = some (.inr F)) (k : mm_Kn p l e R s m args below meth c Q G D cl A H0 nL c0 s0 a0 F) : W p l e R s m args below meth c H locs cells slots Q (F0 m pc L S) := by
  unfold mm_un at h
  split at h
  · cases h
    obtain ⟨ws, lv, hP, hD, hS, hW, hL, hl, hn, hs, e1, e2⟩ := hI
    obtain ⟨_, _, rfl, hv, hs⟩ := hs
    cases hv
    exact lv_ineg hx hb hd (k _ _ _ _ _ _ ⟨ws, lv, hP, hD, hS, hW, hL, hl, hn, ⟨_, _, rfl, rfl, hs⟩, e1, e2⟩)
  · cases h
theorem mm_s_i2l (hx : p.tables.exec = Jvm.exec) (hb : c.code = cc) (hd : decode cc pc = .ok (.i2l, 1)) (hI : mm_In G D cl A H0 nL c0 s0 a0 ls st w H locs cells slots L S) (h : mm_un (fun x => .long x.toInt64) pc ls st w = some (.inr F)) (k : mm_Kn p l e R s m args below meth c Q G D cl A H0 nL c0 s0 a0 F) : W p l e R s m args below meth c H locs cells slots Q (F0 m pc L S) := by
  unfold mm_un at h
  split at h
  · cases h
    obtain ⟨ws, lv, hP, hD, hS, hW, hL, hl, hn, hs, e1, e2⟩ := hI
    obtain ⟨_, _, rfl, hv, hs⟩ := hs
    cases hv
    exact lv_i2l hx hb hd rfl (k _ _ _ _ _ _ ⟨ws, lv, hP, hD, hS, hW, hL, hl, hn, ⟨_, _, rfl, rfl, hs⟩, e1, e2⟩)
  · cases h
theorem mm_s_i2c (hx : p.tables.exec = Jvm.exec) (hb : c.code = cc) (hd : decode cc pc = .ok (.i2c, 1)) (hI : mm_In G D cl A H0 nL c0 s0 a0 ls st w H locs cells slots L S) (h : mm_un (fun x => .int (x.toUInt32 % 65536).toInt32) pc ls st w = some (.inr F)) (k : mm_Kn p l e R s m args below meth c Q G D cl A H0 nL c0 s0 a0 F) : W p l e R s m args below meth c H locs cells slots Q (F0 m pc L S) := by
  unfold mm_un at h
  split at h
  · cases h
    obtain ⟨ws, lv, hP, hD, hS, hW, hL, hl, hn, hs, e1, e2⟩ := hI
    obtain ⟨_, _, rfl, hv, hs⟩ := hs
    cases hv
    exact lv_i2c hx hb hd rfl (k _ _ _ _ _ _ ⟨ws, lv, hP, hD, hS, hW, hL, hl, hn, ⟨_, _, rfl, rfl, hs⟩, e1, e2⟩)
  · cases h
theorem mm_s_i2b (hx : p.tables.exec = Jvm.exec) (hb : c.code = cc) (hd : decode cc pc = .ok (.i2b, 1)) (hI : mm_In G D cl A H0 nL c0 s0 a0 ls st w H locs cells slots L S) (h : mm_un (fun x => .int x.toInt8.toInt32) pc ls st w = some (.inr F)) (k : mm_Kn p l e R s m args below meth c Q G D cl A H0 nL c0 s0 a0 F) : W p l e R s m args below meth c H locs cells slots Q (F0 m pc L S) := by
  unfold mm_un at h
  split at h
  · cases h
    obtain ⟨ws, lv, hP, hD, hS, hW, hL, hl, hn, hs, e1, e2⟩ := hI
    obtain ⟨_, _, rfl, hv, hs⟩ := hs
    cases hv
    exact lv_i2b hx hb hd rfl (k _ _ _ _ _ _ ⟨ws, lv, hP, hD, hS, hW, hL, hl, hn, ⟨_, _, rfl, rfl, hs⟩, e1, e2⟩)
  · cases h
theorem mm_s_ladd (hx : p.tables.exec = Jvm.exec) (hb : c.code = cc) (hd : decode cc pc = .ok (.ladd, 1)) (hI : mm_In G D cl A H0 nL c0 s0 a0 ls st w H locs cells slots L S) (h : mm_bl (fun x y => .long (x + y)) pc ls st w = some (.inr F)) (k : mm_Kn p l e R s m args below meth c Q G D cl A H0 nL c0 s0 a0 F) : W p l e R s m args below meth c H locs cells slots Q (F0 m pc L S) := by
  unfold mm_bl at h
  split at h
  · cases h
    obtain ⟨ws, lv, hP, hD, hS, hW, hL, hl, hn, hs, e1, e2⟩ := hI
    obtain ⟨_, _, rfl, hv, _, _, rfl, hu, hs⟩ := hs
    cases hv
    cases hu
    exact lv_ladd hx hb hd (k _ _ _ _ _ _ ⟨ws, lv, hP, hD, hS, hW, hL, hl, hn, ⟨_, _, rfl, rfl, hs⟩, e1, e2⟩)
  · cases h
theorem mm_s_lor (hx : p.tables.exec = Jvm.exec) (hb : c.code = cc) (hd : decode cc pc = .ok (.lor, 1)) (hI : mm_In G D cl A H0 nL c0 s0 a0 ls st w H locs cells slots L S) (h : mm_bl (fun x y => .long (x ||| y)) pc ls st w = some (.inr F)) (k : mm_Kn p l e R s m args below meth c Q G D cl A H0 nL c0 s0 a0 F) : W p l e R s m args below meth c H locs cells slots Q (F0 m pc L S) := by
  unfold mm_bl at h
  split at h
  · cases h
    obtain ⟨ws, lv, hP, hD, hS, hW, hL, hl, hn, hs, e1, e2⟩ := hI
    obtain ⟨_, _, rfl, hv, _, _, rfl, hu, hs⟩ := hs
    cases hv
    cases hu
    exact lv_lor hx hb hd (k _ _ _ _ _ _ ⟨ws, lv, hP, hD, hS, hW, hL, hl, hn, ⟨_, _, rfl, rfl, hs⟩, e1, e2⟩)
  · cases h
theorem mm_s_lcmp (hx : p.tables.exec = Jvm.exec) (hb : c.code = cc) (hd : decode cc pc = .ok (.lcmp, 1)) (hI : mm_In G D cl A H0 nL c0 s0 a0 ls st w H locs cells slots L S) (h : mm_bl (fun x y => .int (lg_cmp x y)) pc ls st w = some (.inr F)) (k : mm_Kn p l e R s m args below meth c Q G D cl A H0 nL c0 s0 a0 F) : W p l e R s m args below meth c H locs cells slots Q (F0 m pc L S) := by
  unfold mm_bl at h
  split at h
  · cases h
    obtain ⟨ws, lv, hP, hD, hS, hW, hL, hl, hn, hs, e1, e2⟩ := hI
    obtain ⟨_, _, rfl, hv, _, _, rfl, hu, hs⟩ := hs
    cases hv
    cases hu
    exact W.lcmp hx hb hd (k _ _ _ _ _ _ ⟨ws, lv, hP, hD, hS, hW, hL, hl, hn, ⟨_, _, rfl, rfl, hs⟩, e1, e2⟩)
  · cases h
theorem mm_s_lshl (hx : p.tables.exec = Jvm.exec) (hb : c.code = cc) (hd : decode cc pc = .ok (.lshl, 1)) (hI : mm_In G D cl A H0 nL c0 s0 a0 ls st w H locs cells slots L S) (h : mm_sl (fun x y => x <<< (y.toInt64 &&& 63)) pc ls st w = some (.inr F)) (k : mm_Kn p l e R s m args below meth c Q G D cl A H0 nL c0 s0 a0 F) : W p l e R s m args below meth c H locs cells slots Q (F0 m pc L S) := by
  unfold mm_sl at h
  split at h
  · cases h
    obtain ⟨ws, lv, hP, hD, hS, hW, hL, hl, hn, hs, e1, e2⟩ := hI
    obtain ⟨_, _, rfl, hv, _, _, rfl, hu, hs⟩ := hs
    cases hv
    cases hu
    exact lv_lshl hx hb hd rfl (k _ _ _ _ _ _ ⟨ws, lv, hP, hD, hS, hW, hL, hl, hn, ⟨_, _, rfl, rfl, hs⟩, e1, e2⟩)
  · cases h
theorem mm_s_pop (hx : p.tables.exec = Jvm.exec) (hb : c.code = cc) (hd : decode cc pc = .ok (.pop, 1)) (hI : mm_In G D cl A H0 nL c0 s0 a0 ls st w H locs cells slots L S) (h : mm_pop pc ls st w = some (.inr F)) (k : mm_Kn p l e R s m args below meth c Q G D cl A H0 nL c0 s0 a0 F) : W p l e R s m args below meth c H locs cells slots Q (F0 m pc L S) := by
  unfold mm_pop at h
  split at h
  · split at h
    · rename_i hc
      cases h
      obtain ⟨ws, lv, hP, hD, hS, hW, hL, hl, hn, hs, e1, e2⟩ := hI
      obtain ⟨_, _, rfl, hv, hs⟩ := hs
      exact lv_pop hx hb hd (hv.cat.trans hc) (k _ _ _ _ _ _ ⟨ws, lv, hP, hD, hS, hW, hL, hl, hn, hs, e1, e2⟩)
    · cases h
  · cases h
theorem mm_s_dup (hx : p.tables.exec = Jvm.exec) (hb : c.code = cc) (hd : decode cc pc = .ok (.dup, 1)) (hI : mm_In G D cl A H0 nL c0 s0 a0 ls st w H locs cells slots L S) (h : mm_dup pc ls st w = some (.inr F)) (k : mm_Kn p l e R s m args below meth c Q G D cl A H0 nL c0 s0 a0 F) : W p l e R s m args below meth c H locs cells slots Q (F0 m pc L S) := by
  unfold mm_dup at h
  split at h
  · split at h
    · rename_i hc
      cases h
      obtain ⟨ws, lv, hP, hD, hS, hW, hL, hl, hn, hs, e1, e2⟩ := hI
      obtain ⟨_, _, rfl, hv, hs⟩ := hs
      exact lv_dup hx hb hd (hv.cat.trans hc) (k _ _ _ _ _ _ ⟨ws, lv, hP, hD, hS, hW, hL, hl, hn, ⟨_, _, rfl, hv, _, _, rfl, hv, hs⟩, e1, e2⟩)
    · cases h
  · cases h
theorem mm_s_dup_x1 (hx : p.tables.exec = Jvm.exec) (hb : c.code = cc) (hd : decode cc pc = .ok (.dup_x1, 1)) (hI : mm_In G D cl A H0 nL c0 s0 a0 ls st w H locs cells slots L S) (h : mm_dupx pc ls st w = some (.inr F)) (k : mm_Kn p l e R s m args below meth c Q G D cl A H0 nL c0 s0 a0 F) : W p l e R s m args below meth c H locs cells slots Q (F0 m pc L S) := by
  unfold mm_dupx at h
  split at h
  · split at h
    · rename_i hc
      cases h
      obtain ⟨ws, lv, hP, hD, hS, hW, hL, hl, hn, hs, e1, e2⟩ := hI
      obtain ⟨_, _, rfl, hv, _, _, rfl, hu, hs⟩ := hs
      exact lv_dup_x1 hx hb hd (hv.cat.trans hc.1) (hu.cat.trans hc.2) (k _ _ _ _ _ _ ⟨ws, lv, hP, hD, hS, hW, hL, hl, hn, ⟨_, _, rfl, hv, _, _, rfl, hu, _, _, rfl, hv, hs⟩, e1, e2⟩)
    · cases h
  · cases h
theorem mm_s_dup2 (hx : p.tables.exec = Jvm.exec) (hb : c.code = cc) (hd : decode cc pc = .ok (.dup2, 1)) (hI : mm_In G D cl A H0 nL c0 s0 a0 ls st w H locs cells slots L S) (h : mm_dup2 pc ls st w = some (.inr F)) (k : mm_Kn p l e R s m args below meth c Q G D cl A H0 nL c0 s0 a0 F) : W p l e R s m args below meth c H locs cells slots Q (F0 m pc L S) := by
  unfold mm_dup2 at h
  split at h
  · split at h
    · rename_i hc
      cases h
      obtain ⟨ws, lv, hP, hD, hS, hW, hL, hl, hn, hs, e1, e2⟩ := hI
      obtain ⟨_, _, rfl, hv, _, _, rfl, hu, hs⟩ := hs
      exact lv_dup2_11 hx hb hd (hv.cat.trans hc.1) (hu.cat.trans hc.2) (k _ _ _ _ _ _ ⟨ws, lv, hP, hD, hS, hW, hL, hl, hn, ⟨_, _, rfl, hv, _, _, rfl, hu, _, _, rfl, hv, _, _, rfl, hu, hs⟩, e1, e2⟩)
    · cases h
  · cases h
theorem mm_jp_inv {off : Int} {r : List Value} (h : mm_jp pc off ls r w = some (.inr F)) : ∃ t : Nat, (pc : Int) + off = (t : Int) ∧ F = (t, ls, r, w) := by
  unfold mm_jp at h
  split at h
  · rename_i t ht
    cases h
    exact ⟨t, ht, rfl⟩
  · cases h
theorem mm_s_goto (hx : p.tables.exec = Jvm.exec) (hb : c.code = cc) {off : Int} (hd : decode cc pc = .ok (.goto off, 3)) (hI : mm_In G D cl A H0 nL c0 s0 a0 ls st w H locs cells slots L S) (h : mm_jp pc off ls st w = some (.inr F)) (k : mm_Kn p l e R s m args below meth c Q G D cl A H0 nL c0 s0 a0 F) : W p l e R s m args below meth c H locs cells slots Q (F0 m pc L S) := by
  obtain ⟨ws, lv, hP, hD, hS, hW, hL, hl, hn, hs, e1, e2⟩ := hI
  obtain ⟨t, ht, rfl⟩ := mm_jp_inv h
  exact lv_goto hx hb hd ht (k _ _ _ _ _ _ ⟨ws, lv, hP, hD, hS, hW, hL, hl, hn, hs, e1, e2⟩)
/-- a jump whose place is no number of the code can't be taken: a lemma for the rows that want the place first -/
theorem mm_bif_inv {q : Bool} {off : Int} {r : List Value} (h : (bif q then mm_jp pc off ls r w else mm_nx (pc + 3) ls r w) = some (.inr F)) : (q = true ∧ ∃ t : Nat, (pc : Int) + off = (t : Int) ∧ F = (t, ls, r, w)) ∨ (q = false ∧ F = (pc + 3, ls, r, w)) := by
  cases q with
  | true => exact Or.inl ⟨rfl, mm_jp_inv h⟩
  | false => cases h; exact Or.inr ⟨rfl, rfl⟩
/-- the places of a branch are in the code -/
def mm_okJ (pc : Nat) (off : Int) : Prop := ∃ t : Nat, (pc : Int) + off = (t : Int)
theorem mm_s_if (hx : p.tables.exec = Jvm.exec) (hb : c.code = cc) {q : ClassFile.Cond} {off : Int} (hj : mm_okJ pc off) (hd : decode cc pc = .ok (.ifCond q off, 3)) (hI : mm_In G D cl A H0 nL c0 s0 a0 ls st w H locs cells slots L S) (h : mm_if q off pc ls st w = some (.inr F)) (k : mm_Kn p l e R s m args below meth c Q G D cl A H0 nL c0 s0 a0 F) : W p l e R s m args below meth c H locs cells slots Q (F0 m pc L S) := by
  unfold mm_if at h
  split at h
  case h_2 => cases h
  rename_i x r
  have h := mm_bif_inv h
  obtain ⟨tgt, ht⟩ := hj
  obtain ⟨ws, lv, hP, hD, hS, hW, hL, hl, hn, hs, e1, e2⟩ := hI
  obtain ⟨_, S', rfl, hv, hs⟩ := hs
  cases hv
  have kk : W p l e R s m args below meth c H locs cells slots Q (F0 m F.1 L S') := by
    have hF : F.2 = (ls, r, w) := by rcases h with ⟨-, t', -, rfl⟩ | ⟨-, rfl⟩ <;> rfl
    refine k _ _ _ _ _ _ ?_
    rw [hF]
    exact ⟨ws, lv, hP, hD, hS, hW, hL, hl, hn, hs, e1, e2⟩
  cases q with
  | eq =>
    refine lv_if_eq hx hb hd ht (fun hc => ?_) (fun hc => ?_)
    · rcases h with ⟨hq, t', ht', rfl⟩ | ⟨hq, -⟩
      · rw [ht] at ht'
        cases ht'
        exact kk
      · exact absurd hc (by simpa [mm_holds] using hq)
    · rcases h with ⟨hq, -⟩ | ⟨-, rfl⟩
      · exact absurd (by simpa [mm_holds] using hq) hc
      · exact kk
  | ne =>
    refine lv_if_ne hx hb hd ht (fun hc => ?_) (fun hc => ?_)
    · rcases h with ⟨hq, t', ht', rfl⟩ | ⟨hq, -⟩
      · rw [ht] at ht'
        cases ht'
        exact kk
      · exact absurd hc (by simpa [mm_holds] using hq)
    · rcases h with ⟨hq, -⟩ | ⟨-, rfl⟩
      · exact absurd hc (by simpa [mm_holds] using hq)
      · exact kk
  | lt =>
    refine lv_if_lt hx hb hd ht (fun hc => ?_) (fun hc => ?_)
    · rcases h with ⟨hq, t', ht', rfl⟩ | ⟨hq, -⟩
      · rw [ht] at ht'
        cases ht'
        exact kk
      · exact absurd hc (by simpa [mm_holds] using hq)
    · rcases h with ⟨hq, -⟩ | ⟨-, rfl⟩
      · exact absurd (by simpa [mm_holds] using hq) hc
      · exact kk
  | ge =>
    refine lv_if_ge hx hb hd ht (fun hc => ?_) (fun hc => ?_)
    · rcases h with ⟨hq, t', ht', rfl⟩ | ⟨hq, -⟩
      · rw [ht] at ht'
        cases ht'
        exact kk
      · exact absurd hc (by simpa [mm_holds] using hq)
    · rcases h with ⟨hq, -⟩ | ⟨-, rfl⟩
      · exact absurd (by simpa [mm_holds] using hq) hc
      · exact kk
  | gt =>
    refine lv_if_gt hx hb hd ht (fun hc => ?_) (fun hc => ?_)
    · rcases h with ⟨hq, t', ht', rfl⟩ | ⟨hq, -⟩
      · rw [ht] at ht'
        cases ht'
        exact kk
      · exact absurd hc (by simpa [mm_holds] using hq)
    · rcases h with ⟨hq, -⟩ | ⟨-, rfl⟩
      · exact absurd (by simpa [mm_holds] using hq) hc
      · exact kk
  | le =>
    refine lv_if_le hx hb hd ht (fun hc => ?_) (fun hc => ?_)
    · rcases h with ⟨hq, t', ht', rfl⟩ | ⟨hq, -⟩
      · rw [ht] at ht'
        cases ht'
        exact kk
      · exact absurd hc (by simpa [mm_holds] using hq)
    · rcases h with ⟨hq, -⟩ | ⟨-, rfl⟩
      · exact absurd (by simpa [mm_holds] using hq) hc
      · exact kk

theorem mm_s_icmp (hx : p.tables.exec = Jvm.exec) (hb : c.code = cc) {q : ClassFile.Cond} {off : Int} (hj : mm_okJ pc off) (hd : decode cc pc = .ok (.if_icmp q off, 3)) (hI : mm_In G D cl A H0 nL c0 s0 a0 ls st w H locs cells slots L S) (h : mm_icmp q off pc ls st w = some (.inr F)) (k : mm_Kn p l e R s m args below meth c Q G D cl A H0 nL c0 s0 a0 F) : W p l e R s m args below meth c H locs cells slots Q (F0 m pc L S) := by
  unfold mm_icmp at h
  split at h
  case h_2 => cases h
  rename_i y x r
  have h := mm_bif_inv h
  obtain ⟨tgt, ht⟩ := hj
  obtain ⟨ws, lv, hP, hD, hS, hW, hL, hl, hn, hs, e1, e2⟩ := hI
  obtain ⟨_, _, rfl, hv, _, S', rfl, hu, hs⟩ := hs
  cases hv
  cases hu
  have kk : W p l e R s m args below meth c H locs cells slots Q (F0 m F.1 L S') := by
    have hF : F.2 = (ls, r, w) := by rcases h with ⟨-, t', -, rfl⟩ | ⟨-, rfl⟩ <;> rfl
    refine k _ _ _ _ _ _ ?_
    rw [hF]
    exact ⟨ws, lv, hP, hD, hS, hW, hL, hl, hn, hs, e1, e2⟩
  cases q with
  | eq =>
    refine lv_icmp_eq hx hb hd ht (fun hc => ?_) (fun hc => ?_)
    · rcases h with ⟨hq, t', ht', rfl⟩ | ⟨hq, -⟩
      · rw [ht] at ht'
        cases ht'
        exact kk
      · exact absurd hc (by simpa [mm_holds] using hq)
    · rcases h with ⟨hq, -⟩ | ⟨-, rfl⟩
      · exact absurd (by simpa [mm_holds] using hq) hc
      · exact kk
  | ne =>
    refine lv_icmp_ne hx hb hd ht (fun hc => ?_) (fun hc => ?_)
    · rcases h with ⟨hq, t', ht', rfl⟩ | ⟨hq, -⟩
      · rw [ht] at ht'
        cases ht'
        exact kk
      · exact absurd hc (by simpa [mm_holds] using hq)
    · rcases h with ⟨hq, -⟩ | ⟨-, rfl⟩
      · exact absurd hc (by simpa [mm_holds] using hq)
      · exact kk
  | lt =>
    refine lv_icmp_lt hx hb hd ht (fun hc => ?_) (fun hc => ?_)
    · rcases h with ⟨hq, t', ht', rfl⟩ | ⟨hq, -⟩
      · rw [ht] at ht'
        cases ht'
        exact kk
      · exact absurd hc (by simpa [mm_holds] using hq)
    · rcases h with ⟨hq, -⟩ | ⟨-, rfl⟩
      · exact absurd (by simpa [mm_holds] using hq) hc
      · exact kk
  | ge =>
    refine lv_icmp_ge hx hb hd ht (fun hc => ?_) (fun hc => ?_)
    · rcases h with ⟨hq, t', ht', rfl⟩ | ⟨hq, -⟩
      · rw [ht] at ht'
        cases ht'
        exact kk
      · exact absurd hc (by simpa [mm_holds] using hq)
    · rcases h with ⟨hq, -⟩ | ⟨-, rfl⟩
      · exact absurd (by simpa [mm_holds] using hq) hc
      · exact kk
  | gt =>
    refine lv_icmp_gt hx hb hd ht (fun hc => ?_) (fun hc => ?_)
    · rcases h with ⟨hq, t', ht', rfl⟩ | ⟨hq, -⟩
      · rw [ht] at ht'
        cases ht'
        exact kk
      · exact absurd hc (by simpa [mm_holds] using hq)
    · rcases h with ⟨hq, -⟩ | ⟨-, rfl⟩
      · exact absurd (by simpa [mm_holds] using hq) hc
      · exact kk
  | le =>
    refine lv_icmp_le hx hb hd ht (fun hc => ?_) (fun hc => ?_)
    · rcases h with ⟨hq, t', ht', rfl⟩ | ⟨hq, -⟩
      · rw [ht] at ht'
        cases ht'
        exact kk
      · exact absurd hc (by simpa [mm_holds] using hq)
    · rcases h with ⟨hq, -⟩ | ⟨-, rfl⟩
      · exact absurd (by simpa [mm_holds] using hq) hc
      · exact kk

theorem mm_s_ifn (hx : p.tables.exec = Jvm.exec) (hb : c.code = cc) {off : Int} (hd : decode cc pc = .ok (.ifnull off, 3)) (hI : mm_In G D cl A H0 nL c0 s0 a0 ls st w H locs cells slots L S) (h : mm_ifn true off pc ls st w = some (.inr F)) (k : mm_Kn p l e R s m args below meth c Q G D cl A H0 nL c0 s0 a0 F) : W p l e R s m args below meth c H locs cells slots Q (F0 m pc L S) := by
  unfold mm_ifn at h
  obtain ⟨ws, lv, hP, hD, hS, hW, hL, hl, hn, hs, e1, e2⟩ := hI
  split at h
  · obtain ⟨t, ht, rfl⟩ := mm_jp_inv h
    obtain ⟨_, S', rfl, hv, hs⟩ := hs
    cases hv
    exact lv_ifnullN hx hb hd ht (k _ _ _ _ _ _ ⟨ws, lv, hP, hD, hS, hW, hL, hl, hn, hs, e1, e2⟩)
  · cases h
    obtain ⟨_, S', rfl, ⟨a, -, rfl⟩, hs⟩ := hs
    exact lv_ifnull hx hb hd (k _ _ _ _ _ _ ⟨ws, lv, hP, hD, hS, hW, hL, hl, hn, hs, e1, e2⟩)
  · cases h
theorem mm_s_ifnn (hx : p.tables.exec = Jvm.exec) (hb : c.code = cc) {off : Int} (hd : decode cc pc = .ok (.ifnonnull off, 3)) (hI : mm_In G D cl A H0 nL c0 s0 a0 ls st w H locs cells slots L S) (h : mm_ifn false off pc ls st w = some (.inr F)) (k : mm_Kn p l e R s m args below meth c Q G D cl A H0 nL c0 s0 a0 F) : W p l e R s m args below meth c H locs cells slots Q (F0 m pc L S) := by
  unfold mm_ifn at h
  obtain ⟨ws, lv, hP, hD, hS, hW, hL, hl, hn, hs, e1, e2⟩ := hI
  split at h
  · cases h
    obtain ⟨_, S', rfl, hv, hs⟩ := hs
    cases hv
    exact lv_ifnonnullN hx hb hd (k _ _ _ _ _ _ ⟨ws, lv, hP, hD, hS, hW, hL, hl, hn, hs, e1, e2⟩)
  · obtain ⟨t, ht, rfl⟩ := mm_jp_inv h
    obtain ⟨_, S', rfl, ⟨a, -, rfl⟩, hs⟩ := hs
    exact lv_ifnonnull hx hb hd ht (k _ _ _ _ _ _ ⟨ws, lv, hP, hD, hS, hW, hL, hl, hn, hs, e1, e2⟩)
  · cases h
theorem mm_s_tsw (hx : p.tables.exec = Jvm.exec) (hb : c.code = cc) {d lo hi : Int} {offs : Array Int} {len : Nat} (hd : decode cc pc = .ok (.tableswitch d lo hi offs, len)) (hI : mm_In G D cl A H0 nL c0 s0 a0 ls st w H locs cells slots L S) (h : mm_tsw d lo hi offs pc ls st w = some (.inr F)) (k : mm_Kn p l e R s m args below meth c Q G D cl A H0 nL c0 s0 a0 F) : W p l e R s m args below meth c H locs cells slots Q (F0 m pc L S) := by
  unfold mm_tsw at h
  obtain ⟨ws, lv, hP, hD, hS, hW, hL, hl, hn, hs, e1, e2⟩ := hI
  split at h
  case h_2 => cases h
  obtain ⟨_, S', rfl, hv, hs⟩ := hs
  cases hv
  split at h
  · rename_i hc
    obtain ⟨t, ht, rfl⟩ := mm_jp_inv h
    exact lv_tableOut hx hb hd hc ht (k _ _ _ _ _ _ ⟨ws, lv, hP, hD, hS, hW, hL, hl, hn, hs, e1, e2⟩)
  · rename_i hc
    split at h
    · rename_i off ho
      obtain ⟨t, ht, rfl⟩ := mm_jp_inv h
      exact lv_tableIn hx hb hd (fun z => hc (Or.inl z)) (fun z => hc (Or.inr z)) ho ht (k _ _ _ _ _ _ ⟨ws, lv, hP, hD, hS, hW, hL, hl, hn, hs, e1, e2⟩)
    · cases h
theorem mm_s_lsw (hx : p.tables.exec = Jvm.exec) (hb : c.code = cc) {d : Int} {ps : Array (Int × Int)} {len : Nat} (hd : decode cc pc = .ok (.lookupswitch d ps, len)) (hI : mm_In G D cl A H0 nL c0 s0 a0 ls st w H locs cells slots L S) (h : mm_lsw d ps pc ls st w = some (.inr F)) (k : mm_Kn p l e R s m args below meth c Q G D cl A H0 nL c0 s0 a0 F) : W p l e R s m args below meth c H locs cells slots Q (F0 m pc L S) := by
  unfold mm_lsw at h
  obtain ⟨ws, lv, hP, hD, hS, hW, hL, hl, hn, hs, e1, e2⟩ := hI
  split at h
  case h_2 => cases h
  obtain ⟨_, S', rfl, hv, hs⟩ := hs
  cases hv
  split at h
  · rename_i hc
    obtain ⟨t, ht, rfl⟩ := mm_jp_inv h
    exact lv_lookup hx hb hd hc rfl ht (k _ _ _ _ _ _ ⟨ws, lv, hP, hD, hS, hW, hL, hl, hn, hs, e1, e2⟩)
  · cases h
end MMB
