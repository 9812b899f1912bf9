/-! what MM ends, the machine ends so -/
/-- how long an instruction is; of the switches nobody asks -/
def mm_ln : Instr → Option Nat
  | .iload _ => some 2
  | .lload _ => some 2
  | .aload _ => some 2
  | .istore _ => some 2
  | .lstore _ => some 2
  | .astore _ => some 2
  | .iinc _ _ => some 3
  | .bipush _ => some 2
  | .sipush _ => some 3
  | .ifCond _ _ => some 3
  | .if_icmp _ _ => some 3
  | .if_acmp _ _ => some 3
  | .ifnull _ => some 3
  | .ifnonnull _ => some 3
  | .goto _ => some 3
  | .tableswitch _ _ _ _ => none
  | .lookupswitch _ _ => none
  | .getfield _ => some 3
  | .putfield _ => some 3
  | .newarray _ => some 2
  | .anewarray _ => some 3
  | .new _ => some 3
  | .checkcast _ => some 3
  | .ldc _ => some 2
  | .ldc_w _ => some 3
  | .getstatic _ => some 3
  | .invokestatic _ => some 3
  | .invokevirtual _ => some 3
  | .invokespecial _ => some 3
  | _ => some 1
/-- what the tables say of one instruction of the method y -/
def mm_okI (Ts : List Cond) (P : mmP) (G : mmG) (cl : List vw_C) (X : mmX) (Mt : mmM) (y : MethodName) (ret : Option FieldType) (pc : Nat) (en : mmE) : Prop := match en with
  | (.ifCond _ off, _, _, _) => mm_okJ pc off
  | (.if_icmp _ off, _, _, _) => mm_okJ pc off
  | (.if_acmp _ off, _, _, _) => mm_okJ pc off
  | (.getfield i, a, b, _) => mm_okF Ts cl X.2.2.2 y.cls i a b
  | (.putfield i, a, b, t) => mm_okF Ts cl X.2.2.2 y.cls i a b ∧ ∀ r : vw_C, mm_cl cl X.2.2.2 a = some r → mm_fty t (r.2.1 b).2.2.1 ∧ ((r.2.1 b).2.2.2 = false ∨ (y.name = "<init>" ∧ (r.2.1 b).1 = y.cls ∧ ∃ ref, (ref = (r.2.1 b).1 ∨ Cond.sameField ref (r.2.1 b).1 (r.2.1 b).2.1 (r.2.1 b).2.2.1 ∈ Ts) ∧ Cond.fieldLink y.cls i ref (r.2.1 b).2.1 (r.2.1 b).2.2.1 ∈ Ts))
  | (.newarray at', t, _, _) => (∃ t0 : Nat, G.2.2.2[t0]? = some (G.2.1 t, mm_ty G t)) ∧ Cond.arrayClass (newarray.typeOf at') ∈ Ts ∧ ((t = 0 ∧ at' = .int) ∨ (t = 1 ∧ at' = .boolean) ∨ (t = 3 ∧ at' = .long))
  | (.anewarray i, t, _, _) => 4 ≤ t ∧ (∃ t0 : Nat, G.2.2.2[t0]? = some (G.2.1 t, G.2.2.1 t)) ∧ Cond.arrayOver (G.2.2.1 t) ∈ Ts ∧ Cond.classLink y.cls i (mm_nm (G.2.2.1 t)) ∈ Ts ∧ ((∃ C, G.2.2.1 t = .object C) ∨ ∃ T, G.2.2.1 t = .array T)
  | (.new i, a, _, _) => mm_okN Ts P cl y.cls i a
  | (.checkcast i, a, _, _) => ∃ r : vw_C, cl[a]? = some r ∧ Cond.classLink y.cls i r.1 ∈ Ts
  | (.ldc i, a, b, _) => (a = 0 ∧ Cond.constant y.cls i (Int32.ofNat b) ∈ Ts) ∨ (a = 1 ∧ ((∃ tx, (y.cls, i, tx, b) ∈ X.1) ∨ ∃ C, Cond.classLink y.cls i C ∈ Ts ∧ (C, b) ∈ X.2.1))
  | (.ldc_w i, a, b, _) => a = 0 ∧ Cond.constant y.cls i (Int32.ofNat b) ∈ Ts
  | (.getstatic i, a, b, _) => ∃ C n d, Cond.fieldLink y.cls i C n d ∈ Ts ∧ (C, n, d, a, b) ∈ X.2.2.1
  | (.invokestatic i, a, b, t) => (t = 1000 ∧ Cond.methodLink y.cls i arraycopyName ∈ Ts ∧ Cond.native arraycopyName ∈ Ts ∧ Cond.static arraycopyName ∈ Ts ∧ Cond.initialized "java/lang/System" ∈ Ts)
      ∨ (t = 1004 ∧ Cond.methodLink y.cls i Lib.Math.max.name ∈ Ts ∧ Cond.static Lib.Math.max.name ∈ Ts ∧ Cond.initialized "java/lang/Math" ∈ Ts ∧ Cond.code Lib.Math.max.name Lib.Math.max.code 2 (some .int) ∈ Ts)
      ∨ (t = 1005 ∧ Cond.methodLink y.cls i Lib.Math.min.name ∈ Ts ∧ Cond.static Lib.Math.min.name ∈ Ts ∧ Cond.initialized "java/lang/Math" ∈ Ts ∧ Cond.code Lib.Math.min.name Lib.Math.min.code 2 (some .int) ∈ Ts)
      ∨ (t = 0 ∧ mm_okM Ts P cl X.2.2.2 Mt y.cls i a b t)
  | (.invokevirtual i, a, b, t) => (t = 1001 ∧ ∃ C, 4 ≤ b ∧ G.2.2.1 b = .object C ∧ Cond.methodLink y.cls i mm_gcN ∈ Ts ∧ Cond.declares mm_gcN ∈ Ts ∧ Cond.selects ("[" ++ (FieldType.object C).toString) mm_gcN mm_gcN ∈ Ts ∧ Cond.instanceMethod mm_gcN ∈ Ts ∧ Cond.native mm_gcN ∈ Ts ∧ ("[" ++ (FieldType.object C).toString, a) ∈ X.2.1)
      ∨ (2 ≤ t ∧ t ≠ 1001 ∧ mm_okM Ts P cl X.2.2.2 Mt y.cls i a b t)
  | (.invokespecial i, a, b, t) => (t = 1003 ∧ Cond.methodLink y.cls i Lib.objectInit ∈ Ts ∧ Cond.instanceMethod Lib.objectInit ∈ Ts ∧ Cond.code Lib.objectInit ⟨#[0xb1]⟩ 1 none ∈ Ts)
      ∨ (t = 1 ∧ mm_okM Ts P cl X.2.2.2 Mt y.cls i a b t)
  | (.ireturn, 0, _, _) => ret = some .int
  | (.ireturn, 1, _, _) => ret = some .boolean
  | (.ireturn, 2, _, _) => ret = some .char
  | (.ireturn, 3, _, _) => ret = some .byte
  | (.lreturn, _, _, _) => ret = some .long
  | (.areturn, _, _, _) => ∃ rt, ret = some rt ∧ ((∃ n, rt = .object n) ∨ ∃ t, rt = .array t)
  | (.return_, _, _, _) => ret = none
  | _ => True
def mm_okD (bytes : ByteArray) (pc : Nat) (en : mmE) : Prop := match mm_ln en.1 with
  | some n => decode bytes pc = .ok (en.1, n)
  | none => ∃ n, decode bytes pc = .ok (en.1, n)
theorem mm_ret_no {t k : Nat} {st : List Value} {w : mmW} {F : mmF} (h : mm_ret t k st w = some (.inr F)) : False := by
  unfold mm_ret at h
  split at h
  · split at h <;> cases h
  · cases h
theorem mm_retc_no {st : List Value} {w : mmW} {F : mmF} (h : mm_retc st w = some (.inr F)) : False := by
  unfold mm_retc at h
  split at h
  · split at h <;> cases h
  · cases h
theorem mm_retb_no {st : List Value} {w : mmW} {F : mmF} (h : mm_retb st w = some (.inr F)) : False := by
  unfold mm_retb at h
  split at h
  · split at h <;> cases h
  · cases h
theorem mm_retv_no {st : List Value} {w : mmW} {F : mmF} (h : mm_retv st w = some (.inr F)) : False := by
  unfold mm_retv at h
  split at h <;> cases h
section MMS
variable {p : Program} {l : Launch} {e : Env} {R : Room} {s : State} {m : MethodId} {args : Array Value} {below : List Frame} {meth : Method} {c : Code} {Q : State → Prop}
variable {G : mmG} {D : va_G} {cl : List vw_C} {X : mmX} {B : Nat} {nL c0 s0 : Nat} {a0 : List Nat} {cc : ByteArray} {pc : Nat} {ls : mmL} {st : List Value} {w : mmW} {H : Heap} {locs : List Loc} {cells slots : Nat} {L : Array Slot} {S : List Value} {F : mmF} {P : mmP} {Ts : List Cond} {Mt : mmM} {y : MethodName} {ret : Option FieldType}
theorem mm_s_mx (hx : p.tables.exec = Jvm.exec) (hb : c.code = cc) (hml : c.maxLocals = nL) (hts : ∀ w ∈ Ts, w.before args s = true) (hown : s.vm.findClass y.cls = some m.cls) (hf : 1 ≤ R.frames) (hlo : 40 ≤ R.locals)
    {i t : Nat} {f : Int32 → Int32 → Int32} (ok : (f = mm_max ∧ Cond.methodLink y.cls i Lib.Math.max.name ∈ Ts ∧ Cond.static Lib.Math.max.name ∈ Ts ∧ Cond.initialized "java/lang/Math" ∈ Ts ∧ Cond.code Lib.Math.max.name Lib.Math.max.code 2 (some .int) ∈ Ts) ∨ (f = mm_min ∧ Cond.methodLink y.cls i Lib.Math.min.name ∈ Ts ∧ Cond.static Lib.Math.min.name ∈ Ts ∧ Cond.initialized "java/lang/Math" ∈ Ts ∧ Cond.code Lib.Math.min.name Lib.Math.min.code 2 (some .int) ∈ Ts))
    (hd : decode cc pc = .ok (.invokestatic i, 3)) (hI : mm_In G D cl (mm_A B) s.heap nL c0 s0 a0 ls st w H locs cells slots L S) (h : mm_mx f pc ls st w = some (.inr F)) (hR : F.2.2.2.2.1 ≤ R.cells + c0 ∧ F.2.2.2.2.2 ≤ R.slots + s0) (k : mm_Kn p l e R s m args below meth c Q G D cl (mm_A B) s.heap nL c0 s0 a0 F) : W p l e R s m args below meth c H locs cells slots Q (F0 m pc L S) := by
  unfold mm_mx at h
  split at h
  case h_2 => cases h
  split at h
  case isFalse => cases h
  rename_i hc
  cases h
  obtain ⟨ws, lv, hP, hD, hS, hW, hL, hl, hn, hs, e1, e2⟩ := hI
  obtain ⟨_, _, rfl, hv, _, S', rfl, hu, hs⟩ := hs
  cases hv
  cases hu
  have hcat := hs.cat
  unfold mm_cat at hcat hc
  simp only at hR
  rcases ok with ⟨rfl, o1, o2, o3, o4⟩ | ⟨rfl, o1, o2, o3, o4⟩
  · exact va_mmax hx hb (by rw [hml]; exact hL.1.symm) hown (hts _ o1) (hts _ o2) (hts _ o3) (hts _ o4) hf (by omega) (by omega) (by omega) hd (k _ _ _ _ _ _ ⟨ws, lv, hP, hD, hS, hW, hL, hl, hn, ⟨_, _, rfl, rfl, hs⟩, e1, e2⟩)
  · exact va_mmin hx hb (by rw [hml]; exact hL.1.symm) hown (hts _ o1) (hts _ o2) (hts _ o3) (hts _ o4) hf (by omega) (by omega) (by omega) hd (k _ _ _ _ _ _ ⟨ws, lv, hP, hD, hS, hW, hL, hl, hn, ⟨_, _, rfl, rfl, hs⟩, e1, e2⟩)
set_option maxHeartbeats 4000000 in
set_option maxRecDepth 100000 in
theorem mm_step {d : Nat} {call : Nat → List Value → mmW → Option mmO} (hx : p.tables.exec = Jvm.exec) (hb : c.code = cc) (hml : c.maxLocals = nL) (hts : ∀ w ∈ Ts, w.before args s = true) (hgood : ∀ w ∈ Ts, mm_good w = true) (hown : s.vm.findClass y.cls = some m.cls) (hnm : meth.name = y.name) (hGK : mm_GK P G D cl X B s) (hBs : B ≤ s.heap.size) (hO : ∀ j, j < 6 → ¬ mm_A B (G.1 j))
    (hC : ∀ r ∈ cl, mm_okC Ts r) (hE : mm_okE Ts P G cl) (ho3 : ∀ j vs, P.2.2.1 j ≠ some (.inl 3, vs)) (ho4 : ∀ j t vs, 4 ≤ t → P.2.2.1 j = some (.inl t, vs) → vs = [])
    (hcall : mm_CallOK l P G D cl X B Mt Ts d call) (hf : d + 1 ≤ R.frames) (hlo : 41 * d + 41 ≤ R.locals) {en : mmE} (ok : mm_okI Ts P G cl X Mt y ret pc en) (hd : mm_okD cc pc en)
    (hI : mm_In G D cl (mm_A B) s.heap nL c0 s0 a0 ls st w H locs cells slots L S) (h : mm1 P call en pc ls st w = some (.inr F)) (hR : F.2.2.2.2.1 ≤ R.cells + c0 ∧ F.2.2.2.2.2 ≤ R.slots + s0) (k : mm_Kn p l e R s m args below meth c Q G D cl (mm_A B) s.heap nL c0 s0 a0 F) : W p l e R s m args below meth c H locs cells slots Q (F0 m pc L S) := by
  have hK := hGK.1
  have hRR := hGK.2.1
  have hOR := hGK.2.2.1
  have hA : ∀ q, s.heap.size ≤ q → mm_A B q := fun q hq => Nat.le_trans hBs hq
  have hf1 : 1 ≤ R.frames := by omega
  have hlo1 : 40 ≤ R.locals := by omega
  obtain ⟨i, a, b, t⟩ := en
  cases i
  case iload i => exact mm_s_iload hx hb hd hI h k
  case iload_n i => exact mm_s_iload_n hx hb hd hI h k
  case lload i => exact mm_s_lload hx hb hd hI h k
  case lload_n i => exact mm_s_lload_n hx hb hd hI h k
  case aload i => exact mm_s_aload hx hb hd hI h k
  case aload_n i => exact mm_s_aload_n hx hb hd hI h k
  case istore i => exact mm_s_istore hx hb hd hI h k
  case istore_n i => exact mm_s_istore_n hx hb hd hI h k
  case astore i => exact mm_s_astore hx hb hd hI h k
  case astore_n i => exact mm_s_astore_n hx hb hd hI h k
  case lstore i => exact mm_s_lstore hx hb hd hI h k
  case lstore_n i => exact mm_s_lstore_n hx hb hd hI h k
  case iinc i n => exact mm_s_iinc hx hb hd hI h k
  case iconst n => exact mm_s_iconst hx hb hd hI h k
  case bipush n => exact mm_s_bipush hx hb hd hI h k
  case sipush n => exact mm_s_sipush hx hb hd hI h k
  case lconst n => exact mm_s_lconst hx hb hd hI h k
  case aconst_null => exact mm_s_aconst_null hx hb hd hI h k
  case iadd => exact mm_s_iadd hx hb hd hI h k
  case isub => exact mm_s_isub hx hb hd hI h k
  case imul => exact mm_s_imul hx hb hd hI h k
  case iand => exact mm_s_iand hx hb hd hI h k
  case ior => exact mm_s_ior hx hb hd hI h k
  case ishl => exact mm_s_ishl hx hb hd hI h k
  case ishr => exact mm_s_ishr hx hb hd hI h k
  case iushr => exact mm_s_iushr hx hb hd hI h k
  case idiv => exact mm_s_idiv hx hb hd hI h k
  case irem => exact mm_s_irem hx hb hd hI h k
  case ineg => exact mm_s_ineg hx hb hd hI h k
  case i2l => exact mm_s_i2l hx hb hd hI h k
  case i2c => exact mm_s_i2c hx hb hd hI h k
  case i2b => exact mm_s_i2b hx hb hd hI h k
  case ladd => exact mm_s_ladd hx hb hd hI h k
  case lor => exact mm_s_lor hx hb hd hI h k
  case lcmp => exact mm_s_lcmp hx hb hd hI h k
  case lshl => exact mm_s_lshl hx hb hd hI h k
  case pop => exact mm_s_pop hx hb hd hI h k
  case dup => exact mm_s_dup hx hb hd hI h k
  case dup_x1 => exact mm_s_dup_x1 hx hb hd hI h k
  case dup2 => exact mm_s_dup2 hx hb hd hI h k
  case ifCond q off => exact mm_s_if hx hb ok hd hI h k
  case if_icmp q off => exact mm_s_icmp hx hb ok hd hI h k
  case if_acmp q off => exact mm_s_acmp hx hb hO ok hd hI h k
  case ifnull off => exact mm_s_ifn hx hb hd hI h k
  case ifnonnull off => exact mm_s_ifnn hx hb hd hI h k
  case goto off => exact mm_s_goto hx hb hd hI h k
  case tableswitch d0 lo hi offs =>
    obtain ⟨n, hd⟩ := hd
    exact mm_s_tsw hx hb hd hI h k
  case lookupswitch d0 ps =>
    obtain ⟨n, hd⟩ := hd
    exact mm_s_lsw hx hb hd hI h k
  case getfield i => exact mm_s_get hx hb hts hown hK hC hOR ok hd hI h k
  case putfield i =>
    obtain ⟨o1, o2⟩ := ok
    exact mm_s_put hx hb hts hown hK hC o1 (fun r hr => ⟨(o2 r hr).1, (o2 r hr).2.imp id (fun q => ⟨hnm.trans q.1, q.2⟩)⟩) hd hI h k
  case iaload => exact mm_s_iald hx hb hK hOR hd hI h k
  case baload => exact mm_s_bald hx hb hK hOR hd hI h k
  case laload => exact mm_s_lald hx hb hK ho3 hd hI h k
  case aaload => exact mm_s_aald hx hb hK hE.1 ho4 hd hI h k
  case iastore => exact mm_s_iast hx hb hK hd hI h k
  case lastore => exact mm_s_last hx hb hK hd hI h k
  case bastore => exact mm_s_bast hx hb hK hd hI h k
  case aastore => exact mm_s_aast hx hb hts hK hRR hE hd hI h k
  case arraylength => exact mm_s_alen hx hb hK hOR hd hI h k
  case newarray at' => exact mm_s_newa hx hb hts hK hA ok hd hI h hR k
  case anewarray i => exact mm_s_anewa hx hb hts hown hK hA ok hd hI h hR k
  case new i => exact mm_s_new hx hb hts hown hK hA hC ok hd hI h hR k
  case checkcast i => exact mm_s_cast hx hb hts hown hK ok hd hI h k
  case ldc i =>
    refine mm_s_ldc hx hb hts hown ?_ hd hI h k
    rcases ok with ok | ⟨q1, ⟨tx, q2⟩ | ⟨C, q2, q3⟩⟩
    · exact Or.inl ok
    · exact Or.inr ⟨q1, Or.inl ⟨tx, hGK.2.2.2.1 _ q2⟩⟩
    · exact Or.inr ⟨q1, Or.inr ⟨C, q2, hGK.2.2.2.2.1 _ q3⟩⟩
  case ldc_w i => exact mm_s_ldcw hx hb hts hown ok hd hI h k
  case getstatic i =>
    obtain ⟨C, n, d0, q1, q2⟩ := ok
    exact mm_s_gets hx hb hts hown ⟨C, n, d0, q1, hGK.2.2.2.2.2 _ q2⟩ hd hI h k
  case invokestatic i =>
    rcases ok with ⟨rfl, ok⟩ | ⟨rfl, ok⟩ | ⟨rfl, ok⟩ | ⟨rfl, ok⟩
    · exact mm_s_acpy hx hb hml hts hown hK hRR hE hf1 hlo1 ok hd hI h k
    · exact mm_s_mx (t := 0) hx hb hml hts hown hf1 hlo1 (Or.inl ⟨rfl, ok⟩) hd hI h hR k
    · exact mm_s_mx (t := 0) hx hb hml hts hown hf1 hlo1 (Or.inr ⟨rfl, ok⟩) hd hI h hR k
    · exact mm_s_call hx hb hml hts hgood hown hGK hBs hcall hf hlo ok hd hI h hR k
  case invokevirtual i =>
    rcases ok with ⟨rfl, C, q1, q2, q3, q4, q5, q6, q7, q8⟩ | ⟨h2, h3, ok⟩
    · exact mm_s_getC (P := P) (a := a) hx hb hml hts hown hK hf1 hlo1 ⟨C, q1, q2, q3, q4, q5, q6, q7, hGK.2.2.2.2.1 _ q8⟩ hd hI h k
    · have h : mm_iv a b t pc P call ls st w = some (.inr F) := h
      unfold mm_iv at h
      rw [if_neg h3, if_pos h2] at h
      exact mm_s_call hx hb hml hts hgood hown hGK hBs hcall hf hlo ok (by rw [if_neg (show ¬ t = 0 by omega), if_neg (show ¬ t = 1 by omega)]; exact hd) hI h hR k
  case invokespecial i =>
    rcases ok with ⟨rfl, ok⟩ | ⟨rfl, ok⟩
    · exact mm_s_obj hx hb hml hts hown hf1 hlo1 ok hd hI h k
    · exact mm_s_call hx hb hml hts hgood hown hGK hBs hcall hf hlo ok hd hI h hR k
  case ireturn =>
    exfalso
    match a, h with
    | 0, h => exact mm_ret_no h
    | 1, h => exact mm_ret_no h
    | 2, h => exact mm_retc_no h
    | 3, h => exact mm_retb_no h
    | _ + 4, h => cases h
  case lreturn => exact (mm_ret_no h).elim
  case areturn => exact (mm_ret_no h).elim
  case return_ => exact (mm_retv_no h).elim
  all_goals exact absurd (show (none : mmR) = some (.inr F) from h) (by simp)
end MMS
