/-! what is made only grows; the loop; every method -/
def mm_le (w w' : mmW) : Prop := w.2.1 ≤ w'.2.1 ∧ w.2.2 ≤ w'.2.2
theorem mm_le.rf {w : mmW} : mm_le w w := ⟨Nat.le_refl _, Nat.le_refl _⟩
theorem mm_le.tr {a b c : mmW} (h : mm_le a b) (g : mm_le b c) : mm_le a c := ⟨Nat.le_trans h.1 g.1, Nat.le_trans h.2 g.2⟩
section MML
variable {P : mmP} {pc : Nat} {ls : mmL} {st : List Value} {w : mmW} {F : mmF}
theorem mm_ld_le {k i d : Nat} (h : mm_ld k i d pc ls st w = some (.inr F)) : mm_le w F.2.2.2 := by
  unfold mm_ld at h
  repeat' split at h
  all_goals cases h
  all_goals exact mm_le.rf
theorem mm_st_le {k i d : Nat} (h : mm_st k i d pc ls st w = some (.inr F)) : mm_le w F.2.2.2 := by
  unfold mm_st at h
  repeat' split at h
  all_goals cases h
  all_goals exact mm_le.rf
theorem mm_st2_le {i d : Nat} (h : mm_st2 i d pc ls st w = some (.inr F)) : mm_le w F.2.2.2 := by
  unfold mm_st2 at h
  repeat' split at h
  all_goals cases h
  all_goals exact mm_le.rf
theorem mm_iinc_le {i : Nat} {n : Int} (h : mm_iinc i n pc ls st w = some (.inr F)) : mm_le w F.2.2.2 := by
  unfold mm_iinc at h
  repeat' split at h
  all_goals cases h
  all_goals exact mm_le.rf
theorem mm_pu_le {v : Value} {d : Nat} (h : mm_pu v d pc ls st w = some (.inr F)) : mm_le w F.2.2.2 := by
  cases h
  exact mm_le.rf
theorem mm_un_le {f : Int32 → Value} (h : mm_un f pc ls st w = some (.inr F)) : mm_le w F.2.2.2 := by
  unfold mm_un at h
  repeat' split at h
  all_goals cases h
  all_goals exact mm_le.rf
theorem mm_bi_le {f : Int32 → Int32 → Int32} (h : mm_bi f pc ls st w = some (.inr F)) : mm_le w F.2.2.2 := by
  unfold mm_bi at h
  repeat' split at h
  all_goals cases h
  all_goals exact mm_le.rf
theorem mm_dv_le {f : Int32 → Int32 → Int32} (h : mm_dv f pc ls st w = some (.inr F)) : mm_le w F.2.2.2 := by
  unfold mm_dv at h
  repeat' split at h
  all_goals cases h
  all_goals exact mm_le.rf
theorem mm_bl_le {f : Int64 → Int64 → Value} (h : mm_bl f pc ls st w = some (.inr F)) : mm_le w F.2.2.2 := by
  unfold mm_bl at h
  repeat' split at h
  all_goals cases h
  all_goals exact mm_le.rf
theorem mm_sl_le {f : Int64 → Int32 → Int64} (h : mm_sl f pc ls st w = some (.inr F)) : mm_le w F.2.2.2 := by
  unfold mm_sl at h
  repeat' split at h
  all_goals cases h
  all_goals exact mm_le.rf
theorem mm_pop_le  (h : mm_pop  pc ls st w = some (.inr F)) : mm_le w F.2.2.2 := by
  unfold mm_pop at h
  repeat' split at h
  all_goals cases h
  all_goals exact mm_le.rf
theorem mm_dup_le  (h : mm_dup  pc ls st w = some (.inr F)) : mm_le w F.2.2.2 := by
  unfold mm_dup at h
  repeat' split at h
  all_goals cases h
  all_goals exact mm_le.rf
theorem mm_dupx_le  (h : mm_dupx  pc ls st w = some (.inr F)) : mm_le w F.2.2.2 := by
  unfold mm_dupx at h
  repeat' split at h
  all_goals cases h
  all_goals exact mm_le.rf
theorem mm_dup2_le  (h : mm_dup2  pc ls st w = some (.inr F)) : mm_le w F.2.2.2 := by
  unfold mm_dup2 at h
  repeat' split at h
  all_goals cases h
  all_goals exact mm_le.rf
theorem mm_jp_le {off : Int} (h : mm_jp pc off ls st w = some (.inr F)) : mm_le w F.2.2.2 := by
  unfold mm_jp at h
  split at h <;> cases h
  exact mm_le.rf
theorem mm_tsw_le {d lo hi : Int} {offs : Array Int} (h : mm_tsw d lo hi offs pc ls st w = some (.inr F)) : mm_le w F.2.2.2 := by
  unfold mm_tsw at h
  repeat' split at h
  all_goals first | exact mm_jp_le h | cases h
theorem mm_lsw_le {d : Int} {ps : Array (Int × Int)} (h : mm_lsw d ps pc ls st w = some (.inr F)) : mm_le w F.2.2.2 := by
  unfold mm_lsw at h
  repeat' split at h
  all_goals first | exact mm_jp_le h | cases h
theorem mm_get_le {a b : Nat} (h : mm_get P a b pc ls st w = some (.inr F)) : mm_le w F.2.2.2 := by
  unfold mm_get at h
  repeat' split at h
  all_goals cases h
  all_goals exact mm_le.rf
theorem mm_put_le {a b t : Nat} (h : mm_put a b t pc ls st w = some (.inr F)) : mm_le w F.2.2.2 := by
  unfold mm_put at h
  repeat' split at h
  all_goals cases h
  all_goals exact mm_le.rf
theorem mm_ald_le {q : Nat → Bool} (h : mm_ald q P pc ls st w = some (.inr F)) : mm_le w F.2.2.2 := by
  unfold mm_ald at h
  repeat' split at h
  all_goals cases h
  all_goals exact mm_le.rf
theorem mm_ast_le {t k : Nat} (h : mm_ast t k pc ls st w = some (.inr F)) : mm_le w F.2.2.2 := by
  unfold mm_ast at h
  repeat' split at h
  all_goals cases h
  all_goals exact mm_le.rf
theorem mm_bast_le  (h : mm_bast  pc ls st w = some (.inr F)) : mm_le w F.2.2.2 := by
  unfold mm_bast at h
  repeat' split at h
  all_goals cases h
  all_goals exact mm_le.rf
theorem mm_aast_le  (h : mm_aast P pc ls st w = some (.inr F)) : mm_le w F.2.2.2 := by
  unfold mm_aast at h
  repeat' split at h
  all_goals cases h
  all_goals exact mm_le.rf
theorem mm_alen_le  (h : mm_alen P pc ls st w = some (.inr F)) : mm_le w F.2.2.2 := by
  unfold mm_alen at h
  repeat' split at h
  all_goals cases h
  all_goals exact mm_le.rf
theorem mm_cast_le {a : Nat} (h : mm_cast a pc ls st w = some (.inr F)) : mm_le w F.2.2.2 := by
  unfold mm_cast at h
  repeat' split at h
  all_goals cases h
  all_goals exact mm_le.rf
theorem mm_ldc_le {a b d : Nat} (h : mm_ldc a b d pc ls st w = some (.inr F)) : mm_le w F.2.2.2 := by
  unfold mm_ldc at h
  repeat' split at h
  all_goals cases h
  all_goals exact mm_le.rf
theorem mm_acpy_le  (h : mm_acpy P pc ls st w = some (.inr F)) : mm_le w F.2.2.2 := by
  unfold mm_acpy at h
  repeat' split at h
  all_goals cases h
  all_goals exact mm_le.rf
theorem mm_getC_le {a t : Nat} (h : mm_getC P a t pc ls st w = some (.inr F)) : mm_le w F.2.2.2 := by
  unfold mm_getC at h
  repeat' split at h
  all_goals cases h
  all_goals exact mm_le.rf
theorem mm_obj_le  (h : mm_obj  pc ls st w = some (.inr F)) : mm_le w F.2.2.2 := by
  unfold mm_obj at h
  repeat' split at h
  all_goals cases h
  all_goals exact mm_le.rf
theorem mm_mx_le {f : Int32 → Int32 → Int32} (h : mm_mx f pc ls st w = some (.inr F)) : mm_le w F.2.2.2 := by
  unfold mm_mx at h
  repeat' split at h
  all_goals cases h
  all_goals exact mm_le.rf
theorem mm_bif_le {q : Bool} {off : Int} {r : List Value} (h : (bif q then mm_jp pc off ls r w else mm_nx (pc + 3) ls r w) = some (.inr F)) : mm_le w F.2.2.2 := by
  cases q with
  | true => exact mm_jp_le h
  | false => cases h; exact mm_le.rf
theorem mm_if_le {q : ClassFile.Cond} {off : Int} (h : mm_if q off pc ls st w = some (.inr F)) : mm_le w F.2.2.2 := by
  unfold mm_if at h
  split at h
  · exact mm_bif_le h
  · cases h
theorem mm_icmp_le {q : ClassFile.Cond} {off : Int} (h : mm_icmp q off pc ls st w = some (.inr F)) : mm_le w F.2.2.2 := by
  unfold mm_icmp at h
  split at h
  · exact mm_bif_le h
  · cases h
theorem mm_acmp_le {q : ACond} {off : Int} (h : mm_acmp q off pc ls st w = some (.inr F)) : mm_le w F.2.2.2 := by
  unfold mm_acmp at h
  split at h
  · split at h
    · exact mm_bif_le h
    · cases h
  · cases h
theorem mm_ifn_le {q : Bool} {off : Int} (h : mm_ifn q off pc ls st w = some (.inr F)) : mm_le w F.2.2.2 := by
  unfold mm_ifn at h
  split at h
  · exact mm_bif_le h
  · cases q with
    | true => cases h; exact mm_le.rf
    | false => exact mm_jp_le h
  · cases h
theorem mm_newa_le {t d : Nat} (h : mm_newa t d pc ls st w = some (.inr F)) : mm_le w F.2.2.2 := by
  unfold mm_newa at h
  split at h
  · split at h
    · cases h
      exact ⟨Nat.le_add_right _ _, Nat.le_add_right _ _⟩
    · cases h
  · cases h
theorem mm_new_le {a : Nat} (h : mm_new P a pc ls st w = some (.inr F)) : mm_le w F.2.2.2 := by
  unfold mm_new at h
  split at h
  · cases h
    exact ⟨Nat.le_add_right _ _, Nat.le_add_right _ _⟩
  · cases h
theorem mm_call_le {call : Nat → List Value → mmW → Option mmO} (hc : ∀ a as w v w', call a as w = some (v, w') → mm_le w w') {a b t : Nat} (h : mm_call P call a b t pc ls st w = some (.inr F)) : mm_le w F.2.2.2 := by
  unfold mm_call at h
  split at h
  · split at h
    · rename_i v w' hq
      cases h
      exact hc _ _ _ _ _ hq
    · cases h
  · cases h
set_option maxHeartbeats 4000000 in
theorem mm1_le {call : Nat → List Value → mmW → Option mmO} (hc : ∀ a as w v w', call a as w = some (v, w') → mm_le w w') {en : mmE} (h : mm1 P call en pc ls st w = some (.inr F)) : mm_le w F.2.2.2 := by
  obtain ⟨i, a, b, t⟩ := en
  cases i
  case iload i => exact mm_ld_le h
  case iload_n i => exact mm_ld_le h
  case lload i => exact mm_ld_le h
  case lload_n i => exact mm_ld_le h
  case aload i => exact mm_ld_le h
  case aload_n i => exact mm_ld_le h
  case istore i => exact mm_st_le h
  case istore_n i => exact mm_st_le h
  case astore i => exact mm_st_le h
  case astore_n i => exact mm_st_le h
  case lstore i => exact mm_st2_le h
  case lstore_n i => exact mm_st2_le h
  case iinc i n => exact mm_iinc_le h
  case iconst n => exact mm_pu_le h
  case bipush n => exact mm_pu_le h
  case sipush n => exact mm_pu_le h
  case lconst n => exact mm_pu_le h
  case aconst_null => exact mm_pu_le h
  case iadd => exact mm_bi_le h
  case isub => exact mm_bi_le h
  case imul => exact mm_bi_le h
  case iand => exact mm_bi_le h
  case ior => exact mm_bi_le h
  case ishl => exact mm_bi_le h
  case ishr => exact mm_bi_le h
  case iushr => exact mm_bi_le h
  case idiv => exact mm_dv_le h
  case irem => exact mm_dv_le h
  case ineg => exact mm_un_le h
  case i2l => exact mm_un_le h
  case i2c => exact mm_un_le h
  case i2b => exact mm_un_le h
  case ladd => exact mm_bl_le h
  case lor => exact mm_bl_le h
  case lcmp => exact mm_bl_le h
  case lshl => exact mm_sl_le h
  case pop => exact mm_pop_le h
  case dup => exact mm_dup_le h
  case dup_x1 => exact mm_dupx_le h
  case dup2 => exact mm_dup2_le h
  case ifCond q off => exact mm_if_le h
  case if_icmp q off => exact mm_icmp_le h
  case if_acmp q off => exact mm_acmp_le h
  case ifnull off => exact mm_ifn_le h
  case ifnonnull off => exact mm_ifn_le h
  case goto off => exact mm_jp_le h
  case tableswitch d lo hi offs => exact mm_tsw_le h
  case lookupswitch d ps => exact mm_lsw_le h
  case getfield i => exact mm_get_le h
  case putfield i => exact mm_put_le h
  case iaload => exact mm_ald_le h
  case baload => exact mm_ald_le h
  case laload => exact mm_ald_le h
  case aaload => exact mm_ald_le h
  case iastore => exact mm_ast_le h
  case lastore => exact mm_ast_le h
  case bastore => exact mm_bast_le h
  case aastore => exact mm_aast_le h
  case arraylength => exact mm_alen_le h
  case newarray q => exact mm_newa_le h
  case anewarray i => exact mm_newa_le h
  case new i => exact mm_new_le h
  case checkcast i => exact mm_cast_le h
  case ldc i => exact mm_ldc_le h
  case ldc_w i => exact mm_ldc_le h
  case getstatic i => exact mm_ldc_le h
  case invokestatic i =>
    have h : mm_is a b t pc P call ls st w = some (.inr F) := h
    unfold mm_is at h
    split at h
    · exact mm_acpy_le h
    · split at h
      · exact mm_mx_le h
      · split at h
        · exact mm_mx_le h
        · split at h
          · exact mm_call_le hc h
          · cases h
  case invokevirtual i =>
    have h : mm_iv a b t pc P call ls st w = some (.inr F) := h
    unfold mm_iv at h
    split at h
    · exact mm_getC_le h
    · split at h
      · exact mm_call_le hc h
      · cases h
  case invokespecial i =>
    have h : mm_ip a b t pc P call ls st w = some (.inr F) := h
    unfold mm_ip at h
    split at h
    · exact mm_obj_le h
    · split at h
      · exact mm_call_le hc h
      · cases h
  case ireturn =>
    exfalso
    match a, h with
    | 0, h => exact mm_ret_no h
    | 1, h => exact mm_ret_no h
    | 2, h => exact mm_retc_no h
    | 3, h => exact mm_retb_no h
    | _ + 4, h => cases h
  case lreturn => exact (mm_ret_no h).elim
  case areturn => exact (mm_ret_no h).elim
  case return_ => exact (mm_retv_no h).elim
  all_goals exact absurd (show (none : mmR) = some (.inr F) from h) (by simp)
theorem mm_nx_inl {o : mmO} {pc' : Nat} {ls' : mmL} {st' : List Value} {w' : mmW} (h : mm_nx pc' ls' st' w' = some (.inl o)) : False := by cases h
theorem mm_jp_inl {o : mmO} {off : Int} (h : mm_jp pc off ls st w = some (.inl o)) : False := by
  unfold mm_jp at h
  split at h <;> cases h
theorem mm_bif_inl {o : mmO} {q : Bool} {off : Int} {r : List Value} (h : (bif q then mm_jp pc off ls r w else mm_nx (pc + 3) ls r w) = some (.inl o)) : False := by
  cases q with
  | true => exact mm_jp_inl h
  | false => cases h
/-- a return's sort: of which code, and what stands on the stack -/
def mm_rt (a : Nat) (i : Instr) (st : List Value) (v : Option Value) : Prop :=
  (i = .ireturn ∧ ∃ x, st = [.int x] ∧ v = some (.int x) ∧ ((a = 0) ∨ (a = 1 ∧ narrow .boolean (.int x) = .int x) ∨ (a = 2 ∧ narrow .char (.int x) = .int x) ∨ (a = 3 ∧ narrow .byte (.int x) = .int x)))
  ∨ (i = .lreturn ∧ ∃ x, st = [.long x] ∧ v = some (.long x))
  ∨ (i = .areturn ∧ ∃ x, st = [x] ∧ v = some x ∧ mm_kd x = 2)
  ∨ (i = .return_ ∧ st = [] ∧ v = none)
theorem mm_ret_inl {t k : Nat} {o : mmO} (h : mm_ret t k st w = some (.inl o)) : ∃ x, st = [x] ∧ mm_kd x = k ∧ mm_fit t x = true ∧ o = (some x, w) := by
  unfold mm_ret at h
  split at h
  · rename_i x
    split at h
    · rename_i hq
      cases h
      exact ⟨x, rfl, hq.1, hq.2, rfl⟩
    · cases h
  · cases h
set_option maxHeartbeats 4000000 in
theorem mm1_inl {call : Nat → List Value → mmW → Option mmO} {en : mmE} {o : mmO} (h : mm1 P call en pc ls st w = some (.inl o)) : o.2 = w ∧ mm_rt en.2.1 en.1 st o.1 := by
  obtain ⟨i, a, b, t⟩ := en
  cases i
  case ireturn =>
    match a, h with
    | 0, h =>
      obtain ⟨x, rfl, hk, hf, rfl⟩ := mm_ret_inl h
      cases x <;> simp [mm_kd] at hk
      exact ⟨rfl, Or.inl ⟨rfl, _, rfl, rfl, Or.inl rfl⟩⟩
    | 1, h =>
      obtain ⟨x, rfl, hk, hf, rfl⟩ := mm_ret_inl h
      cases x <;> simp [mm_kd] at hk
      simp [mm_fit] at hf
      exact ⟨rfl, Or.inl ⟨rfl, _, rfl, rfl, Or.inr (Or.inl ⟨rfl, by rcases hf with rfl | rfl <;> decide⟩)⟩⟩
    | 2, h =>
      have h : mm_retc st w = some (.inl o) := h
      unfold mm_retc at h
      split at h
      · split at h
        · rename_i hq
          cases h
          exact ⟨rfl, Or.inl ⟨rfl, _, rfl, rfl, Or.inr (Or.inr (Or.inl ⟨rfl, hq⟩))⟩⟩
        · cases h
      · cases h
    | 3, h =>
      have h : mm_retb st w = some (.inl o) := h
      unfold mm_retb at h
      split at h
      · split at h
        · rename_i hq
          cases h
          exact ⟨rfl, Or.inl ⟨rfl, _, rfl, rfl, Or.inr (Or.inr (Or.inr ⟨rfl, hq⟩))⟩⟩
        · cases h
      · cases h
    | _ + 4, h => cases h
  case lreturn =>
    obtain ⟨x, rfl, hk, hf, rfl⟩ := mm_ret_inl (show mm_ret 3 1 st w = _ from h)
    cases x <;> simp [mm_kd] at hk
    exact ⟨rfl, Or.inr (Or.inl ⟨rfl, _, rfl, rfl⟩)⟩
  case areturn =>
    obtain ⟨x, rfl, hk, hf, rfl⟩ := mm_ret_inl (show mm_ret 2 2 st w = _ from h)
    exact ⟨rfl, Or.inr (Or.inr (Or.inl ⟨rfl, _, rfl, rfl, hk⟩))⟩
  case return_ =>
    have h : mm_retv st w = some (.inl o) := h
    unfold mm_retv at h
    split at h
    · cases h
      exact ⟨rfl, Or.inr (Or.inr (Or.inr ⟨rfl, rfl, rfl⟩))⟩
    · cases h
  all_goals exfalso
  case iload i =>
    have h : mm_ld 0 i 2 pc ls st w = some (.inl o) := h
    unfold mm_ld at h
    repeat' split at h
    all_goals first | exact mm_nx_inl h | exact mm_jp_inl h | exact mm_bif_inl h | cases h
  case iload_n i =>
    have h : mm_ld 0 i 1 pc ls st w = some (.inl o) := h
    unfold mm_ld at h
    repeat' split at h
    all_goals first | exact mm_nx_inl h | exact mm_jp_inl h | exact mm_bif_inl h | cases h
  case lload i =>
    have h : mm_ld 1 i 2 pc ls st w = some (.inl o) := h
    unfold mm_ld at h
    repeat' split at h
    all_goals first | exact mm_nx_inl h | exact mm_jp_inl h | exact mm_bif_inl h | cases h
  case lload_n i =>
    have h : mm_ld 1 i 1 pc ls st w = some (.inl o) := h
    unfold mm_ld at h
    repeat' split at h
    all_goals first | exact mm_nx_inl h | exact mm_jp_inl h | exact mm_bif_inl h | cases h
  case aload i =>
    have h : mm_ld 2 i 2 pc ls st w = some (.inl o) := h
    unfold mm_ld at h
    repeat' split at h
    all_goals first | exact mm_nx_inl h | exact mm_jp_inl h | exact mm_bif_inl h | cases h
  case aload_n i =>
    have h : mm_ld 2 i 1 pc ls st w = some (.inl o) := h
    unfold mm_ld at h
    repeat' split at h
    all_goals first | exact mm_nx_inl h | exact mm_jp_inl h | exact mm_bif_inl h | cases h
  case istore i =>
    have h : mm_st 0 i 2 pc ls st w = some (.inl o) := h
    unfold mm_st at h
    repeat' split at h
    all_goals first | exact mm_nx_inl h | exact mm_jp_inl h | exact mm_bif_inl h | cases h
  case istore_n i =>
    have h : mm_st 0 i 1 pc ls st w = some (.inl o) := h
    unfold mm_st at h
    repeat' split at h
    all_goals first | exact mm_nx_inl h | exact mm_jp_inl h | exact mm_bif_inl h | cases h
  case astore i =>
    have h : mm_st 2 i 2 pc ls st w = some (.inl o) := h
    unfold mm_st at h
    repeat' split at h
    all_goals first | exact mm_nx_inl h | exact mm_jp_inl h | exact mm_bif_inl h | cases h
  case astore_n i =>
    have h : mm_st 2 i 1 pc ls st w = some (.inl o) := h
    unfold mm_st at h
    repeat' split at h
    all_goals first | exact mm_nx_inl h | exact mm_jp_inl h | exact mm_bif_inl h | cases h
  case lstore i =>
    have h : mm_st2 i 2 pc ls st w = some (.inl o) := h
    unfold mm_st2 at h
    repeat' split at h
    all_goals first | exact mm_nx_inl h | exact mm_jp_inl h | exact mm_bif_inl h | cases h
  case lstore_n i =>
    have h : mm_st2 i 1 pc ls st w = some (.inl o) := h
    unfold mm_st2 at h
    repeat' split at h
    all_goals first | exact mm_nx_inl h | exact mm_jp_inl h | exact mm_bif_inl h | cases h
  case iinc i n =>
    have h : mm_iinc i n pc ls st w = some (.inl o) := h
    unfold mm_iinc at h
    repeat' split at h
    all_goals first | exact mm_nx_inl h | exact mm_jp_inl h | exact mm_bif_inl h | cases h
  case iconst n =>
    have h : mm_pu _ 1 pc ls st w = some (.inl o) := h
    unfold mm_pu at h
    repeat' split at h
    all_goals first | exact mm_nx_inl h | exact mm_jp_inl h | exact mm_bif_inl h | cases h
  case bipush n =>
    have h : mm_pu _ 2 pc ls st w = some (.inl o) := h
    unfold mm_pu at h
    repeat' split at h
    all_goals first | exact mm_nx_inl h | exact mm_jp_inl h | exact mm_bif_inl h | cases h
  case sipush n =>
    have h : mm_pu _ 3 pc ls st w = some (.inl o) := h
    unfold mm_pu at h
    repeat' split at h
    all_goals first | exact mm_nx_inl h | exact mm_jp_inl h | exact mm_bif_inl h | cases h
  case lconst n =>
    have h : mm_pu _ 1 pc ls st w = some (.inl o) := h
    unfold mm_pu at h
    repeat' split at h
    all_goals first | exact mm_nx_inl h | exact mm_jp_inl h | exact mm_bif_inl h | cases h
  case aconst_null =>
    have h : mm_pu _ 1 pc ls st w = some (.inl o) := h
    unfold mm_pu at h
    repeat' split at h
    all_goals first | exact mm_nx_inl h | exact mm_jp_inl h | exact mm_bif_inl h | cases h
  case iadd =>
    have h : mm_bi _ pc ls st w = some (.inl o) := h
    unfold mm_bi at h
    repeat' split at h
    all_goals first | exact mm_nx_inl h | exact mm_jp_inl h | exact mm_bif_inl h | cases h
  case isub =>
    have h : mm_bi _ pc ls st w = some (.inl o) := h
    unfold mm_bi at h
    repeat' split at h
    all_goals first | exact mm_nx_inl h | exact mm_jp_inl h | exact mm_bif_inl h | cases h
  case imul =>
    have h : mm_bi _ pc ls st w = some (.inl o) := h
    unfold mm_bi at h
    repeat' split at h
    all_goals first | exact mm_nx_inl h | exact mm_jp_inl h | exact mm_bif_inl h | cases h
  case iand =>
    have h : mm_bi _ pc ls st w = some (.inl o) := h
    unfold mm_bi at h
    repeat' split at h
    all_goals first | exact mm_nx_inl h | exact mm_jp_inl h | exact mm_bif_inl h | cases h
  case ior =>
    have h : mm_bi _ pc ls st w = some (.inl o) := h
    unfold mm_bi at h
    repeat' split at h
    all_goals first | exact mm_nx_inl h | exact mm_jp_inl h | exact mm_bif_inl h | cases h
  case ishl =>
    have h : mm_bi _ pc ls st w = some (.inl o) := h
    unfold mm_bi at h
    repeat' split at h
    all_goals first | exact mm_nx_inl h | exact mm_jp_inl h | exact mm_bif_inl h | cases h
  case ishr =>
    have h : mm_bi _ pc ls st w = some (.inl o) := h
    unfold mm_bi at h
    repeat' split at h
    all_goals first | exact mm_nx_inl h | exact mm_jp_inl h | exact mm_bif_inl h | cases h
  case iushr =>
    have h : mm_bi _ pc ls st w = some (.inl o) := h
    unfold mm_bi at h
    repeat' split at h
    all_goals first | exact mm_nx_inl h | exact mm_jp_inl h | exact mm_bif_inl h | cases h
  case idiv =>
    have h : mm_dv _ pc ls st w = some (.inl o) := h
    unfold mm_dv at h
    repeat' split at h
    all_goals first | exact mm_nx_inl h | exact mm_jp_inl h | exact mm_bif_inl h | cases h
  case irem =>
    have h : mm_dv _ pc ls st w = some (.inl o) := h
    unfold mm_dv at h
    repeat' split at h
    all_goals first | exact mm_nx_inl h | exact mm_jp_inl h | exact mm_bif_inl h | cases h
  case ineg =>
    have h : mm_un _ pc ls st w = some (.inl o) := h
    unfold mm_un at h
    repeat' split at h
    all_goals first | exact mm_nx_inl h | exact mm_jp_inl h | exact mm_bif_inl h | cases h
  case i2l =>
    have h : mm_un _ pc ls st w = some (.inl o) := h
    unfold mm_un at h
    repeat' split at h
    all_goals first | exact mm_nx_inl h | exact mm_jp_inl h | exact mm_bif_inl h | cases h
  case i2c =>
    have h : mm_un _ pc ls st w = some (.inl o) := h
    unfold mm_un at h
    repeat' split at h
    all_goals first | exact mm_nx_inl h | exact mm_jp_inl h | exact mm_bif_inl h | cases h
  case i2b =>
    have h : mm_un _ pc ls st w = some (.inl o) := h
    unfold mm_un at h
    repeat' split at h
    all_goals first | exact mm_nx_inl h | exact mm_jp_inl h | exact mm_bif_inl h | cases h
  case ladd =>
    have h : mm_bl _ pc ls st w = some (.inl o) := h
    unfold mm_bl at h
    repeat' split at h
    all_goals first | exact mm_nx_inl h | exact mm_jp_inl h | exact mm_bif_inl h | cases h
  case lor =>
    have h : mm_bl _ pc ls st w = some (.inl o) := h
    unfold mm_bl at h
    repeat' split at h
    all_goals first | exact mm_nx_inl h | exact mm_jp_inl h | exact mm_bif_inl h | cases h
  case lcmp =>
    have h : mm_bl _ pc ls st w = some (.inl o) := h
    unfold mm_bl at h
    repeat' split at h
    all_goals first | exact mm_nx_inl h | exact mm_jp_inl h | exact mm_bif_inl h | cases h
  case lshl =>
    have h : mm_sl _ pc ls st w = some (.inl o) := h
    unfold mm_sl at h
    repeat' split at h
    all_goals first | exact mm_nx_inl h | exact mm_jp_inl h | exact mm_bif_inl h | cases h
  case pop =>
    have h : mm_pop pc ls st w = some (.inl o) := h
    unfold mm_pop at h
    repeat' split at h
    all_goals first | exact mm_nx_inl h | exact mm_jp_inl h | exact mm_bif_inl h | cases h
  case dup =>
    have h : mm_dup pc ls st w = some (.inl o) := h
    unfold mm_dup at h
    repeat' split at h
    all_goals first | exact mm_nx_inl h | exact mm_jp_inl h | exact mm_bif_inl h | cases h
  case dup_x1 =>
    have h : mm_dupx pc ls st w = some (.inl o) := h
    unfold mm_dupx at h
    repeat' split at h
    all_goals first | exact mm_nx_inl h | exact mm_jp_inl h | exact mm_bif_inl h | cases h
  case dup2 =>
    have h : mm_dup2 pc ls st w = some (.inl o) := h
    unfold mm_dup2 at h
    repeat' split at h
    all_goals first | exact mm_nx_inl h | exact mm_jp_inl h | exact mm_bif_inl h | cases h
  case ifCond q off =>
    have h : mm_if q off pc ls st w = some (.inl o) := h
    unfold mm_if at h
    repeat' split at h
    all_goals first | exact mm_nx_inl h | exact mm_jp_inl h | exact mm_bif_inl h | cases h
  case if_icmp q off =>
    have h : mm_icmp q off pc ls st w = some (.inl o) := h
    unfold mm_icmp at h
    repeat' split at h
    all_goals first | exact mm_nx_inl h | exact mm_jp_inl h | exact mm_bif_inl h | cases h
  case if_acmp q off =>
    have h : mm_acmp q off pc ls st w = some (.inl o) := h
    unfold mm_acmp at h
    repeat' split at h
    all_goals first | exact mm_nx_inl h | exact mm_jp_inl h | exact mm_bif_inl h | cases h
  case ifnull off =>
    have h : mm_ifn true off pc ls st w = some (.inl o) := h
    unfold mm_ifn at h
    repeat' split at h
    all_goals first | exact mm_nx_inl h | exact mm_jp_inl h | exact mm_bif_inl h | cases h
  case ifnonnull off =>
    have h : mm_ifn false off pc ls st w = some (.inl o) := h
    unfold mm_ifn at h
    repeat' split at h
    all_goals first | exact mm_nx_inl h | exact mm_jp_inl h | exact mm_bif_inl h | cases h
  case goto off => exact mm_jp_inl h
  case tableswitch d lo hi offs =>
    have h : mm_tsw d lo hi offs pc ls st w = some (.inl o) := h
    unfold mm_tsw at h
    repeat' split at h
    all_goals first | exact mm_nx_inl h | exact mm_jp_inl h | exact mm_bif_inl h | cases h
  case lookupswitch d ps =>
    have h : mm_lsw d ps pc ls st w = some (.inl o) := h
    unfold mm_lsw at h
    repeat' split at h
    all_goals first | exact mm_nx_inl h | exact mm_jp_inl h | exact mm_bif_inl h | cases h
  case getfield i =>
    have h : mm_get P a b pc ls st w = some (.inl o) := h
    unfold mm_get at h
    repeat' split at h
    all_goals first | exact mm_nx_inl h | exact mm_jp_inl h | exact mm_bif_inl h | cases h
  case putfield i =>
    have h : mm_put a b t pc ls st w = some (.inl o) := h
    unfold mm_put at h
    repeat' split at h
    all_goals first | exact mm_nx_inl h | exact mm_jp_inl h | exact mm_bif_inl h | cases h
  case iaload =>
    have h : mm_ald _ P pc ls st w = some (.inl o) := h
    unfold mm_ald at h
    repeat' split at h
    all_goals first | exact mm_nx_inl h | exact mm_jp_inl h | exact mm_bif_inl h | cases h
  case baload =>
    have h : mm_ald _ P pc ls st w = some (.inl o) := h
    unfold mm_ald at h
    repeat' split at h
    all_goals first | exact mm_nx_inl h | exact mm_jp_inl h | exact mm_bif_inl h | cases h
  case laload =>
    have h : mm_ald _ P pc ls st w = some (.inl o) := h
    unfold mm_ald at h
    repeat' split at h
    all_goals first | exact mm_nx_inl h | exact mm_jp_inl h | exact mm_bif_inl h | cases h
  case aaload =>
    have h : mm_ald _ P pc ls st w = some (.inl o) := h
    unfold mm_ald at h
    repeat' split at h
    all_goals first | exact mm_nx_inl h | exact mm_jp_inl h | exact mm_bif_inl h | cases h
  case iastore =>
    have h : mm_ast 0 0 pc ls st w = some (.inl o) := h
    unfold mm_ast at h
    repeat' split at h
    all_goals first | exact mm_nx_inl h | exact mm_jp_inl h | exact mm_bif_inl h | cases h
  case lastore =>
    have h : mm_ast 3 1 pc ls st w = some (.inl o) := h
    unfold mm_ast at h
    repeat' split at h
    all_goals first | exact mm_nx_inl h | exact mm_jp_inl h | exact mm_bif_inl h | cases h
  case bastore =>
    have h : mm_bast pc ls st w = some (.inl o) := h
    unfold mm_bast at h
    repeat' split at h
    all_goals first | exact mm_nx_inl h | exact mm_jp_inl h | exact mm_bif_inl h | cases h
  case aastore =>
    have h : mm_aast P pc ls st w = some (.inl o) := h
    unfold mm_aast at h
    repeat' split at h
    all_goals first | exact mm_nx_inl h | exact mm_jp_inl h | exact mm_bif_inl h | cases h
  case arraylength =>
    have h : mm_alen P pc ls st w = some (.inl o) := h
    unfold mm_alen at h
    repeat' split at h
    all_goals first | exact mm_nx_inl h | exact mm_jp_inl h | exact mm_bif_inl h | cases h
  case newarray q =>
    have h : mm_newa a 2 pc ls st w = some (.inl o) := h
    unfold mm_newa at h
    repeat' split at h
    all_goals first | exact mm_nx_inl h | exact mm_jp_inl h | exact mm_bif_inl h | cases h
  case anewarray i =>
    have h : mm_newa a 3 pc ls st w = some (.inl o) := h
    unfold mm_newa at h
    repeat' split at h
    all_goals first | exact mm_nx_inl h | exact mm_jp_inl h | exact mm_bif_inl h | cases h
  case new i =>
    have h : mm_new P a pc ls st w = some (.inl o) := h
    unfold mm_new at h
    repeat' split at h
    all_goals first | exact mm_nx_inl h | exact mm_jp_inl h | exact mm_bif_inl h | cases h
  case checkcast i =>
    have h : mm_cast a pc ls st w = some (.inl o) := h
    unfold mm_cast at h
    repeat' split at h
    all_goals first | exact mm_nx_inl h | exact mm_jp_inl h | exact mm_bif_inl h | cases h
  case ldc i =>
    have h : mm_ldc a b 2 pc ls st w = some (.inl o) := h
    unfold mm_ldc at h
    repeat' split at h
    all_goals first | exact mm_nx_inl h | exact mm_jp_inl h | exact mm_bif_inl h | cases h
  case ldc_w i =>
    have h : mm_ldc a b 3 pc ls st w = some (.inl o) := h
    unfold mm_ldc at h
    repeat' split at h
    all_goals first | exact mm_nx_inl h | exact mm_jp_inl h | exact mm_bif_inl h | cases h
  case getstatic i =>
    have h : mm_ldc a b 3 pc ls st w = some (.inl o) := h
    unfold mm_ldc at h
    repeat' split at h
    all_goals first | exact mm_nx_inl h | exact mm_jp_inl h | exact mm_bif_inl h | cases h
  case invokestatic i =>
    have h : mm_is a b t pc P call ls st w = some (.inl o) := h
    unfold mm_is mm_acpy mm_mx mm_call at h
    repeat' split at h
    all_goals first | exact mm_nx_inl h | cases h
  case invokevirtual i =>
    have h : mm_iv a b t pc P call ls st w = some (.inl o) := h
    unfold mm_iv mm_getC mm_call at h
    repeat' split at h
    all_goals first | exact mm_nx_inl h | cases h
  case invokespecial i =>
    have h : mm_ip a b t pc P call ls st w = some (.inl o) := h
    unfold mm_ip mm_obj mm_call at h
    repeat' split at h
    all_goals first | exact mm_nx_inl h | cases h
  all_goals exact absurd (show (none : mmR) = some (.inl o) from h) (by simp)
theorem mm_go_le {call : Nat → List Value → mmW → Option mmO} (hc : ∀ a as w v w', call a as w = some (v, w') → mm_le w w') {k : Nat} : ∀ (n : Nat) (f : mmF) (o : mmO), mm_go P call k n f = some o → mm_le f.2.2.2 o.2
  | 0, _, _, h => by cases h
  | n + 1, (pc, ls, st, w), o, h => by
    unfold mm_go at h
    split at h
    · cases h
    · split at h
      · cases h
      · rename_i o' ho
        cases h
        rw [(mm1_inl ho).1]
        exact mm_le.rf
      · rename_i f hf
        exact (mm1_le hc hf).tr (mm_go_le hc n f o h)
theorem mm_ev_le {N : Nat} : ∀ (d a : Nat) (as : List Value) (w : mmW) (v : Option Value) (w' : mmW), mm_ev P N d a as w = some (v, w') → mm_le w w'
  | 0, _, _, _, _, _, h => by cases h
  | d + 1, a, as, w, v, w', h => by
    unfold mm_ev at h
    split at h
    · exact mm_go_le (mm_ev_le d) N _ _ h
    · cases h
end MML
