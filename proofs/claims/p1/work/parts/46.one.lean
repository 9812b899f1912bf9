/-! scripts of at most six ints -/
theorem mv_and31 (x : Int32) : ∃ j : Nat, j < 32 ∧ x &&& 31 = Int32.ofNat j := by
  refine ⟨(x &&& 31).toUInt32.toNat, ?_, ?_⟩
  · have h : (x &&& 31).toUInt32.toNat = x.toUInt32.toNat &&& 31 := rfl
    rw [h]
    exact Nat.lt_of_le_of_lt Nat.and_le_right (by decide)
  · have h : ∀ z : Int32, z = Int32.ofNat z.toUInt32.toNat := fun z => by
      cases z with
      | ofUInt32 u => exact congrArg Int32.ofUInt32 (UInt32.ofNat_toNat).symm
    exact h _
theorem mv_st1 (xs : List Int32) : mm_runC (mt_P xs) 1000 20 301 3 (7, [some (.retAddr 0), none, none, none], [.ref 0], mv_pon_x) = some (12, [some (.retAddr 0), some (.ref 0), none, none], [.ref 387, .ref 387], mv_mod_w) := mm_runC_old (mt_o0_ok xs) (mv_eF_ok (by decide +kernel))
set_option maxRecDepth 100000 in
theorem mv_start (xs : List Int32) {Q : mmO → Prop} (g : mu_G (mt_P xs) 20 301 (18, [some (.retAddr 0), some (.ref 0), some (.ref 387), some (.int 0)], [], mv_W2) Q) : mu_G (mt_P xs) 20 301 mt_f0 Q := by
  refine mt_runs 1 (f' := (3, [some (.retAddr 0), none, none, none], [.ref 0], mv_pon_w)) rfl ?_
  refine mt_runs 1 (f' := (4, [some (.retAddr 0), none, none, none], [.ref 0, .ref 0], mv_pon_w)) rfl ?_
  refine mt_callX (o := (none, mv_pon_x)) rfl (fun _ => rfl) ⟨Nat.le_of_ble_eq_true rfl, Nat.le_of_ble_eq_true rfl, rfl⟩ (mv_pon xs) ?_
  show mu_G (mt_P xs) 20 301 (7, [some (.retAddr 0), none, none, none], [.ref 0], mv_pon_x) _
  refine mt_runsC 3 (mv_st1 xs) ?_
  refine mt_callX (o := (none, mv_mod_x)) rfl (fun _ => rfl) ⟨Nat.le_of_ble_eq_true rfl, Nat.le_of_ble_eq_true rfl, rfl⟩ (mv_mod xs) ?_
  show mu_G (mt_P xs) 20 301 (15, [some (.retAddr 0), some (.ref 0), none, none], [.ref 387], mv_mod_x) _
  refine mt_runs 3 (f' := (18, [some (.retAddr 0), some (.ref 0), some (.ref 387), some (.int 0)], [], mv_W2)) rfl ?_
  exact g
set_option maxRecDepth 100000 in
theorem mv_len0 : mu_G (mt_P []) 20 301 (18, [some (.retAddr 0), some (.ref 0), some (.ref 387), some (.int 0)], [], mv_W2) mv_Q := by
  refine mt_runs 1 (f' := (19, [some (.retAddr 0), some (.ref 0), some (.ref 387), some (.int 0)], [.int 0], mv_W2)) rfl ?_
  refine mt_runs 1 (f' := (20, [some (.retAddr 0), some (.ref 0), some (.ref 387), some (.int 0)], [.retAddr 0, .int 0], mv_W2)) rfl ?_
  refine mt_runs 1 (f' := (21, [some (.retAddr 0), some (.ref 0), some (.ref 387), some (.int 0)], [.int 0, .int 0], mv_W2)) rfl ?_
  refine mt_runs 1 (f' := (23, [some (.retAddr 0), some (.ref 0), some (.ref 387), some (.int 0)], [.int 6, .int 0, .int 0], mv_W2)) rfl ?_
  refine mt_runs 1 (f' := (24, [some (.retAddr 0), some (.ref 0), some (.ref 387), some (.int 0)], [.int (-6), .int 0], mv_W2)) rfl ?_
  refine mt_runs 1 (f' := (964, [some (.retAddr 0), some (.ref 0), some (.ref 387), some (.int 0)], [], mv_W2)) rfl ?_
  refine mt_runs 1 (f' := (965, [some (.retAddr 0), some (.ref 0), some (.ref 387), some (.int 0)], [.int 1], mv_W2)) rfl ?_
  refine mt_ret rfl rfl ?_
  exact ⟨rfl, Nat.le_of_ble_eq_true rfl, Nat.le_of_ble_eq_true rfl⟩
set_option maxRecDepth 100000 in
theorem mv_len1 (x0 : Int32) : mu_G (mt_P [x0]) 20 301 (18, [some (.retAddr 0), some (.ref 0), some (.ref 387), some (.int 0)], [], mv_W2) mv_Q := by
  refine mt_runs 1 (f' := (19, [some (.retAddr 0), some (.ref 0), some (.ref 387), some (.int 0)], [.int 0], mv_W2)) rfl ?_
  refine mt_runs 1 (f' := (20, [some (.retAddr 0), some (.ref 0), some (.ref 387), some (.int 0)], [.retAddr 0, .int 0], mv_W2)) rfl ?_
  refine mt_runs 1 (f' := (21, [some (.retAddr 0), some (.ref 0), some (.ref 387), some (.int 0)], [.int 1, .int 0], mv_W2)) rfl ?_
  refine mt_runs 1 (f' := (23, [some (.retAddr 0), some (.ref 0), some (.ref 387), some (.int 0)], [.int 6, .int 1, .int 0], mv_W2)) rfl ?_
  refine mt_runs 1 (f' := (24, [some (.retAddr 0), some (.ref 0), some (.ref 387), some (.int 0)], [.int (-5), .int 0], mv_W2)) rfl ?_
  refine mt_runs 1 (f' := (964, [some (.retAddr 0), some (.ref 0), some (.ref 387), some (.int 0)], [], mv_W2)) rfl ?_
  refine mt_runs 1 (f' := (965, [some (.retAddr 0), some (.ref 0), some (.ref 387), some (.int 0)], [.int 1], mv_W2)) rfl ?_
  refine mt_ret rfl rfl ?_
  exact ⟨rfl, Nat.le_of_ble_eq_true rfl, Nat.le_of_ble_eq_true rfl⟩
set_option maxRecDepth 100000 in
theorem mv_len2 (x0 x1 : Int32) : mu_G (mt_P [x0, x1]) 20 301 (18, [some (.retAddr 0), some (.ref 0), some (.ref 387), some (.int 0)], [], mv_W2) mv_Q := by
  refine mt_runs 1 (f' := (19, [some (.retAddr 0), some (.ref 0), some (.ref 387), some (.int 0)], [.int 0], mv_W2)) rfl ?_
  refine mt_runs 1 (f' := (20, [some (.retAddr 0), some (.ref 0), some (.ref 387), some (.int 0)], [.retAddr 0, .int 0], mv_W2)) rfl ?_
  refine mt_runs 1 (f' := (21, [some (.retAddr 0), some (.ref 0), some (.ref 387), some (.int 0)], [.int 2, .int 0], mv_W2)) rfl ?_
  refine mt_runs 1 (f' := (23, [some (.retAddr 0), some (.ref 0), some (.ref 387), some (.int 0)], [.int 6, .int 2, .int 0], mv_W2)) rfl ?_
  refine mt_runs 1 (f' := (24, [some (.retAddr 0), some (.ref 0), some (.ref 387), some (.int 0)], [.int (-4), .int 0], mv_W2)) rfl ?_
  refine mt_runs 1 (f' := (964, [some (.retAddr 0), some (.ref 0), some (.ref 387), some (.int 0)], [], mv_W2)) rfl ?_
  refine mt_runs 1 (f' := (965, [some (.retAddr 0), some (.ref 0), some (.ref 387), some (.int 0)], [.int 1], mv_W2)) rfl ?_
  refine mt_ret rfl rfl ?_
  exact ⟨rfl, Nat.le_of_ble_eq_true rfl, Nat.le_of_ble_eq_true rfl⟩
set_option maxRecDepth 100000 in
theorem mv_len3 (x0 x1 x2 : Int32) : mu_G (mt_P [x0, x1, x2]) 20 301 (18, [some (.retAddr 0), some (.ref 0), some (.ref 387), some (.int 0)], [], mv_W2) mv_Q := by
  refine mt_runs 1 (f' := (19, [some (.retAddr 0), some (.ref 0), some (.ref 387), some (.int 0)], [.int 0], mv_W2)) rfl ?_
  refine mt_runs 1 (f' := (20, [some (.retAddr 0), some (.ref 0), some (.ref 387), some (.int 0)], [.retAddr 0, .int 0], mv_W2)) rfl ?_
  refine mt_runs 1 (f' := (21, [some (.retAddr 0), some (.ref 0), some (.ref 387), some (.int 0)], [.int 3, .int 0], mv_W2)) rfl ?_
  refine mt_runs 1 (f' := (23, [some (.retAddr 0), some (.ref 0), some (.ref 387), some (.int 0)], [.int 6, .int 3, .int 0], mv_W2)) rfl ?_
  refine mt_runs 1 (f' := (24, [some (.retAddr 0), some (.ref 0), some (.ref 387), some (.int 0)], [.int (-3), .int 0], mv_W2)) rfl ?_
  refine mt_runs 1 (f' := (964, [some (.retAddr 0), some (.ref 0), some (.ref 387), some (.int 0)], [], mv_W2)) rfl ?_
  refine mt_runs 1 (f' := (965, [some (.retAddr 0), some (.ref 0), some (.ref 387), some (.int 0)], [.int 1], mv_W2)) rfl ?_
  refine mt_ret rfl rfl ?_
  exact ⟨rfl, Nat.le_of_ble_eq_true rfl, Nat.le_of_ble_eq_true rfl⟩
set_option maxRecDepth 100000 in
theorem mv_len4 (x0 x1 x2 x3 : Int32) : mu_G (mt_P [x0, x1, x2, x3]) 20 301 (18, [some (.retAddr 0), some (.ref 0), some (.ref 387), some (.int 0)], [], mv_W2) mv_Q := by
  refine mt_runs 1 (f' := (19, [some (.retAddr 0), some (.ref 0), some (.ref 387), some (.int 0)], [.int 0], mv_W2)) rfl ?_
  refine mt_runs 1 (f' := (20, [some (.retAddr 0), some (.ref 0), some (.ref 387), some (.int 0)], [.retAddr 0, .int 0], mv_W2)) rfl ?_
  refine mt_runs 1 (f' := (21, [some (.retAddr 0), some (.ref 0), some (.ref 387), some (.int 0)], [.int 4, .int 0], mv_W2)) rfl ?_
  refine mt_runs 1 (f' := (23, [some (.retAddr 0), some (.ref 0), some (.ref 387), some (.int 0)], [.int 6, .int 4, .int 0], mv_W2)) rfl ?_
  refine mt_runs 1 (f' := (24, [some (.retAddr 0), some (.ref 0), some (.ref 387), some (.int 0)], [.int (-2), .int 0], mv_W2)) rfl ?_
  refine mt_runs 1 (f' := (964, [some (.retAddr 0), some (.ref 0), some (.ref 387), some (.int 0)], [], mv_W2)) rfl ?_
  refine mt_runs 1 (f' := (965, [some (.retAddr 0), some (.ref 0), some (.ref 387), some (.int 0)], [.int 1], mv_W2)) rfl ?_
  refine mt_ret rfl rfl ?_
  exact ⟨rfl, Nat.le_of_ble_eq_true rfl, Nat.le_of_ble_eq_true rfl⟩
set_option maxRecDepth 100000 in
theorem mv_len5 (x0 x1 x2 x3 x4 : Int32) : mu_G (mt_P [x0, x1, x2, x3, x4]) 20 301 (18, [some (.retAddr 0), some (.ref 0), some (.ref 387), some (.int 0)], [], mv_W2) mv_Q := by
  refine mt_runs 1 (f' := (19, [some (.retAddr 0), some (.ref 0), some (.ref 387), some (.int 0)], [.int 0], mv_W2)) rfl ?_
  refine mt_runs 1 (f' := (20, [some (.retAddr 0), some (.ref 0), some (.ref 387), some (.int 0)], [.retAddr 0, .int 0], mv_W2)) rfl ?_
  refine mt_runs 1 (f' := (21, [some (.retAddr 0), some (.ref 0), some (.ref 387), some (.int 0)], [.int 5, .int 0], mv_W2)) rfl ?_
  refine mt_runs 1 (f' := (23, [some (.retAddr 0), some (.ref 0), some (.ref 387), some (.int 0)], [.int 6, .int 5, .int 0], mv_W2)) rfl ?_
  refine mt_runs 1 (f' := (24, [some (.retAddr 0), some (.ref 0), some (.ref 387), some (.int 0)], [.int (-1), .int 0], mv_W2)) rfl ?_
  refine mt_runs 1 (f' := (964, [some (.retAddr 0), some (.ref 0), some (.ref 387), some (.int 0)], [], mv_W2)) rfl ?_
  refine mt_runs 1 (f' := (965, [some (.retAddr 0), some (.ref 0), some (.ref 387), some (.int 0)], [.int 1], mv_W2)) rfl ?_
  refine mt_ret rfl rfl ?_
  exact ⟨rfl, Nat.le_of_ble_eq_true rfl, Nat.le_of_ble_eq_true rfl⟩
set_option maxRecDepth 100000 in
theorem mv_len6 (x0 x1 x2 x3 x4 x5 : Int32) : mu_G (mt_P (mv_xs x0 x1 x2 x3 x4 x5)) 20 301 (18, [some (.retAddr 0), some (.ref 0), some (.ref 387), some (.int 0)], [], mv_W2) mv_Q := by
  refine mt_runs 1 (f' := (19, [some (.retAddr 0), some (.ref 0), some (.ref 387), some (.int 0)], [.int 0], mv_W2)) rfl ?_
  refine mt_runs 1 (f' := (20, [some (.retAddr 0), some (.ref 0), some (.ref 387), some (.int 0)], [.retAddr 0, .int 0], mv_W2)) rfl ?_
  refine mt_runs 1 (f' := (21, [some (.retAddr 0), some (.ref 0), some (.ref 387), some (.int 0)], [.int 6, .int 0], mv_W2)) rfl ?_
  refine mt_runs 1 (f' := (23, [some (.retAddr 0), some (.ref 0), some (.ref 387), some (.int 0)], [.int 6, .int 6, .int 0], mv_W2)) rfl ?_
  refine mt_runs 1 (f' := (24, [some (.retAddr 0), some (.ref 0), some (.ref 387), some (.int 0)], [.int 0, .int 0], mv_W2)) rfl ?_
  refine mt_runs 1 (f' := (27, [some (.retAddr 0), some (.ref 0), some (.ref 387), some (.int 0)], [], mv_W2)) rfl ?_
  refine mt_runs 1 (f' := (28, [some (.retAddr 0), some (.ref 0), some (.ref 387), some (.int 0)], [.retAddr 0], mv_W2)) rfl ?_
  refine mt_runs 1 (f' := (29, [some (.retAddr 0), some (.ref 0), some (.ref 387), some (.int 0)], [.int 0, .retAddr 0], mv_W2)) rfl ?_
  refine mt_runs 1 (f' := (30, [some (.retAddr 0), some (.ref 0), some (.ref 387), some (.int 0)], [.int x0], mv_W2)) rfl ?_
  refine mt_runs 1 (f' := (32, [some (.retAddr 0), some (.ref 0), some (.ref 387), some (.int 0)], [.int 31, .int x0], mv_W2)) rfl ?_
  refine mt_runs 1 (f' := (33, [some (.retAddr 0), some (.ref 0), some (.ref 387), some (.int 0)], [.int (x0 &&& 31)], mv_W2)) rfl ?_
  obtain ⟨j, hj, e⟩ := mv_and31 x0
  rw [e]
  match j, hj with
  | 0, _ =>
    refine mt_runs 1 (f' := (164, [some (.retAddr 0), some (.ref 0), some (.ref 387), some (.int 0)], [], mv_W2)) rfl ?_
    exact mv_op0 x0 x1 x2 x3 x4 x5
  | 1, _ =>
    refine mt_runs 1 (f' := (227, [some (.retAddr 0), some (.ref 0), some (.ref 387), some (.int 0)], [], mv_W2)) rfl ?_
    exact mv_op1 x0 x1 x2 x3 x4 x5
  | 2, _ =>
    refine mt_runs 1 (f' := (250, [some (.retAddr 0), some (.ref 0), some (.ref 387), some (.int 0)], [], mv_W2)) rfl ?_
    exact mv_op2 x0 x1 x2 x3 x4 x5
  | 3, _ =>
    refine mt_runs 1 (f' := (263, [some (.retAddr 0), some (.ref 0), some (.ref 387), some (.int 0)], [], mv_W2)) rfl ?_
    exact mv_op3 x0 x1 x2 x3 x4 x5
  | 4, _ =>
    refine mt_runs 1 (f' := (276, [some (.retAddr 0), some (.ref 0), some (.ref 387), some (.int 0)], [], mv_W2)) rfl ?_
    exact mv_op4 x0 x1 x2 x3 x4 x5
  | 5, _ =>
    refine mt_runs 1 (f' := (289, [some (.retAddr 0), some (.ref 0), some (.ref 387), some (.int 0)], [], mv_W2)) rfl ?_
    exact mv_op5 x0 x1 x2 x3 x4 x5
  | 6, _ =>
    refine mt_runs 1 (f' := (312, [some (.retAddr 0), some (.ref 0), some (.ref 387), some (.int 0)], [], mv_W2)) rfl ?_
    exact mv_op6 x0 x1 x2 x3 x4 x5
  | 7, _ =>
    refine mt_runs 1 (f' := (325, [some (.retAddr 0), some (.ref 0), some (.ref 387), some (.int 0)], [], mv_W2)) rfl ?_
    exact mv_op7 x0 x1 x2 x3 x4 x5
  | 8, _ =>
    refine mt_runs 1 (f' := (358, [some (.retAddr 0), some (.ref 0), some (.ref 387), some (.int 0)], [], mv_W2)) rfl ?_
    exact mv_op8 x0 x1 x2 x3 x4 x5
  | 9, _ =>
    refine mt_runs 1 (f' := (381, [some (.retAddr 0), some (.ref 0), some (.ref 387), some (.int 0)], [], mv_W2)) rfl ?_
    exact mv_op9 x0 x1 x2 x3 x4 x5
  | 10, _ =>
    refine mt_runs 1 (f' := (404, [some (.retAddr 0), some (.ref 0), some (.ref 387), some (.int 0)], [], mv_W2)) rfl ?_
    exact mv_op10 x0 x1 x2 x3 x4 x5
  | 11, _ =>
    refine mt_runs 1 (f' := (427, [some (.retAddr 0), some (.ref 0), some (.ref 387), some (.int 0)], [], mv_W2)) rfl ?_
    exact mv_op11 x0 x1 x2 x3 x4 x5
  | 12, _ =>
    refine mt_runs 1 (f' := (460, [some (.retAddr 0), some (.ref 0), some (.ref 387), some (.int 0)], [], mv_W2)) rfl ?_
    exact mv_op12 x0 x1 x2 x3 x4 x5
  | 13, _ =>
    refine mt_runs 1 (f' := (493, [some (.retAddr 0), some (.ref 0), some (.ref 387), some (.int 0)], [], mv_W2)) rfl ?_
    exact mv_op13 x0 x1 x2 x3 x4 x5
  | 14, _ =>
    refine mt_runs 1 (f' := (536, [some (.retAddr 0), some (.ref 0), some (.ref 387), some (.int 0)], [], mv_W2)) rfl ?_
    exact mv_op14 x0 x1 x2 x3 x4 x5
  | 15, _ =>
    refine mt_runs 1 (f' := (569, [some (.retAddr 0), some (.ref 0), some (.ref 387), some (.int 0)], [], mv_W2)) rfl ?_
    exact mv_op15 x0 x1 x2 x3 x4 x5
  | 16, _ =>
    refine mt_runs 1 (f' := (612, [some (.retAddr 0), some (.ref 0), some (.ref 387), some (.int 0)], [], mv_W2)) rfl ?_
    exact mv_op16 x0 x1 x2 x3 x4 x5
  | 17, _ =>
    refine mt_runs 1 (f' := (635, [some (.retAddr 0), some (.ref 0), some (.ref 387), some (.int 0)], [], mv_W2)) rfl ?_
    exact mv_op17 x0 x1 x2 x3 x4 x5
  | 18, _ =>
    refine mt_runs 1 (f' := (658, [some (.retAddr 0), some (.ref 0), some (.ref 387), some (.int 0)], [], mv_W2)) rfl ?_
    exact mv_op18 x0 x1 x2 x3 x4 x5
  | 19, _ =>
    refine mt_runs 1 (f' := (671, [some (.retAddr 0), some (.ref 0), some (.ref 387), some (.int 0)], [], mv_W2)) rfl ?_
    exact mv_op19 x0 x1 x2 x3 x4 x5
  | 20, _ =>
    refine mt_runs 1 (f' := (694, [some (.retAddr 0), some (.ref 0), some (.ref 387), some (.int 0)], [], mv_W2)) rfl ?_
    exact mv_op20 x0 x1 x2 x3 x4 x5
  | 21, _ =>
    refine mt_runs 1 (f' := (727, [some (.retAddr 0), some (.ref 0), some (.ref 387), some (.int 0)], [], mv_W2)) rfl ?_
    exact mv_op21 x0 x1 x2 x3 x4 x5
  | 22, _ =>
    refine mt_runs 1 (f' := (770, [some (.retAddr 0), some (.ref 0), some (.ref 387), some (.int 0)], [], mv_W2)) rfl ?_
    exact mv_op22 x0 x1 x2 x3 x4 x5
  | 23, _ =>
    refine mt_runs 1 (f' := (803, [some (.retAddr 0), some (.ref 0), some (.ref 387), some (.int 0)], [], mv_W2)) rfl ?_
    exact mv_op23 x0 x1 x2 x3 x4 x5
  | 24, _ =>
    refine mt_runs 1 (f' := (852, [some (.retAddr 0), some (.ref 0), some (.ref 387), some (.int 0)], [], mv_W2)) rfl ?_
    exact mv_op24 x0 x1 x2 x3 x4 x5
  | 25, _ =>
    refine mt_runs 1 (f' := (875, [some (.retAddr 0), some (.ref 0), some (.ref 387), some (.int 0)], [], mv_W2)) rfl ?_
    exact mv_op25 x0 x1 x2 x3 x4 x5
  | 26, _ =>
    refine mt_runs 1 (f' := (898, [some (.retAddr 0), some (.ref 0), some (.ref 387), some (.int 0)], [], mv_W2)) rfl ?_
    exact mv_op26 x0 x1 x2 x3 x4 x5
  | 27, _ =>
    refine mt_runs 1 (f' := (921, [some (.retAddr 0), some (.ref 0), some (.ref 387), some (.int 0)], [], mv_W2)) rfl ?_
    exact mv_op27 x0 x1 x2 x3 x4 x5
  | 28, _ =>
    refine mt_runs 1 (f' := (934, [some (.retAddr 0), some (.ref 0), some (.ref 387), some (.int 0)], [], mv_W2)) rfl ?_
    exact mv_op28 x0 x1 x2 x3 x4 x5
  | 29, _ =>
    refine mt_runs 1 (f' := (958, [some (.retAddr 0), some (.ref 0), some (.ref 387), some (.int 0)], [], mv_W2)) rfl ?_
    exact mv_opd x0 x1 x2 x3 x4 x5
  | 30, _ =>
    refine mt_runs 1 (f' := (958, [some (.retAddr 0), some (.ref 0), some (.ref 387), some (.int 0)], [], mv_W2)) rfl ?_
    exact mv_opd x0 x1 x2 x3 x4 x5
  | 31, _ =>
    refine mt_runs 1 (f' := (958, [some (.retAddr 0), some (.ref 0), some (.ref 387), some (.int 0)], [], mv_W2)) rfl ?_
    exact mv_opd x0 x1 x2 x3 x4 x5
  | j + 32, hj => exact absurd hj (by omega)
theorem mv_six (L : Nat) (xs : Nat → Int32) (hL : L ≤ 6) : mu_G (mt_P (mt_xs L xs)) 20 301 mt_f0 mv_Q := by
  refine mv_start _ ?_
  match L, hL with
  | 0, _ => exact mv_len0
  | 1, _ => exact mv_len1 (xs 0)
  | 2, _ => exact mv_len2 (xs 0) (xs 1)
  | 3, _ => exact mv_len3 (xs 0) (xs 1) (xs 2)
  | 4, _ => exact mv_len4 (xs 0) (xs 1) (xs 2) (xs 3)
  | 5, _ => exact mv_len5 (xs 0) (xs 1) (xs 2) (xs 3) (xs 4)
  | 6, _ => exact mv_len6 (xs 0) (xs 1) (xs 2) (xs 3) (xs 4) (xs 5)
  | L + 7, h => exact absurd h (by omega)
