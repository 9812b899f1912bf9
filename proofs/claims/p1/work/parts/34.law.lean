/-! THE CLAIM OUT OF ONE WALK OF THE LAW'S BODY. Your part is whole_start (and what it stands on); all else here is the same for every law, but numbers. -/
def R_law : String := "PondHouseLaw"
def lw_P (b : Addr) (xs : List Int32) (args : Array Value) (s : State) : Prop := args = #[.ref b] ∧ s.IntsAt b xs ∧ xs.length ≤ 6 ∧ (Jvm.Cond.and given_1 narrow_1).before args s = true
def lw_Q (_ : Array Value) (s : State) (o : Outcome) (t : State) : Prop := o = .returned (some (.int 1)) ∧ Framed s o t [] 600000 7302250
def lw_Z (below : List Frame) (a : Array Value) (s : State) : State → Prop := fun t => ∃ o, t.status = .running ∧ Ended t below o ∧ lw_Q a s o t
/-- the law's own end, with 1 on the stack, nothing written that was there before, its room as the claim has it -/
theorem lw_ret {p : Program} {l : Launch} {e : Env} {s : State} {m : MethodId} {below : List Frame} {meth : Method} {c : Code} {b : Nat} (hx : p.tables.exec = Jvm.exec) (hb : c.code = code) (hr : meth.sig.returnType = ret) (hlocks : meth.locks = false) {pc : Nat} {H : Heap} {ls : Array Slot} (hdg : decode code pc = .ok (.ireturn, 1)) : W p l e room_1 s m #[Value.ref b] below meth c H [] 600000 7302250 (lw_Z below #[Value.ref b] s) (F0 m pc ls [.int 1]) := by
  intro T hT X
  obtain ⟨fs, hret, hrun, hended, hW, hframe⟩ := X.leave (v := some (.int 1)) (hlocks := hlocks) (fun h => by rw [hr] at h; cases h)
  have hmeth' : T.vm.method? m = some meth := X.method'
  refine ⟨T.setFrames fs, ?_, .returned (some (.int 1)), hrun, hended, rfl, ⟨_, rfl⟩, hW, hframe⟩
  jvm_step X.here [X.here.top, hx, hb, hdg, hmeth', hr, ret, narrow_b1]
  (try refine ⟨rfl, ?_⟩); (try refine ⟨rfl, ?_⟩)
  first | (intro acts; rw [hret _ acts rfl rfl rfl]) | rw [hret _ _ rfl rfl rfl]
  exact Steps.refl _
/-- what holds at the law's entry: the machine, the code, the tables' words (any of lw_tbl by 'hts w (by decide +kernel)'), the script of L ints xs at the cell b, what the Statement gives of the start (any of its parts by flat_of_before) -/
def lw_At (p : Program) (s : State) (m : MethodId) (meth : Method) (c : Code) (b L : Nat) (xs : Nat → Int32) : Prop :=
  p.tables.exec = Jvm.exec ∧ c.code = code ∧ meth.sig.returnType = ret ∧ c.maxLocals = 4 ∧ s.vm.findClass R_law = some m.cls ∧ (∀ w ∈ lw_tbl, w.before #[Value.ref b] s = true) ∧ va_X b L xs s s.heap ∧ b < s.heap.size ∧ meth.locks = false ∧ (Jvm.Cond.and given_1 narrow_1).before #[Value.ref b] s = true
/-! THE CLAIM, said of MM alone -/
abbrev mt_law : Nat := 301
/-- MM's start at the law: the script is old cell 0 -/
def mt_f0 : mmF := (0, mm_entry 4 [.retAddr 0], [], ([], 0, 0))
theorem mm_law {p : Program} {e : Env} {s : State} {m : MethodId} {below : List Frame} {meth : Method} {c : Code} (l : Launch) {b L : Nat} {xs : Nat → Int32} (C0 : lw_At p s m meth c b L xs) {N d n : Nat} {w' : mmW} (hd : d + 1 ≤ 2048)
    (h : mm_go (mt_P (mt_xs L xs)) (mm_ev (mt_P (mt_xs L xs)) N d) mt_law n mt_f0 = some (some (.int 1), w')) (hw : w'.2.1 ≤ 600000 ∧ w'.2.2 ≤ 7302250) : W p l e room_1 s m #[Value.ref b] below meth c s.heap [] 0 0 (lw_Z below #[Value.ref b] s) (entryFrame m ([Value.ref b] : List Value).toArray 4) := by
  obtain ⟨hx, hb, hr, hml, hown, hts, hX, hbl, hlocks, hgv⟩ := C0
  obtain ⟨oA, dA, D, hGK, hO, hb0⟩ := mt_start hts hX hbl hgv
  have hS0 := mt_okS (mt_xs L xs) oA dA s.heap.size hO
  have hP0 := mt_okP (mt_xs L xs) oA dA
  have hcall := mm_met (l := l) (D := D) (X := mt_X) hS0 hP0 N d
  have hcode : ∀ (pc : Nat) (en : mmE), (mt_P (mt_xs L xs)).1 mt_law pc = some en → mm_okI mt_Ts (mt_P (mt_xs L xs)) (mt_G oA dA) mt_cl mt_X mt_Mt ⟨"PondHouseLaw", meth.name, "([I)Z"⟩ ret pc en ∧ mm_okD code pc en := fun pc en h => ⟨mt_find (mt_i301 (mt_xs L xs) oA dA meth.name) (show mt_at mt_c301 pc = some en from h), mt_findD mt_d301 (show mt_at mt_c301 pc = some en from h)⟩
  have hl := lv_entry [Value.ref b] (n := 4) (Nat.le_of_ble_eq_true rfl)
  rw [lg_entry_eq]
  refine mm_loop (R := room_1) (y := ⟨"PondHouseLaw", meth.name, "([I)Z"⟩) (ret := ret) (k := mt_law) (c0 := 0) (s0 := 0) (a0 := []) (d := d) hx hb hml (mt_htsW hts) hown rfl hGK (Nat.le_refl _) hS0 hcall (mm_ev_le d) (show d + 1 ≤ 2048 from hd) (show 41 * d + 41 ≤ 84000 by omega) hcode (some (.int 1), w') (show w'.2.1 ≤ 600000 + 0 ∧ w'.2.2 ≤ 7302250 + 0 from hw) ?_ n _ h _ _ _ _ _ _ ⟨[], lv_args 0 [Value.ref b], fun k q h => by simp at h, ⟨fun i j p q h => by simp at h, fun k q h => by simp at h⟩, va_S.rf, ⟨rfl, fun k c h => absurd (show ([] : List mmC)[k]? = some c from h) (by simp), mm_ex.rf⟩, hl, mm_entry_R (nl := 4) (as := [.retAddr 0]) ⟨_, _, rfl, by rw [← hb0]; rfl, rfl⟩, rfl, rfl, rfl, rfl⟩
  intro pc en ls st w1 H locs cells slots L1 S1 hen h1 hI
  obtain ⟨q1, q2⟩ := hcode pc en hen
  obtain ⟨hw1, hrt⟩ := mm1_inl h1
  obtain ⟨ws, lv, hP, hD, hS, hW, hL, hl, hn, hs, e1, e2⟩ := hI
  simp only at hw1
  subst hw1
  obtain ⟨i, a, b', t⟩ := en
  rcases hrt with ⟨hi, x, rfl, hx1, -⟩ | ⟨-, x, -, hx1⟩ | ⟨-, x, rfl, hx1, hk⟩ | ⟨-, -, hx1⟩
  · cases hx1
    have hi : i = .ireturn := hi
    subst hi
    obtain ⟨x', S', rfl, hxx, hs⟩ := hs
    cases hxx
    cases hs
    refine va_forget (fun q hq => hS.2.2 q hq) ?_
    refine W.widen (k := 600000) (n := 7302250) (by omega) (by omega) ?_
    exact lw_ret hx hb hr hlocks q2
  · cases hx1
  · cases hx1
    cases hk
  · cases hx1
