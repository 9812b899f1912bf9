/-! runs of MM, put together -/
section MPU
variable {P : mmP} {pc : Nat} {ls : mmL} {st : List Value} {w : mmW} {k : Nat}
theorem mm_call_up {call call' : Nat → List Value → mmW → Option mmO} (hc : ∀ a as w o, call a as w = some o → call' a as w = some o) {a b t : Nat} {r : mmO ⊕ mmF} (h : mm_call P call a b t pc ls st w = some r) : mm_call P call' a b t pc ls st w = some r := by
  unfold mm_call at h ⊢
  split at h
  · rename_i hq
    rw [if_pos hq]
    split at h
    · rename_i v w' hv
      rw [hc _ _ _ _ hv]
      exact h
    · cases h
  · cases h
set_option maxHeartbeats 4000000 in
theorem mm1_up {call call' : Nat → List Value → mmW → Option mmO} (hc : ∀ a as w o, call a as w = some o → call' a as w = some o) {e : mmE} {r : mmO ⊕ mmF} (h : mm1 P call e pc ls st w = some r) : mm1 P call' e pc ls st w = some r := by
  obtain ⟨i, a, b, t⟩ := e
  cases i
  case invokestatic i =>
    have h : mm_is a b t pc P call ls st w = some r := h
    show mm_is a b t pc P call' ls st w = some r
    unfold mm_is at h ⊢
    split at h
    · rename_i q; rw [if_pos q]; exact h
    · rename_i q; rw [if_neg q]
      split at h
      · rename_i q; rw [if_pos q]; exact h
      · rename_i q; rw [if_neg q]
        split at h
        · rename_i q; rw [if_pos q]; exact h
        · rename_i q; rw [if_neg q]
          split at h
          · rename_i q; rw [if_pos q]; exact mm_call_up hc h
          · cases h
  case invokevirtual i =>
    have h : mm_iv a b t pc P call ls st w = some r := h
    show mm_iv a b t pc P call' ls st w = some r
    unfold mm_iv at h ⊢
    split at h
    · rename_i q; rw [if_pos q]; exact h
    · rename_i q; rw [if_neg q]
      split at h
      · rename_i q; rw [if_pos q]; exact mm_call_up hc h
      · cases h
  case invokespecial i =>
    have h : mm_ip a b t pc P call ls st w = some r := h
    show mm_ip a b t pc P call' ls st w = some r
    unfold mm_ip at h ⊢
    split at h
    · rename_i q; rw [if_pos q]; exact h
    · rename_i q; rw [if_neg q]
      split at h
      · rename_i q; rw [if_pos q]; exact mm_call_up hc h
      · cases h
  case ireturn =>
    match a, h with
    | 0, h => exact h
    | 1, h => exact h
    | 2, h => exact h
    | 3, h => exact h
    | _ + 4, h => cases h
  all_goals exact h
theorem mm_go_up {call call' : Nat → List Value → mmW → Option mmO} (hc : ∀ a as w o, call a as w = some o → call' a as w = some o) : ∀ {n n' : Nat} {f : mmF} {o : mmO}, n ≤ n' → mm_go P call k n f = some o → mm_go P call' k n' f = some o
  | 0, _, _, _, _, h => by cases h
  | n + 1, n', (pc, ls, st, w), o, hn, h => by
    obtain ⟨n1, rfl⟩ : ∃ n1, n' = n1 + 1 := ⟨n' - 1, by omega⟩
    unfold mm_go at h ⊢
    split at h
    · cases h
    · split at h
      · cases h
      · rename_i e he o' ho
        rw [mm1_up hc ho]
        exact h
      · rename_i e he f hf
        rw [mm1_up hc hf]
        exact mm_go_up hc (by omega) h
theorem mm_ev_up {N N' : Nat} (hN : N ≤ N') : ∀ {d a : Nat} {as : List Value} {w : mmW} {o : mmO}, mm_ev P N d a as w = some o → mm_ev P N' d a as w = some o
  | 0, _, _, _, _, h => by cases h
  | d + 1, a, as, w, o, h => by
    unfold mm_ev at h ⊢
    split at h
    · rename_i hq
      rw [if_pos hq]
      exact mm_go_up (fun a as w o h => mm_ev_up hN h) hN h
    · cases h
/-- from the frame f of method k, with d calls deep to go, MM comes to an end with Q -/
def mu_G (P : mmP) (d k : Nat) (f : mmF) (Q : mmO → Prop) : Prop := ∃ N n o, mm_go P (mm_ev P N d) k n f = some o ∧ Q o
def mm_run (P : mmP) (k : Nat) : Nat → mmF → Option mmF
  | 0, f => some f
  | j + 1, (pc, ls, st, w) => match P.1 k pc with
    | none => none
    | some e => match mm1 P (fun _ _ _ => none) e pc ls st w with
      | some (.inr f) => mm_run P k j f
      | _ => none
theorem mt_imp {d : Nat} {f : mmF} {Q Q' : mmO → Prop} (h : mu_G P d k f Q) (g : ∀ o, Q o → Q' o) : mu_G P d k f Q' := by
  obtain ⟨N, n, o, h1, h2⟩ := h
  exact ⟨N, n, o, h1, g o h2⟩
theorem mt_runs {d : Nat} {Q : mmO → Prop} : ∀ (j : Nat) {f f' : mmF}, mm_run P k j f = some f' → mu_G P d k f' Q → mu_G P d k f Q
  | 0, _, _, h, g => by cases h; exact g
  | j + 1, (pc, ls, st, w), f', h, g => by
    unfold mm_run at h
    split at h
    · cases h
    · rename_i e he
      split at h
      · rename_i f hf
        obtain ⟨N, n, o, h1, h2⟩ := mt_runs j h g
        refine ⟨N, n + 1, o, ?_, h2⟩
        unfold mm_go
        simp only [he]
        rw [mm1_up (call' := mm_ev P N d) (fun _ _ _ _ q => by cases q) hf]
        exact h1
      · cases h
theorem mt_ret {d : Nat} {Q : mmO → Prop} {e : mmE} {o : mmO} (hc : P.1 k pc = some e) (h : mm1 P (fun _ _ _ => none) e pc ls st w = some (.inl o)) (g : Q o) : mu_G P d k (pc, ls, st, w) Q := by
  refine ⟨0, 1, o, ?_, g⟩
  unfold mm_go
  simp only [hc]
  rw [mm1_up (call' := mm_ev P 0 d) (fun _ _ _ _ q => by cases q) h]
/-- one instruction that may call -/
theorem mt_call {d : Nat} {Q : mmO → Prop} {i : Instr} {a b t : Nat} (hc : P.1 k pc = some (i, a, b, t)) (hm : ∀ call, mm1 P call (i, a, b, t) pc ls st w = mm_call P call a b t pc ls st w) (hq : b ≤ st.length ∧ mm_cat (st.drop b) ≤ 8 ∧ mm_recv P t w (st.take b).reverse = true) (hl : (mm_args (st.take b).reverse).length ≤ P.2.2.2.2 a)
    (g : mu_G P d a (0, mm_entry (P.2.2.2.2 a) (st.take b).reverse, [], w) (fun o => mu_G P (d + 1) k (pc + 3, ls, o.1.toList ++ st.drop b, o.2) Q)) : mu_G P (d + 1) k (pc, ls, st, w) Q := by
  obtain ⟨N1, n1, o1, h1, N2, n2, o2, h2, h3⟩ := g
  refine ⟨max (max N1 N2) n1, n2 + 1, o2, ?_, h3⟩
  unfold mm_go
  simp only [hc]
  have e1 : mm_ev P (max (max N1 N2) n1) (d + 1) a (st.take b).reverse w = some o1 := by
    unfold mm_ev
    rw [if_pos hl]
    exact mm_go_up (fun _ _ _ _ q => mm_ev_up (by omega) q) (by omega) h1
  rw [hm]
  unfold mm_call
  rw [if_pos hq, e1]
  exact mm_go_up (fun _ _ _ _ q => mm_ev_up (by omega) q) (Nat.le_refl _) h2
/-- branches -/
theorem mt_if {d : Nat} {Q : mmO → Prop} {c : ClassFile.Cond} {off : Int} {z : Nat × Nat × Nat} {x : Int32} {tgt : Nat} (hc : P.1 k pc = some (.ifCond c off, z)) (ht : (pc : Int) + off = (tgt : Int)) (h1 : mm_holds c x 0 = true → mu_G P d k (tgt, ls, st, w) Q) (h2 : mm_holds c x 0 = false → mu_G P d k (pc + 3, ls, st, w) Q) : mu_G P d k (pc, ls, .int x :: st, w) Q := by
  cases hq : mm_holds c x 0 with
  | true =>
    refine mt_runs 1 ?_ (h1 hq)
    simp only [mm_run, hc, mm1, mm_if, hq, cond_true, mm_jp, ht]
    rfl
  | false =>
    refine mt_runs 1 ?_ (h2 hq)
    simp only [mm_run, hc, mm1, mm_if, hq, cond_false]
    rfl
theorem mt_icmp {d : Nat} {Q : mmO → Prop} {c : ClassFile.Cond} {off : Int} {z : Nat × Nat × Nat} {x y : Int32} {tgt : Nat} (hc : P.1 k pc = some (.if_icmp c off, z)) (ht : (pc : Int) + off = (tgt : Int)) (h1 : mm_holds c x y = true → mu_G P d k (tgt, ls, st, w) Q) (h2 : mm_holds c x y = false → mu_G P d k (pc + 3, ls, st, w) Q) : mu_G P d k (pc, ls, .int y :: .int x :: st, w) Q := by
  cases hq : mm_holds c x y with
  | true =>
    refine mt_runs 1 ?_ (h1 hq)
    simp only [mm_run, hc, mm1, mm_icmp, hq, cond_true, mm_jp, ht]
    rfl
  | false =>
    refine mt_runs 1 ?_ (h2 hq)
    simp only [mm_run, hc, mm1, mm_icmp, hq, cond_false]
    rfl
end MPU
/-! the old cells apart: what runs with fewer of them, runs so with more -/
def mm_wo (P : mmP) (old' : Nat → Option mmC) : mmP := (P.1, P.2.1, old', P.2.2.2)
section MPO
variable {P : mmP} {old' : Nat → Option mmC} {pc : Nat} {ls : mmL} {st : List Value} {w : mmW} {k : Nat} {r : mmO ⊕ mmF}
theorem mm_cell_old (h3 : ∀ j c, P.2.2.1 j = some c → old' j = some c) {v : Value} {c : mmC} (h : mm_cell P w v = some c) : mm_cell (mm_wo P old') w v = some c := by
  cases v with
  | ref x => exact h
  | retAddr j => exact h3 j c h
  | int x => cases h
  | long x => cases h
  | float x => cases h
  | double x => cases h
  | null => cases h
theorem mm_get_old (h3 : ∀ j c, P.2.2.1 j = some c → old' j = some c) {a b : Nat} (h : mm_get P a b pc ls st w = some r) : mm_get (mm_wo P old') a b pc ls st w = some r := by
  unfold mm_get at h ⊢
  split at h
  · split at h
    · rename_i hcell
      simp only [mm_cell_old h3 hcell]
      exact h
    · cases h
  · cases h
theorem mm_ald_old (h3 : ∀ j c, P.2.2.1 j = some c → old' j = some c) {q : Nat → Bool} (h : mm_ald q P pc ls st w = some r) : mm_ald q (mm_wo P old') pc ls st w = some r := by
  unfold mm_ald at h ⊢
  split at h
  · split at h
    · rename_i hcell
      simp only [mm_cell_old h3 hcell]
      exact h
    · cases h
  · cases h
theorem mm_alen_old (h3 : ∀ j c, P.2.2.1 j = some c → old' j = some c) (h : mm_alen P pc ls st w = some r) : mm_alen (mm_wo P old') pc ls st w = some r := by
  unfold mm_alen at h ⊢
  split at h
  · split at h
    · rename_i hcell
      simp only [mm_cell_old h3 hcell]
      exact h
    · cases h
  · cases h
theorem mm_recv_old (h3 : ∀ j c, P.2.2.1 j = some c → old' j = some c) {t : Nat} {as : List Value} (h : mm_recv P t w as = true) : mm_recv (mm_wo P old') t w as = true := by
  unfold mm_recv at h ⊢
  split at h
  · rfl
  · rfl
  · split at h
    · rename_i hcell
      simp only [mm_cell_old h3 hcell]
      exact h
    · cases h
  · cases h
theorem mm_call_old (h3 : ∀ j c, P.2.2.1 j = some c → old' j = some c) {call call' : Nat → List Value → mmW → Option mmO} (hc : ∀ a as w o, call a as w = some o → call' a as w = some o) {a b t : Nat} (h : mm_call P call a b t pc ls st w = some r) : mm_call (mm_wo P old') call' a b t pc ls st w = some r := by
  unfold mm_call at h ⊢
  split at h
  · rename_i hq
    rw [if_pos ⟨hq.1, hq.2.1, mm_recv_old h3 hq.2.2⟩]
    split at h
    · rename_i v w' hv
      rw [hc _ _ _ _ hv]
      exact h
    · cases h
  · cases h
set_option maxHeartbeats 4000000 in
theorem mm1_old (h3 : ∀ j c, P.2.2.1 j = some c → old' j = some c) {call call' : Nat → List Value → mmW → Option mmO} (hc : ∀ a as w o, call a as w = some o → call' a as w = some o) {e : mmE} (h : mm1 P call e pc ls st w = some r) : mm1 (mm_wo P old') call' e pc ls st w = some r := by
  obtain ⟨i, a, b, t⟩ := e
  cases i
  case getfield i => exact mm_get_old h3 h
  case iaload => exact mm_ald_old h3 h
  case baload => exact mm_ald_old h3 h
  case laload => exact mm_ald_old h3 h
  case aaload => exact mm_ald_old h3 h
  case arraylength => exact mm_alen_old h3 h
  case invokestatic i =>
    have h : mm_is a b t pc P call ls st w = some r := h
    show mm_is a b t pc (mm_wo P old') call' ls st w = some r
    unfold mm_is at h ⊢
    split at h
    · rename_i q; rw [if_pos q]; exact h
    · rename_i q; rw [if_neg q]
      split at h
      · rename_i q; rw [if_pos q]; exact h
      · rename_i q; rw [if_neg q]
        split at h
        · rename_i q; rw [if_pos q]; exact h
        · rename_i q; rw [if_neg q]
          split at h
          · rename_i q; rw [if_pos q]; exact mm_call_old h3 hc h
          · cases h
  case invokevirtual i =>
    have h : mm_iv a b t pc P call ls st w = some r := h
    show mm_iv a b t pc (mm_wo P old') call' ls st w = some r
    unfold mm_iv at h ⊢
    split at h
    · rename_i q; rw [if_pos q]; exact h
    · rename_i q; rw [if_neg q]
      split at h
      · rename_i q; rw [if_pos q]; exact mm_call_old h3 hc h
      · cases h
  case invokespecial i =>
    have h : mm_ip a b t pc P call ls st w = some r := h
    show mm_ip a b t pc (mm_wo P old') call' ls st w = some r
    unfold mm_ip at h ⊢
    split at h
    · rename_i q; rw [if_pos q]; exact h
    · rename_i q; rw [if_neg q]
      split at h
      · rename_i q; rw [if_pos q]; exact mm_call_old h3 hc h
      · cases h
  case ireturn =>
    match a, h with
    | 0, h => exact h
    | 1, h => exact h
    | 2, h => exact h
    | 3, h => exact h
    | _ + 4, h => cases h
  all_goals exact h
theorem mm_go_old (h3 : ∀ j c, P.2.2.1 j = some c → old' j = some c) {call call' : Nat → List Value → mmW → Option mmO} (hc : ∀ a as w o, call a as w = some o → call' a as w = some o) : ∀ {n : Nat} {f : mmF} {o : mmO}, mm_go P call k n f = some o → mm_go (mm_wo P old') call' k n f = some o
  | 0, _, _, h => by cases h
  | n + 1, (pc, ls, st, w), o, h => by
    unfold mm_go at h ⊢
    split at h
    · cases h
    · rename_i e he
      have he' : (mm_wo P old').1 k pc = some e := he
      simp only [he']
      split at h
      · cases h
      · rename_i o' ho
        rw [mm1_old h3 hc ho]
        exact h
      · rename_i f hf
        rw [mm1_old h3 hc hf]
        exact mm_go_old h3 hc h
theorem mm_ev_old (h3 : ∀ j c, P.2.2.1 j = some c → old' j = some c) {N : Nat} : ∀ {d a : Nat} {as : List Value} {w : mmW} {o : mmO}, mm_ev P N d a as w = some o → mm_ev (mm_wo P old') N d a as w = some o
  | 0, _, _, _, _, h => by cases h
  | d + 1, a, as, w, o, h => by
    unfold mm_ev at h ⊢
    split at h
    · rename_i hq
      rw [if_pos (show (mm_args as).length ≤ (mm_wo P old').2.2.2.2 a from hq)]
      exact mm_go_old h3 (fun _ _ _ _ q => mm_ev_old h3 q) h
    · cases h
end MPO
/-- the program without the script -/
def mt_o0 : Nat → Option mmC
  | 0 => none
  | j => mt_old [] j
def mt_P0 : mmP := (mt_code, mt_nw, mt_o0, mt_el, mt_nl)
theorem mt_P_wo (xs : List Int32) : mt_P xs = mm_wo mt_P0 (mt_old xs) := rfl
theorem mt_o0_ok (xs : List Int32) : ∀ j c, mt_P0.2.2.1 j = some c → mt_old xs j = some c := by
  intro j c h
  have h : mt_o0 j = some c := h
  unfold mt_o0 at h
  split at h
  · cases h
  · rename_i j hj
    unfold mt_old at h ⊢
    split at h
    · exact absurd rfl hj
    all_goals exact h
theorem mt_ev0 (xs : List Int32) {N d a : Nat} {as : List Value} {w : mmW} {o : mmO} (h : mm_ev mt_P0 N d a as w = some o) : mm_ev (mt_P xs) N d a as w = some o := by
  rw [mt_P_wo]
  exact mm_ev_old (mt_o0_ok xs) h
/-! a call whose end is known -/
theorem mt_callE {P : mmP} {pc : Nat} {ls : mmL} {st : List Value} {w : mmW} {k d : Nat} {Q : mmO → Prop} {i : Instr} {a b t : Nat} {N0 : Nat} {o : mmO} (hc : P.1 k pc = some (i, a, b, t)) (hm : ∀ call, mm1 P call (i, a, b, t) pc ls st w = mm_call P call a b t pc ls st w) (hq : b ≤ st.length ∧ mm_cat (st.drop b) ≤ 8 ∧ mm_recv P t w (st.take b).reverse = true) (he : mm_ev P N0 d a (st.take b).reverse w = some o)
    (g : mu_G P d k (pc + 3, ls, o.1.toList ++ st.drop b, o.2) Q) : mu_G P d k (pc, ls, st, w) Q := by
  obtain ⟨N2, n2, o2, h2, h3⟩ := g
  refine ⟨max N0 N2, n2 + 1, o2, ?_, h3⟩
  unfold mm_go
  simp only [hc]
  rw [hm]
  unfold mm_call
  rw [if_pos hq, mm_ev_up (N' := max N0 N2) (by omega) he]
  exact mm_go_up (fun _ _ _ _ q => mm_ev_up (by omega) q) (Nat.le_refl _) h2
/-- conditions as the integers say them -/
def mu_cnd (c : ClassFile.Cond) (a b : Int) : Prop := match c with
  | .eq => a = b
  | .ne => ¬ a = b
  | .lt => a < b
  | .ge => b ≤ a
  | .gt => b < a
  | .le => a ≤ b
theorem mu_hld {c : ClassFile.Cond} {x y : Int32} : (mm_holds c x y = true → mu_cnd c x.toInt y.toInt) ∧ (mm_holds c x y = false → ¬ mu_cnd c x.toInt y.toInt) := by
  cases c <;> simp [mm_holds, mu_cnd, Int32.lt_iff_toInt_lt, Int32.le_iff_toInt_le, Int32.toInt_inj]
theorem mu_if {P : mmP} {pc : Nat} {ls : mmL} {st : List Value} {w : mmW} {k d : Nat} {Q : mmO → Prop} {c : ClassFile.Cond} {off : Int} {z : Nat × Nat × Nat} {x : Int32} {tgt : Nat} (hc : P.1 k pc = some (.ifCond c off, z)) (ht : (pc : Int) + off = (tgt : Int)) (h1 : mu_cnd c x.toInt 0 → mu_G P d k (tgt, ls, st, w) Q) (h2 : ¬ mu_cnd c x.toInt 0 → mu_G P d k (pc + 3, ls, st, w) Q) : mu_G P d k (pc, ls, .int x :: st, w) Q :=
  mt_if hc ht (fun q => h1 (mu_hld.1 q)) (fun q => h2 (mu_hld.2 q))
theorem mu_icmp {P : mmP} {pc : Nat} {ls : mmL} {st : List Value} {w : mmW} {k d : Nat} {Q : mmO → Prop} {c : ClassFile.Cond} {off : Int} {z : Nat × Nat × Nat} {x y : Int32} {tgt : Nat} (hc : P.1 k pc = some (.if_icmp c off, z)) (ht : (pc : Int) + off = (tgt : Int)) (h1 : mu_cnd c x.toInt y.toInt → mu_G P d k (tgt, ls, st, w) Q) (h2 : ¬ mu_cnd c x.toInt y.toInt → mu_G P d k (pc + 3, ls, st, w) Q) : mu_G P d k (pc, ls, .int y :: .int x :: st, w) Q :=
  mt_icmp hc ht (fun q => h1 (mu_hld.1 q)) (fun q => h2 (mu_hld.2 q))
theorem mu_nei {x y : Int32} (h : ¬ x = y) : ¬ x.toInt = y.toInt := fun q => h (Int32.toInt_inj.mp q)
theorem mu_lswD {P : mmP} {pc : Nat} {ls : mmL} {st : List Value} {w : mmW} {k d : Nat} {Q : mmO → Prop} {dflt : Int} {ps : Array (Int × Int)} {z : Nat × Nat × Nat} {x : Int32} {tgt : Nat} (hc : P.1 k pc = some (.lookupswitch dflt ps, z)) (hs : (ps.toList.zip (ps.toList.drop 1)).all (fun (a, next) => a.1 < next.1) = true) (ho : Op.lookupswitch.offset ps.toList dflt x.toInt = dflt) (ht : (pc : Int) + dflt = (tgt : Int)) (g : mu_G P d k (tgt, ls, st, w) Q) : mu_G P d k (pc, ls, .int x :: st, w) Q := by
  refine mt_runs 1 ?_ g
  simp only [mm_run, hc, mm1, mm_lsw, hs, if_true, ho, mm_jp, ht]
  rfl
theorem mu_tswD {P : mmP} {pc : Nat} {ls : mmL} {st : List Value} {w : mmW} {k d : Nat} {Q : mmO → Prop} {dflt lo hi : Int} {offs : Array Int} {z : Nat × Nat × Nat} {x : Int32} {tgt : Nat} (hc : P.1 k pc = some (.tableswitch dflt lo hi offs, z)) (ho : x.toInt < lo ∨ hi < x.toInt) (ht : (pc : Int) + dflt = (tgt : Int)) (g : mu_G P d k (tgt, ls, st, w) Q) : mu_G P d k (pc, ls, .int x :: st, w) Q := by
  refine mt_runs 1 ?_ g
  simp only [mm_run, hc, mm1, mm_tsw, if_pos ho, mm_jp, ht]
  rfl
theorem mu_rng {x : Int32} {m : Nat} (h0 : 0 ≤ x.toInt) (h1 : x.toInt < (m : Int)) (hm : m < 2 ^ 31) : ∃ j : Nat, j < m ∧ x = Int32.ofNat j := by
  refine ⟨x.toInt.toNat, by omega, ?_⟩
  apply Int32.toInt_inj.mp
  rw [Int32.toInt_ofNat_of_lt (by omega)]
  omega
/-- an array that holds one value everywhere -/
theorem mu_aldU {P : mmP} {pc : Nat} {ls : mmL} {st : List Value} {w : mmW} {k d : Nat} {Q : mmO → Prop} {e : mmE} {q : Nat → Bool} {i : Int32} {x : Value} {t m : Nat} {v : Value} (hc : P.1 k pc = some e) (he : ∀ call ls st w, mm1 P call e pc ls st w = mm_ald q P pc ls st w) (hw : mm_cell P w x = some (.inl t, List.replicate m v)) (hq : q t = true) (h0 : 0 ≤ i.toInt) (h1 : i.toInt < (m : Int)) (g : mu_G P d k (pc + 1, ls, v :: st, w) Q) : mu_G P d k (pc, ls, .int i :: x :: st, w) Q := by
  refine mt_runs 1 ?_ g
  have hn : ¬ i < 0 := fun h => by
    have := Int32.lt_iff_toInt_lt.mp h
    have e0 : (0 : Int32).toInt = 0 := by decide
    omega
  have hk : i.toNatClampNeg < m := by
    show i.toInt.toNat < m
    omega
  have hv : (List.replicate m v)[i.toNatClampNeg]? = some v := by
    rw [List.getElem?_replicate, if_pos hk]
  simp only [mm_run, hc, he, mm_ald, hw]
  rw [if_pos ⟨hq, hn⟩]
  simp only [hv]
  rfl
theorem mu_ev {P : mmP} {d a : Nat} {as : List Value} {w : mmW} {o0 : mmO} (hl : (mm_args as).length ≤ P.2.2.2.2 a) (h : mu_G P d a (0, mm_entry (P.2.2.2.2 a) as, [], w) (fun o => o = o0)) : ∃ N0, mm_ev P N0 (d + 1) a as w = some o0 := by
  obtain ⟨N, n, o, h1, rfl⟩ := h
  refine ⟨max N n, ?_⟩
  unfold mm_ev
  rw [if_pos hl]
  exact mm_go_up (fun _ _ _ _ q => mm_ev_up (by omega) q) (by omega) h1
theorem mt_callX {P : mmP} {pc : Nat} {ls : mmL} {st : List Value} {w : mmW} {k d : Nat} {Q : mmO → Prop} {i : Instr} {a b t : Nat} {o : mmO} (hc : P.1 k pc = some (i, a, b, t)) (hm : ∀ call, mm1 P call (i, a, b, t) pc ls st w = mm_call P call a b t pc ls st w) (hq : b ≤ st.length ∧ mm_cat (st.drop b) ≤ 8 ∧ mm_recv P t w (st.take b).reverse = true) (he : ∃ N0, mm_ev P N0 d a (st.take b).reverse w = some o)
    (g : mu_G P d k (pc + 3, ls, o.1.toList ++ st.drop b, o.2) Q) : mu_G P d k (pc, ls, st, w) Q := by
  obtain ⟨N0, he⟩ := he
  exact mt_callE hc hm hq he g
