/-! one turn of the law's loop, said by the functions of both programs: laid by wip/whole/lawgen.py -/
def lx (xs : List Int32) (i j : Nat) : Int := (xs.getD (i + j) 0).toInt
abbrev lwL (i : Nat) : mmL := [some (.retAddr 0), some (.ref 0), some (.ref 387), some (.int (Int32.ofNat i))]
theorem lw_and31 (x : Int32) : ∃ j : Nat, j < 32 ∧ x &&& 31 = Int32.ofNat j := by
  refine ⟨(x &&& 31).toUInt32.toNat, ?_, ?_⟩
  · have h : (x &&& 31).toUInt32.toNat = x.toUInt32.toNat &&& 31 := rfl
    rw [h]
    exact Nat.lt_of_le_of_lt Nat.and_le_right (by decide)
  · have h : ∀ z : Int32, z = Int32.ofNat z.toUInt32.toNat := fun z => by
      cases z with
      | ofUInt32 u => exact congrArg Int32.ofUInt32 (UInt32.ofNat_toNat).symm
    exact h _
theorem lx_uv (xs : List Int32) (i j : Nat) : uv (vI (lx xs i j)) = .int (xs.getD (i + j) 0) := uvI _
theorem lx_rg (xs : List Int32) (i j : Nat) : rg (lx xs i j) := rg_t _
section LWS
variable {xs : List Int32} {d i pc : Nat} {st : List Value} {w : mmW} {h : hS} {Q : mmO → Prop}
theorem lw_run1 {ls ls' : mmL} {st' : List Value} {pc' : Nat} {e : mmE} (hc : mt_code 301 pc = some e) (h1 : mm1 (mt_P xs) (fun _ _ _ => none) e pc ls st w = some (.inr (pc', ls', st', w))) (g : mu_G (mt_P xs) d 301 (pc', ls', st', w) Q) : mu_G (mt_P xs) d 301 (pc, ls, st, w) Q := by
  refine mt_runs 1 ?_ g
  have hc' : (mt_P xs).1 301 pc = some e := hc
  simp only [mm_run, hc', h1]
theorem lw_x {j : Nat} {jj : Int} {z0 z1 z2 z3 z4 : Nat × Nat × Nat} (hj : jj = (j : Int)) (hi : i + j < xs.length) (hl : xs.length ≤ 3072) (h0 : mt_code 301 pc = some (.aload_n 0, z0)) (h1 : mt_code 301 (pc + 1) = some (.iload_n 3, z1)) (h2 : mt_code 301 (pc + 2) = some (.iconst jj, z2)) (h3 : mt_code 301 (pc + 3) = some (.iadd, z3)) (h4 : mt_code 301 (pc + 4) = some (.iaload, z4)) (g : mu_G (mt_P xs) d 301 (pc + 5, lwL i, .int (xs.getD (i + j) 0) :: st, w) Q) : mu_G (mt_P xs) d 301 (pc, lwL i, st, w) Q := by
  subst hj
  refine lw_run1 (st' := .retAddr 0 :: st) (ls' := lwL i) (pc' := pc + 1) h0 rfl ?_
  refine lw_run1 (st' := .int (Int32.ofNat i) :: .retAddr 0 :: st) (ls' := lwL i) (pc' := pc + 2) h1 rfl ?_
  refine lw_run1 (st' := .int (Int32.ofInt (j : Int)) :: .int (Int32.ofNat i) :: .retAddr 0 :: st) (ls' := lwL i) (pc' := pc + 3) h2 rfl ?_
  refine lw_run1 (st' := .int (Int32.ofNat i + Int32.ofInt (j : Int)) :: .retAddr 0 :: st) (ls' := lwL i) (pc' := pc + 4) h3 rfl ?_
  refine lw_run1 (st' := .int (xs.getD (i + j) 0) :: st) (ls' := lwL i) (pc' := pc + 5) h4 ?_ g
  have e1 : Int32.ofNat i + Int32.ofInt (j : Int) = Int32.ofInt ((i + j : Nat) : Int) := by
    rw [← w_nat (show i < 2147483648 by omega), ← Int32.ofInt_add]
    rfl
  have e2 : (Int32.ofInt ((i + j : Nat) : Int)).toInt = ((i + j : Nat) : Int) := Int32.toInt_ofInt_of_le (by omega) (by omega)
  have e3 : ¬ Int32.ofInt ((i + j : Nat) : Int) < 0 := by
    intro c
    have := Int32.lt_iff_toInt_lt.mp c
    rw [e2] at this
    have e0 : (0 : Int32).toInt = 0 := by decide
    omega
  have e4 : (Int32.ofInt ((i + j : Nat) : Int)).toNatClampNeg = i + j := by
    show (Int32.ofInt ((i + j : Nat) : Int)).toInt.toNat = _
    rw [e2]
    omega
  show mm_ald (fun t => t == 0) (mt_P xs) (pc + 4) (lwL i) (.int (Int32.ofNat i + Int32.ofInt (j : Int)) :: .retAddr 0 :: st) w = _
  rw [e1]
  have e5 : mm_cell (mt_P xs) w (.retAddr 0) = some (.inl 0, xs.map .int) := rfl
  simp only [mm_ald, e5]
  rw [if_pos ⟨rfl, e3⟩, e4, List.getElem?_map, List.getElem?_eq_getElem hi]
  have e6 : xs.getD (i + j) 0 = xs[i + j] := by
    rw [List.getD_eq_getElem?_getD, List.getElem?_eq_getElem hi]
    rfl
  rw [e6]
  rfl
theorem lw_call {ii : Instr} {a b t : Nat} {as : List hV} {st' : List Value} {Q1 : mmO → Prop} (hc : mt_code 301 pc = some (ii, a, b, t)) (hm : ∀ call ls st w, mm1 (mt_P xs) call (ii, a, b, t) pc ls st w = mm_call (mt_P xs) call a b t pc ls st w) (ha : (st.take b).reverse = as.map uv) (hd : st.drop b = st') (hb : b ≤ st.length) (h8 : mm_cat st' ≤ 8) (hr : mm_recv mt_P0 t w (as.map uv) = true) (e : hEv d a as w Q1) (g : ∀ o : mmO, Q1 o → mu_G (mt_P xs) d 301 (pc + 3, lwL i, o.1.toList ++ st', o.2) Q) : mu_G (mt_P xs) d 301 (pc, lwL i, st, w) Q := by
  obtain ⟨N, o, e1, e2⟩ := e
  have hr' : mm_recv (mt_P xs) t w (as.map uv) = true := by
    rw [mt_P_wo]
    exact mm_recv_old (mt_o0_ok xs) hr
  refine mt_callX (o := o) (a := a) (b := b) (t := t) hc (fun call => hm call _ _ _) ⟨hb, by rw [hd]; exact h8, by rw [ha]; exact hr'⟩ ⟨N, by rw [ha]; exact mt_ev0 xs e1⟩ ?_
  rw [hd]
  exact g o e2
set_option maxRecDepth 100000 in
/-- from the comparison's end to the next turn -/
theorem lw_next (hi : i + 6 ≤ 4000) (g : mu_G (mt_P xs) d 301 (18, lwL (i + 6), [], w) Q) : mu_G (mt_P xs) d 301 (958, lwL i, [], w) Q := by
  have e1 : Int32.ofNat i + 6 = Int32.ofNat (i + 6) := by
    rw [← w_nat (show i < 2147483648 by omega), ← w_nat (show i + 6 < 2147483648 by omega)]
    show Int32.ofInt (i : Int) + Int32.ofInt 6 = _
    rw [← Int32.ofInt_add]
    rfl
  refine mt_runs 1 (f' := (961, [some (.retAddr 0), some (.ref 0), some (.ref 387), some (.int (Int32.ofNat i + 6))], [], w)) rfl ?_
  rw [e1]
  refine mt_runs 1 (f' := (18, lwL (i + 6), [], w)) rfl ?_
  exact g
theorem lw_same {a b : Int} {off : Int} {z : Nat × Nat × Nat} (hi : i + 6 ≤ 4000) (hc : mt_code 301 pc = some (.if_icmp .eq off, z)) (ht : (pc : Int) + off = ((958 : Nat) : Int)) (hab : a = b) (g : mu_G (mt_P xs) d 301 (18, lwL (i + 6), [], w) Q) : mu_G (mt_P xs) d 301 (pc, lwL i, [.int (Int32.ofInt b), .int (Int32.ofInt a)], w) Q := by
  subst hab
  refine mu_icmp (tgt := 958) hc ht (fun _ => lw_next hi g) (fun q => absurd (show (Int32.ofInt a).toInt = (Int32.ofInt a).toInt from rfl) q)

def lwz (x : Int) : Int := if x = 0 then 0 else 1
theorem lwz_rg (x : Int) : rg (lwz x) := by unfold lwz; split; exact rgn 0 rfl; exact rgn 1 rfl
theorem lwz_run {j tgt : Nat} {off o2 : Int} {z0 z1 z2 z3 : Nat × Nat × Nat} (hc : mt_code 301 pc = some (.ifCond .eq off, z0)) (ht : (pc : Int) + off = (tgt : Int)) (h1 : mt_code 301 (pc + 3) = some (.iconst 1, z1)) (h2 : mt_code 301 (pc + 4) = some (.goto o2, z2)) (h2t : ((pc + 4 : Nat) : Int) + o2 = ((tgt + 1 : Nat) : Int)) (h3 : mt_code 301 tgt = some (.iconst 0, z3)) (_ : True = True) (_ : True = True) (g : mu_G (mt_P xs) d 301 (tgt + 1, lwL i, .int (Int32.ofInt (lwz (lx xs i j))) :: st, w) Q) : mu_G (mt_P xs) d 301 (pc, lwL i, .int (xs.getD (i + j) 0) :: st, w) Q := by
  refine mu_if hc ht (fun q => ?_) (fun q => ?_)
  · have q : lx xs i j = 0 := q
    refine lw_run1 (st' := .int (Int32.ofInt (lwz (lx xs i j))) :: st) (ls' := lwL i) (pc' := tgt + 1) h3 ?_ g
    rw [q]
    rfl
  · have q : ¬ lx xs i j = 0 := q
    refine lw_run1 (st' := .int (Int32.ofInt (lwz (lx xs i j))) :: st) (ls' := lwL i) (pc' := pc + 4) h1 ?_ ?_
    · unfold lwz
      rw [if_neg q]
      rfl
    · refine lw_run1 (st' := .int (Int32.ofInt (lwz (lx xs i j))) :: st) (ls' := lwL i) (pc' := tgt + 1) h2 ?_ g
      show mm_jp (pc + 4) o2 _ _ w = _
      unfold mm_jp
      rw [h2t]
      rfl
theorem lg_cmp_self (p : Int64) : lg_cmp p p = 0 := by unfold lg_cmp; simp
def lw0 (xs : List Int32) (i : Nat) (h : hS) : Option (Bool × hS) := (c20 (lx xs i 1) (lx xs i 2) (lx xs i 3) (lx xs i 4) (lx xs i 5) h).bind (fun p => (c233 (lx xs i 1) (lx xs i 2) (lx xs i 3) (lx xs i 4) (lx xs i 5) p.2).bind (fun q => some (decide (p.1 = q.1), q.2)))
def lw1 (xs : List Int32) (i : Nat) (h : hS) : Option (Bool × hS) := (c22 (lx xs i 1) h).bind (fun p => (c234 (lx xs i 1) p.2).bind (fun q => some (decide (p.1 = q.1), q.2)))
def lw2 (xs : List Int32) (i : Nat) (h : hS) : Option (Bool × hS) := (c23  h).bind (fun p => (c235  p.2).bind (fun q => some (decide (p.1 = q.1), q.2)))
def lw3 (xs : List Int32) (i : Nat) (h : hS) : Option (Bool × hS) := (c41  h).bind (fun p => (c183  p.2).bind (fun q => some (decide (p.1 = q.1), q.2)))
def lw4 (xs : List Int32) (i : Nat) (h : hS) : Option (Bool × hS) := (c92  h).bind (fun p => (c227  p.2).bind (fun q => some (decide (p.1 = q.1), q.2)))
def lw5 (xs : List Int32) (i : Nat) (h : hS) : Option (Bool × hS) := (c97 (lx xs i 1) h).bind (fun p => (c232 (lx xs i 1) h).bind (fun q => some (decide (p = q), h)))
def lw6 (xs : List Int32) (i : Nat) (h : hS) : Option (Bool × hS) := (c98  h).bind (fun p => (c238  h).bind (fun q => some (decide (p = q), h)))
def lw7 (xs : List Int32) (i : Nat) (h : hS) : Option (Bool × hS) := (c99 (lx xs i 1) (lx xs i 2) h).bind (fun p => (c239 (lx xs i 1) (lx xs i 2) h).bind (fun q => some (decide (p = q), h)))
def lw8 (xs : List Int32) (i : Nat) (h : hS) : Option (Bool × hS) := (c100 (lx xs i 1) h).bind (fun p => (c236 (lx xs i 1) p.2).bind (fun q => some (decide (p.1 = q.1), q.2)))
def lw9 (xs : List Int32) (i : Nat) (h : hS) : Option (Bool × hS) := (c102 (lx xs i 1) h).bind (fun p => (c240 (lx xs i 1) h).bind (fun q => some (decide (p = q), h)))
def lw10 (xs : List Int32) (i : Nat) (h : hS) : Option (Bool × hS) := (c104 (lx xs i 1) h).bind (fun p => (c242 (lx xs i 1) h).bind (fun q => some (decide (p = q), h)))
def lw11 (xs : List Int32) (i : Nat) (h : hS) : Option (Bool × hS) := (c105 (lx xs i 1) (lx xs i 2) h).bind (fun p => (c243 (lx xs i 1) (lx xs i 2) h).bind (fun q => some (decide (p = q), h)))
def lw12 (xs : List Int32) (i : Nat) (h : hS) : Option (Bool × hS) := (c107 (lx xs i 1) (lx xs i 2) h).bind (fun p => (c245 (lx xs i 1) (lx xs i 2) h).bind (fun q => some (decide (p = q), h)))
def lw13 (xs : List Int32) (i : Nat) (h : hS) : Option (Bool × hS) := (c109 (lx xs i 1) (lx xs i 2) (lx xs i 3) h).bind (fun p => (c246 (lx xs i 1) (lx xs i 2) (lx xs i 3) p.2).bind (fun q => some (decide (p.1 = q.1), q.2)))
def lw14 (xs : List Int32) (i : Nat) (h : hS) : Option (Bool × hS) := (c110 (lx xs i 1) (lx xs i 2) h).bind (fun p => (c247 (lx xs i 1) (lx xs i 2) h).bind (fun q => some (decide (p = q), h)))
def lw15 (xs : List Int32) (i : Nat) (h : hS) : Option (Bool × hS) := (c112 (lx xs i 1) (lx xs i 2) (lx xs i 3) h).bind (fun p => (c250 (lx xs i 1) (lx xs i 2) (lx xs i 3) p.2).bind (fun q => some (decide (p.1 = q.1), q.2)))
def lw16 (xs : List Int32) (i : Nat) (h : hS) : Option (Bool × hS) := (c134 (lx xs i 1) h).bind (fun p => (c269 (lx xs i 1) h).bind (fun q => some (decide (p = q), h)))
def lw17 (xs : List Int32) (i : Nat) (h : hS) : Option (Bool × hS) := (c135 (lx xs i 1) h).bind (fun p => (c270 (lx xs i 1) p.2).bind (fun q => some (decide (p.1 = q.1), q.2)))
def lw18 (xs : List Int32) (i : Nat) (h : hS) : Option (Bool × hS) := (c136  h).bind (fun p => (c271  p.2).bind (fun q => some (decide (p.1 = q.1), q.2)))
def lw19 (xs : List Int32) (i : Nat) (h : hS) : Option (Bool × hS) := (c166 (lx xs i 1) h).bind (fun p => (c291 (lx xs i 1) h).bind (fun q => some (decide (p = q), h)))
def lw20 (xs : List Int32) (i : Nat) (h : hS) : Option (Bool × hS) := (c167 (lx xs i 1) (lx xs i 2) h).bind (fun p => (c292 (lx xs i 1) (lx xs i 2) h).bind (fun q => some (decide (p = q), h)))
def lw21 (xs : List Int32) (i : Nat) (h : hS) : Option (Bool × hS) := (c168 (lx xs i 1) (lx xs i 2) (lx xs i 3) h).bind (fun p => (c293 (lx xs i 1) (lx xs i 2) (lx xs i 3) p.2).bind (fun q => some (decide (p.1 = q.1), q.2)))
def lw22 (xs : List Int32) (i : Nat) (h : hS) : Option (Bool × hS) := (c170 (lx xs i 1) (lx xs i 2) h).bind (fun p => (c294 (lx xs i 1) (lx xs i 2) h).bind (fun q => some (decide (p = q), h)))
def lw23 (xs : List Int32) (i : Nat) (h : hS) : Option (Bool × hS) := (c172 (lx xs i 1) (lwz (lx xs i 2)) h).bind (fun p => (c295 (lx xs i 1) (lwz (lx xs i 2)) p.2).bind (fun q => some (decide (p.1 = q.1), q.2)))
def lw24 (xs : List Int32) (i : Nat) (h : hS) : Option (Bool × hS) := (c173 (lx xs i 1) h).bind (fun p => (c296 (lx xs i 1) p.2).bind (fun q => some (decide (p.1 = q.1), q.2)))
def lw25 (xs : List Int32) (i : Nat) (h : hS) : Option (Bool × hS) := (c175 (lx xs i 1) h).bind (fun p => (c297 (lx xs i 1) h).bind (fun q => some (decide (p = q), h)))
def lw26 (xs : List Int32) (i : Nat) (h : hS) : Option (Bool × hS) := (c176 (lx xs i 1) h).bind (fun p => (c298 (lx xs i 1) h).bind (fun q => some (decide (p = q), h)))
def lw27 (xs : List Int32) (i : Nat) (h : hS) : Option (Bool × hS) := (c177  h).bind (fun p => (c299  p.2).bind (fun q => some (decide (p.1 = q.1), q.2)))
def lw28 (xs : List Int32) (i : Nat) (h : hS) : Option (Bool × hS) := (c181 (lx xs i 1) h).bind (fun p => (c249 (lx xs i 1) h).bind (fun q => some (decide (p = q), h)))
set_option maxRecDepth 100000 in
theorem lwt0 {h' : hS} (hd : 900 ≤ d) (hi : i + 6 ≤ xs.length) (hl : xs.length ≤ 3072) (A : Abs h w) (e : lw0 xs i h = some (true, h')) (g : ∀ w', Abs h' w' → mu_G (mt_P xs) d 301 (18, lwL (i + 6), [], w') Q) : mu_G (mt_P xs) d 301 (164, lwL i, [], w) Q := by
  unfold lw0 at e
  obtain ⟨p, e1, e⟩ := ob e
  obtain ⟨q, e2, e⟩ := ob e
  have e3 := Option.some.inj e
  refine mt_runs 1 (f' := (165, lwL i, [.ref 0], _)) rfl ?_
  refine lw_x (j := 1) rfl (by omega) hl rfl rfl rfl rfl rfl ?_
  refine lw_x (j := 2) rfl (by omega) hl rfl rfl rfl rfl rfl ?_
  refine lw_x (j := 3) rfl (by omega) hl rfl rfl rfl rfl rfl ?_
  refine lw_x (j := 4) rfl (by omega) hl rfl rfl rfl rfl rfl ?_
  refine lw_x (j := 5) rfl (by omega) hl rfl rfl rfl rfl rfl ?_
  refine lw_call (as := [vR 8, vI (lx xs i 1), vI (lx xs i 2), vI (lx xs i 3), vI (lx xs i 4), vI (lx xs i 5)]) (st' := []) rfl (fun _ _ _ _ => rfl) (by simp only [List.map, lx_uv]; rfl) rfl (Nat.le_of_ble_eq_true rfl) (Nat.le_of_ble_eq_true rfl) (recvV A (a := 0) (Abs_ks A (i := 0) rfl).1) (t20 (by omega) A (lx_rg xs i 1) (lx_rg xs i 2) (lx_rg xs i 3) (lx_rg xs i 4) (lx_rg xs i 5) e1) (fun r hr => ?_)
  obtain ⟨r1, w1⟩ := r
  obtain ⟨hr1, rr1, A1⟩ := hr
  have hr1 : r1 = _ := hr1
  subst hr1
  show mu_G (mt_P xs) d 301 (193, lwL i, [.int (Int32.ofInt p.1)], _) Q
  refine mt_runs 1 (f' := (194, lwL i, [.ref 387, .int (Int32.ofInt p.1)], _)) rfl ?_
  refine lw_x (j := 1) rfl (by omega) hl rfl rfl rfl rfl rfl ?_
  refine lw_x (j := 2) rfl (by omega) hl rfl rfl rfl rfl rfl ?_
  refine lw_x (j := 3) rfl (by omega) hl rfl rfl rfl rfl rfl ?_
  refine lw_x (j := 4) rfl (by omega) hl rfl rfl rfl rfl rfl ?_
  refine lw_x (j := 5) rfl (by omega) hl rfl rfl rfl rfl rfl ?_
  refine lw_call (as := [vR 395, vI (lx xs i 1), vI (lx xs i 2), vI (lx xs i 3), vI (lx xs i 4), vI (lx xs i 5)]) (st' := [.int (Int32.ofInt p.1)]) rfl (fun _ _ _ _ => rfl) (by simp only [List.map, lx_uv]; rfl) rfl (Nat.le_of_ble_eq_true rfl) (Nat.le_of_ble_eq_true rfl) (recvV A1 (a := 13) (Abs_ks A1 (i := 23) rfl).1) (t233 (by omega) A1 (lx_rg xs i 1) (lx_rg xs i 2) (lx_rg xs i 3) (lx_rg xs i 4) (lx_rg xs i 5) e2) (fun r hr => ?_)
  obtain ⟨r1, w2⟩ := r
  obtain ⟨hr1, rr2, A2⟩ := hr
  have hr1 : r1 = _ := hr1
  subst hr1
  show mu_G (mt_P xs) d 301 (222, lwL i, [.int (Int32.ofInt q.1), .int (Int32.ofInt p.1)], _) Q
  have e4 := (Prod.mk.inj e3).1
  have e5 := (Prod.mk.inj e3).2
  subst e5
  exact lw_same (by omega) rfl (by decide) (of_decide_eq_true e4) (g _ A2)
set_option maxRecDepth 100000 in
theorem lwt1 {h' : hS} (hd : 900 ≤ d) (hi : i + 6 ≤ xs.length) (hl : xs.length ≤ 3072) (A : Abs h w) (e : lw1 xs i h = some (true, h')) (g : ∀ w', Abs h' w' → mu_G (mt_P xs) d 301 (18, lwL (i + 6), [], w') Q) : mu_G (mt_P xs) d 301 (227, lwL i, [], w) Q := by
  unfold lw1 at e
  obtain ⟨p, e1, e⟩ := ob e
  obtain ⟨q, e2, e⟩ := ob e
  have e3 := Option.some.inj e
  refine mt_runs 1 (f' := (228, lwL i, [.ref 0], _)) rfl ?_
  refine lw_x (j := 1) rfl (by omega) hl rfl rfl rfl rfl rfl ?_
  refine lw_call (as := [vR 8, vI (lx xs i 1)]) (st' := []) rfl (fun _ _ _ _ => rfl) (by simp only [List.map, lx_uv]; rfl) rfl (Nat.le_of_ble_eq_true rfl) (Nat.le_of_ble_eq_true rfl) (recvV A (a := 0) (Abs_ks A (i := 0) rfl).1) (t22 (by omega) A (lx_rg xs i 1) e1) (fun r hr => ?_)
  obtain ⟨r1, w1⟩ := r
  obtain ⟨hr1, rr1, A1⟩ := hr
  have hr1 : r1 = _ := hr1
  subst hr1
  show mu_G (mt_P xs) d 301 (236, lwL i, [.int (Int32.ofInt p.1)], _) Q
  refine mt_runs 1 (f' := (237, lwL i, [.ref 387, .int (Int32.ofInt p.1)], _)) rfl ?_
  refine lw_x (j := 1) rfl (by omega) hl rfl rfl rfl rfl rfl ?_
  refine lw_call (as := [vR 395, vI (lx xs i 1)]) (st' := [.int (Int32.ofInt p.1)]) rfl (fun _ _ _ _ => rfl) (by simp only [List.map, lx_uv]; rfl) rfl (Nat.le_of_ble_eq_true rfl) (Nat.le_of_ble_eq_true rfl) (recvV A1 (a := 13) (Abs_ks A1 (i := 23) rfl).1) (t234 (by omega) A1 (lx_rg xs i 1) e2) (fun r hr => ?_)
  obtain ⟨r1, w2⟩ := r
  obtain ⟨hr1, rr2, A2⟩ := hr
  have hr1 : r1 = _ := hr1
  subst hr1
  show mu_G (mt_P xs) d 301 (245, lwL i, [.int (Int32.ofInt q.1), .int (Int32.ofInt p.1)], _) Q
  have e4 := (Prod.mk.inj e3).1
  have e5 := (Prod.mk.inj e3).2
  subst e5
  exact lw_same (by omega) rfl (by decide) (of_decide_eq_true e4) (g _ A2)
set_option maxRecDepth 100000 in
theorem lwt2 {h' : hS} (hd : 900 ≤ d) (hi : i + 6 ≤ xs.length) (hl : xs.length ≤ 3072) (A : Abs h w) (e : lw2 xs i h = some (true, h')) (g : ∀ w', Abs h' w' → mu_G (mt_P xs) d 301 (18, lwL (i + 6), [], w') Q) : mu_G (mt_P xs) d 301 (250, lwL i, [], w) Q := by
  unfold lw2 at e
  obtain ⟨p, e1, e⟩ := ob e
  obtain ⟨q, e2, e⟩ := ob e
  have e3 := Option.some.inj e
  refine mt_runs 1 (f' := (251, lwL i, [.ref 0], _)) rfl ?_
  refine lw_call (as := [vR 8]) (st' := []) rfl (fun _ _ _ _ => rfl) (by simp only [List.map, lx_uv]; rfl) rfl (Nat.le_of_ble_eq_true rfl) (Nat.le_of_ble_eq_true rfl) (recvV A (a := 0) (Abs_ks A (i := 0) rfl).1) (t23 (by omega) A  e1) (fun r hr => ?_)
  obtain ⟨r1, w1⟩ := r
  obtain ⟨hr1, rr1, A1⟩ := hr
  have hr1 : r1 = _ := hr1
  subst hr1
  show mu_G (mt_P xs) d 301 (254, lwL i, [.int (Int32.ofInt p.1)], _) Q
  refine mt_runs 1 (f' := (255, lwL i, [.ref 387, .int (Int32.ofInt p.1)], _)) rfl ?_
  refine lw_call (as := [vR 395]) (st' := [.int (Int32.ofInt p.1)]) rfl (fun _ _ _ _ => rfl) (by simp only [List.map, lx_uv]; rfl) rfl (Nat.le_of_ble_eq_true rfl) (Nat.le_of_ble_eq_true rfl) (recvV A1 (a := 13) (Abs_ks A1 (i := 23) rfl).1) (t235 (by omega) A1  e2) (fun r hr => ?_)
  obtain ⟨r1, w2⟩ := r
  obtain ⟨hr1, rr2, A2⟩ := hr
  have hr1 : r1 = _ := hr1
  subst hr1
  show mu_G (mt_P xs) d 301 (258, lwL i, [.int (Int32.ofInt q.1), .int (Int32.ofInt p.1)], _) Q
  have e4 := (Prod.mk.inj e3).1
  have e5 := (Prod.mk.inj e3).2
  subst e5
  exact lw_same (by omega) rfl (by decide) (of_decide_eq_true e4) (g _ A2)
set_option maxRecDepth 100000 in
theorem lwt3 {h' : hS} (hd : 900 ≤ d) (hi : i + 6 ≤ xs.length) (hl : xs.length ≤ 3072) (A : Abs h w) (e : lw3 xs i h = some (true, h')) (g : ∀ w', Abs h' w' → mu_G (mt_P xs) d 301 (18, lwL (i + 6), [], w') Q) : mu_G (mt_P xs) d 301 (263, lwL i, [], w) Q := by
  unfold lw3 at e
  obtain ⟨p, e1, e⟩ := ob e
  obtain ⟨q, e2, e⟩ := ob e
  have e3 := Option.some.inj e
  refine mt_runs 1 (f' := (264, lwL i, [.ref 0], _)) rfl ?_
  refine lw_call (as := [vR 8]) (st' := []) rfl (fun _ _ _ _ => rfl) (by simp only [List.map, lx_uv]; rfl) rfl (Nat.le_of_ble_eq_true rfl) (Nat.le_of_ble_eq_true rfl) (recvV A (a := 0) (Abs_ks A (i := 0) rfl).1) (t41 (by omega) A  e1) (fun r hr => ?_)
  obtain ⟨r1, w1⟩ := r
  obtain ⟨hr1, rr1, A1⟩ := hr
  have hr1 : r1 = _ := hr1
  subst hr1
  show mu_G (mt_P xs) d 301 (267, lwL i, [.int (Int32.ofInt p.1)], _) Q
  refine mt_runs 1 (f' := (268, lwL i, [.ref 387, .int (Int32.ofInt p.1)], _)) rfl ?_
  refine lw_call (as := [vR 395]) (st' := [.int (Int32.ofInt p.1)]) rfl (fun _ _ _ _ => rfl) (by simp only [List.map, lx_uv]; rfl) rfl (Nat.le_of_ble_eq_true rfl) (Nat.le_of_ble_eq_true rfl) (recvV A1 (a := 13) (Abs_ks A1 (i := 23) rfl).1) (t183 (by omega) A1  e2) (fun r hr => ?_)
  obtain ⟨r1, w2⟩ := r
  obtain ⟨hr1, rr2, A2⟩ := hr
  have hr1 : r1 = _ := hr1
  subst hr1
  show mu_G (mt_P xs) d 301 (271, lwL i, [.int (Int32.ofInt q.1), .int (Int32.ofInt p.1)], _) Q
  have e4 := (Prod.mk.inj e3).1
  have e5 := (Prod.mk.inj e3).2
  subst e5
  exact lw_same (by omega) rfl (by decide) (of_decide_eq_true e4) (g _ A2)
set_option maxRecDepth 100000 in
theorem lwt4 {h' : hS} (hd : 900 ≤ d) (hi : i + 6 ≤ xs.length) (hl : xs.length ≤ 3072) (A : Abs h w) (e : lw4 xs i h = some (true, h')) (g : ∀ w', Abs h' w' → mu_G (mt_P xs) d 301 (18, lwL (i + 6), [], w') Q) : mu_G (mt_P xs) d 301 (276, lwL i, [], w) Q := by
  unfold lw4 at e
  obtain ⟨p, e1, e⟩ := ob e
  obtain ⟨q, e2, e⟩ := ob e
  have e3 := Option.some.inj e
  refine mt_runs 1 (f' := (277, lwL i, [.ref 0], _)) rfl ?_
  refine lw_call (as := [vR 8]) (st' := []) rfl (fun _ _ _ _ => rfl) (by simp only [List.map, lx_uv]; rfl) rfl (Nat.le_of_ble_eq_true rfl) (Nat.le_of_ble_eq_true rfl) (recvV A (a := 0) (Abs_ks A (i := 0) rfl).1) (t92 (by omega) A  e1) (fun r hr => ?_)
  obtain ⟨r1, w1⟩ := r
  obtain ⟨hr1, rr1, A1⟩ := hr
  have hr1 : r1 = _ := hr1
  subst hr1
  show mu_G (mt_P xs) d 301 (280, lwL i, [.int (Int32.ofInt p.1)], _) Q
  refine mt_runs 1 (f' := (281, lwL i, [.ref 387, .int (Int32.ofInt p.1)], _)) rfl ?_
  refine lw_call (as := [vR 395]) (st' := [.int (Int32.ofInt p.1)]) rfl (fun _ _ _ _ => rfl) (by simp only [List.map, lx_uv]; rfl) rfl (Nat.le_of_ble_eq_true rfl) (Nat.le_of_ble_eq_true rfl) (recvV A1 (a := 13) (Abs_ks A1 (i := 23) rfl).1) (t227 (by omega) A1  e2) (fun r hr => ?_)
  obtain ⟨r1, w2⟩ := r
  obtain ⟨hr1, rr2, A2⟩ := hr
  have hr1 : r1 = _ := hr1
  subst hr1
  show mu_G (mt_P xs) d 301 (284, lwL i, [.int (Int32.ofInt q.1), .int (Int32.ofInt p.1)], _) Q
  have e4 := (Prod.mk.inj e3).1
  have e5 := (Prod.mk.inj e3).2
  subst e5
  exact lw_same (by omega) rfl (by decide) (of_decide_eq_true e4) (g _ A2)
set_option maxRecDepth 100000 in
theorem lwt5 {h' : hS} (hd : 900 ≤ d) (hi : i + 6 ≤ xs.length) (hl : xs.length ≤ 3072) (A : Abs h w) (e : lw5 xs i h = some (true, h')) (g : ∀ w', Abs h' w' → mu_G (mt_P xs) d 301 (18, lwL (i + 6), [], w') Q) : mu_G (mt_P xs) d 301 (289, lwL i, [], w) Q := by
  unfold lw5 at e
  obtain ⟨p, e1, e⟩ := ob e
  obtain ⟨q, e2, e⟩ := ob e
  have e3 := Option.some.inj e
  refine mt_runs 1 (f' := (290, lwL i, [.ref 0], _)) rfl ?_
  refine lw_x (j := 1) rfl (by omega) hl rfl rfl rfl rfl rfl ?_
  refine lw_call (as := [vR 8, vI (lx xs i 1)]) (st' := []) rfl (fun _ _ _ _ => rfl) (by simp only [List.map, lx_uv]; rfl) rfl (Nat.le_of_ble_eq_true rfl) (Nat.le_of_ble_eq_true rfl) (recvV A (a := 0) (Abs_ks A (i := 0) rfl).1) (t97 (by omega) A (lx_rg xs i 1) e1) (fun r hr => ?_)
  obtain ⟨hr1, rr1⟩ := hr
  subst hr1
  show mu_G (mt_P xs) d 301 (298, lwL i, [.int (Int32.ofInt p)], _) Q
  refine mt_runs 1 (f' := (299, lwL i, [.ref 387, .int (Int32.ofInt p)], _)) rfl ?_
  refine lw_x (j := 1) rfl (by omega) hl rfl rfl rfl rfl rfl ?_
  refine lw_call (as := [vR 395, vI (lx xs i 1)]) (st' := [.int (Int32.ofInt p)]) rfl (fun _ _ _ _ => rfl) (by simp only [List.map, lx_uv]; rfl) rfl (Nat.le_of_ble_eq_true rfl) (Nat.le_of_ble_eq_true rfl) (recvV A (a := 13) (Abs_ks A (i := 23) rfl).1) (t232 (by omega) A (lx_rg xs i 1) e2) (fun r hr => ?_)
  obtain ⟨hr1, rr2⟩ := hr
  subst hr1
  show mu_G (mt_P xs) d 301 (307, lwL i, [.int (Int32.ofInt q), .int (Int32.ofInt p)], _) Q
  have e4 := (Prod.mk.inj e3).1
  have e5 := (Prod.mk.inj e3).2
  subst e5
  exact lw_same (by omega) rfl (by decide) (of_decide_eq_true e4) (g _ A)
set_option maxRecDepth 100000 in
theorem lwt6 {h' : hS} (hd : 900 ≤ d) (hi : i + 6 ≤ xs.length) (hl : xs.length ≤ 3072) (A : Abs h w) (e : lw6 xs i h = some (true, h')) (g : ∀ w', Abs h' w' → mu_G (mt_P xs) d 301 (18, lwL (i + 6), [], w') Q) : mu_G (mt_P xs) d 301 (312, lwL i, [], w) Q := by
  unfold lw6 at e
  obtain ⟨p, e1, e⟩ := ob e
  obtain ⟨q, e2, e⟩ := ob e
  have e3 := Option.some.inj e
  refine mt_runs 1 (f' := (313, lwL i, [.ref 0], _)) rfl ?_
  refine lw_call (as := [vR 8]) (st' := []) rfl (fun _ _ _ _ => rfl) (by simp only [List.map, lx_uv]; rfl) rfl (Nat.le_of_ble_eq_true rfl) (Nat.le_of_ble_eq_true rfl) (recvV A (a := 0) (Abs_ks A (i := 0) rfl).1) (t98 (by omega) A  e1) (fun r hr => ?_)
  obtain ⟨hr1, rr1⟩ := hr
  subst hr1
  show mu_G (mt_P xs) d 301 (316, lwL i, [.int (Int32.ofInt p)], _) Q
  refine mt_runs 1 (f' := (317, lwL i, [.ref 387, .int (Int32.ofInt p)], _)) rfl ?_
  refine lw_call (as := [vR 395]) (st' := [.int (Int32.ofInt p)]) rfl (fun _ _ _ _ => rfl) (by simp only [List.map, lx_uv]; rfl) rfl (Nat.le_of_ble_eq_true rfl) (Nat.le_of_ble_eq_true rfl) (recvV A (a := 13) (Abs_ks A (i := 23) rfl).1) (t238 (by omega) A  e2) (fun r hr => ?_)
  obtain ⟨hr1, rr2⟩ := hr
  subst hr1
  show mu_G (mt_P xs) d 301 (320, lwL i, [.int (Int32.ofInt q), .int (Int32.ofInt p)], _) Q
  have e4 := (Prod.mk.inj e3).1
  have e5 := (Prod.mk.inj e3).2
  subst e5
  exact lw_same (by omega) rfl (by decide) (of_decide_eq_true e4) (g _ A)
set_option maxRecDepth 100000 in
theorem lwt7 {h' : hS} (hd : 900 ≤ d) (hi : i + 6 ≤ xs.length) (hl : xs.length ≤ 3072) (A : Abs h w) (e : lw7 xs i h = some (true, h')) (g : ∀ w', Abs h' w' → mu_G (mt_P xs) d 301 (18, lwL (i + 6), [], w') Q) : mu_G (mt_P xs) d 301 (325, lwL i, [], w) Q := by
  unfold lw7 at e
  obtain ⟨p, e1, e⟩ := ob e
  obtain ⟨q, e2, e⟩ := ob e
  have e3 := Option.some.inj e
  refine mt_runs 1 (f' := (326, lwL i, [.ref 0], _)) rfl ?_
  refine lw_x (j := 1) rfl (by omega) hl rfl rfl rfl rfl rfl ?_
  refine lw_x (j := 2) rfl (by omega) hl rfl rfl rfl rfl rfl ?_
  refine lw_call (as := [vR 8, vI (lx xs i 1), vI (lx xs i 2)]) (st' := []) rfl (fun _ _ _ _ => rfl) (by simp only [List.map, lx_uv]; rfl) rfl (Nat.le_of_ble_eq_true rfl) (Nat.le_of_ble_eq_true rfl) (recvV A (a := 0) (Abs_ks A (i := 0) rfl).1) (t99 (by omega) A (lx_rg xs i 1) (lx_rg xs i 2) e1) (fun r hr => ?_)
  obtain ⟨hr1, rr1⟩ := hr
  subst hr1
  show mu_G (mt_P xs) d 301 (339, lwL i, [.int (Int32.ofInt p)], _) Q
  refine mt_runs 1 (f' := (340, lwL i, [.ref 387, .int (Int32.ofInt p)], _)) rfl ?_
  refine lw_x (j := 1) rfl (by omega) hl rfl rfl rfl rfl rfl ?_
  refine lw_x (j := 2) rfl (by omega) hl rfl rfl rfl rfl rfl ?_
  refine lw_call (as := [vR 395, vI (lx xs i 1), vI (lx xs i 2)]) (st' := [.int (Int32.ofInt p)]) rfl (fun _ _ _ _ => rfl) (by simp only [List.map, lx_uv]; rfl) rfl (Nat.le_of_ble_eq_true rfl) (Nat.le_of_ble_eq_true rfl) (recvV A (a := 13) (Abs_ks A (i := 23) rfl).1) (t239 (by omega) A (lx_rg xs i 1) (lx_rg xs i 2) e2) (fun r hr => ?_)
  obtain ⟨hr1, rr2⟩ := hr
  subst hr1
  show mu_G (mt_P xs) d 301 (353, lwL i, [.int (Int32.ofInt q), .int (Int32.ofInt p)], _) Q
  have e4 := (Prod.mk.inj e3).1
  have e5 := (Prod.mk.inj e3).2
  subst e5
  exact lw_same (by omega) rfl (by decide) (of_decide_eq_true e4) (g _ A)
set_option maxRecDepth 100000 in
theorem lwt8 {h' : hS} (hd : 900 ≤ d) (hi : i + 6 ≤ xs.length) (hl : xs.length ≤ 3072) (A : Abs h w) (e : lw8 xs i h = some (true, h')) (g : ∀ w', Abs h' w' → mu_G (mt_P xs) d 301 (18, lwL (i + 6), [], w') Q) : mu_G (mt_P xs) d 301 (358, lwL i, [], w) Q := by
  unfold lw8 at e
  obtain ⟨p, e1, e⟩ := ob e
  obtain ⟨q, e2, e⟩ := ob e
  have e3 := Option.some.inj e
  refine mt_runs 1 (f' := (359, lwL i, [.ref 0], _)) rfl ?_
  refine lw_x (j := 1) rfl (by omega) hl rfl rfl rfl rfl rfl ?_
  refine lw_call (as := [vR 8, vI (lx xs i 1)]) (st' := []) rfl (fun _ _ _ _ => rfl) (by simp only [List.map, lx_uv]; rfl) rfl (Nat.le_of_ble_eq_true rfl) (Nat.le_of_ble_eq_true rfl) (recvV A (a := 0) (Abs_ks A (i := 0) rfl).1) (t100 (by omega) A (lx_rg xs i 1) e1) (fun r hr => ?_)
  obtain ⟨r1, w1⟩ := r
  obtain ⟨hr1, rr1, A1⟩ := hr
  have hr1 : r1 = _ := hr1
  subst hr1
  show mu_G (mt_P xs) d 301 (367, lwL i, [.int (Int32.ofInt p.1)], _) Q
  refine mt_runs 1 (f' := (368, lwL i, [.ref 387, .int (Int32.ofInt p.1)], _)) rfl ?_
  refine lw_x (j := 1) rfl (by omega) hl rfl rfl rfl rfl rfl ?_
  refine lw_call (as := [vR 395, vI (lx xs i 1)]) (st' := [.int (Int32.ofInt p.1)]) rfl (fun _ _ _ _ => rfl) (by simp only [List.map, lx_uv]; rfl) rfl (Nat.le_of_ble_eq_true rfl) (Nat.le_of_ble_eq_true rfl) (recvV A1 (a := 13) (Abs_ks A1 (i := 23) rfl).1) (t236 (by omega) A1 (lx_rg xs i 1) e2) (fun r hr => ?_)
  obtain ⟨r1, w2⟩ := r
  obtain ⟨hr1, rr2, A2⟩ := hr
  have hr1 : r1 = _ := hr1
  subst hr1
  show mu_G (mt_P xs) d 301 (376, lwL i, [.int (Int32.ofInt q.1), .int (Int32.ofInt p.1)], _) Q
  have e4 := (Prod.mk.inj e3).1
  have e5 := (Prod.mk.inj e3).2
  subst e5
  exact lw_same (by omega) rfl (by decide) (of_decide_eq_true e4) (g _ A2)
set_option maxRecDepth 100000 in
theorem lwt9 {h' : hS} (hd : 900 ≤ d) (hi : i + 6 ≤ xs.length) (hl : xs.length ≤ 3072) (A : Abs h w) (e : lw9 xs i h = some (true, h')) (g : ∀ w', Abs h' w' → mu_G (mt_P xs) d 301 (18, lwL (i + 6), [], w') Q) : mu_G (mt_P xs) d 301 (381, lwL i, [], w) Q := by
  unfold lw9 at e
  obtain ⟨p, e1, e⟩ := ob e
  obtain ⟨q, e2, e⟩ := ob e
  have e3 := Option.some.inj e
  refine mt_runs 1 (f' := (382, lwL i, [.ref 0], _)) rfl ?_
  refine lw_x (j := 1) rfl (by omega) hl rfl rfl rfl rfl rfl ?_
  refine lw_call (as := [vR 8, vI (lx xs i 1)]) (st' := []) rfl (fun _ _ _ _ => rfl) (by simp only [List.map, lx_uv]; rfl) rfl (Nat.le_of_ble_eq_true rfl) (Nat.le_of_ble_eq_true rfl) (recvV A (a := 0) (Abs_ks A (i := 0) rfl).1) (t102 (by omega) A (lx_rg xs i 1) e1) (fun r hr => ?_)
  obtain ⟨hr1, rr1⟩ := hr
  subst hr1
  show mu_G (mt_P xs) d 301 (390, lwL i, [.int (Int32.ofInt p)], _) Q
  refine mt_runs 1 (f' := (391, lwL i, [.ref 387, .int (Int32.ofInt p)], _)) rfl ?_
  refine lw_x (j := 1) rfl (by omega) hl rfl rfl rfl rfl rfl ?_
  refine lw_call (as := [vR 395, vI (lx xs i 1)]) (st' := [.int (Int32.ofInt p)]) rfl (fun _ _ _ _ => rfl) (by simp only [List.map, lx_uv]; rfl) rfl (Nat.le_of_ble_eq_true rfl) (Nat.le_of_ble_eq_true rfl) (recvV A (a := 13) (Abs_ks A (i := 23) rfl).1) (t240 (by omega) A (lx_rg xs i 1) e2) (fun r hr => ?_)
  obtain ⟨hr1, rr2⟩ := hr
  subst hr1
  show mu_G (mt_P xs) d 301 (399, lwL i, [.int (Int32.ofInt q), .int (Int32.ofInt p)], _) Q
  have e4 := (Prod.mk.inj e3).1
  have e5 := (Prod.mk.inj e3).2
  subst e5
  exact lw_same (by omega) rfl (by decide) (of_decide_eq_true e4) (g _ A)
set_option maxRecDepth 100000 in
theorem lwt10 {h' : hS} (hd : 900 ≤ d) (hi : i + 6 ≤ xs.length) (hl : xs.length ≤ 3072) (A : Abs h w) (e : lw10 xs i h = some (true, h')) (g : ∀ w', Abs h' w' → mu_G (mt_P xs) d 301 (18, lwL (i + 6), [], w') Q) : mu_G (mt_P xs) d 301 (404, lwL i, [], w) Q := by
  unfold lw10 at e
  obtain ⟨p, e1, e⟩ := ob e
  obtain ⟨q, e2, e⟩ := ob e
  have e3 := Option.some.inj e
  refine mt_runs 1 (f' := (405, lwL i, [.ref 0], _)) rfl ?_
  refine lw_x (j := 1) rfl (by omega) hl rfl rfl rfl rfl rfl ?_
  refine lw_call (as := [vR 8, vI (lx xs i 1)]) (st' := []) rfl (fun _ _ _ _ => rfl) (by simp only [List.map, lx_uv]; rfl) rfl (Nat.le_of_ble_eq_true rfl) (Nat.le_of_ble_eq_true rfl) (recvV A (a := 0) (Abs_ks A (i := 0) rfl).1) (t104 (by omega) A (lx_rg xs i 1) e1) (fun r hr => ?_)
  obtain ⟨hr1, rr1⟩ := hr
  subst hr1
  show mu_G (mt_P xs) d 301 (413, lwL i, [.int (Int32.ofInt p)], _) Q
  refine mt_runs 1 (f' := (414, lwL i, [.ref 387, .int (Int32.ofInt p)], _)) rfl ?_
  refine lw_x (j := 1) rfl (by omega) hl rfl rfl rfl rfl rfl ?_
  refine lw_call (as := [vR 395, vI (lx xs i 1)]) (st' := [.int (Int32.ofInt p)]) rfl (fun _ _ _ _ => rfl) (by simp only [List.map, lx_uv]; rfl) rfl (Nat.le_of_ble_eq_true rfl) (Nat.le_of_ble_eq_true rfl) (recvV A (a := 13) (Abs_ks A (i := 23) rfl).1) (t242 (by omega) A (lx_rg xs i 1) e2) (fun r hr => ?_)
  obtain ⟨hr1, rr2⟩ := hr
  subst hr1
  show mu_G (mt_P xs) d 301 (422, lwL i, [.int (Int32.ofInt q), .int (Int32.ofInt p)], _) Q
  have e4 := (Prod.mk.inj e3).1
  have e5 := (Prod.mk.inj e3).2
  subst e5
  exact lw_same (by omega) rfl (by decide) (of_decide_eq_true e4) (g _ A)
set_option maxRecDepth 100000 in
theorem lwt11 {h' : hS} (hd : 900 ≤ d) (hi : i + 6 ≤ xs.length) (hl : xs.length ≤ 3072) (A : Abs h w) (e : lw11 xs i h = some (true, h')) (g : ∀ w', Abs h' w' → mu_G (mt_P xs) d 301 (18, lwL (i + 6), [], w') Q) : mu_G (mt_P xs) d 301 (427, lwL i, [], w) Q := by
  unfold lw11 at e
  obtain ⟨p, e1, e⟩ := ob e
  obtain ⟨q, e2, e⟩ := ob e
  have e3 := Option.some.inj e
  refine mt_runs 1 (f' := (428, lwL i, [.ref 0], _)) rfl ?_
  refine lw_x (j := 1) rfl (by omega) hl rfl rfl rfl rfl rfl ?_
  refine lw_x (j := 2) rfl (by omega) hl rfl rfl rfl rfl rfl ?_
  refine lw_call (as := [vR 8, vI (lx xs i 1), vI (lx xs i 2)]) (st' := []) rfl (fun _ _ _ _ => rfl) (by simp only [List.map, lx_uv]; rfl) rfl (Nat.le_of_ble_eq_true rfl) (Nat.le_of_ble_eq_true rfl) (recvV A (a := 0) (Abs_ks A (i := 0) rfl).1) (t105 (by omega) A (lx_rg xs i 1) (lx_rg xs i 2) e1) (fun r hr => ?_)
  obtain ⟨hr1, rr1⟩ := hr
  subst hr1
  show mu_G (mt_P xs) d 301 (441, lwL i, [.int (Int32.ofInt p)], _) Q
  refine mt_runs 1 (f' := (442, lwL i, [.ref 387, .int (Int32.ofInt p)], _)) rfl ?_
  refine lw_x (j := 1) rfl (by omega) hl rfl rfl rfl rfl rfl ?_
  refine lw_x (j := 2) rfl (by omega) hl rfl rfl rfl rfl rfl ?_
  refine lw_call (as := [vR 395, vI (lx xs i 1), vI (lx xs i 2)]) (st' := [.int (Int32.ofInt p)]) rfl (fun _ _ _ _ => rfl) (by simp only [List.map, lx_uv]; rfl) rfl (Nat.le_of_ble_eq_true rfl) (Nat.le_of_ble_eq_true rfl) (recvV A (a := 13) (Abs_ks A (i := 23) rfl).1) (t243 (by omega) A (lx_rg xs i 1) (lx_rg xs i 2) e2) (fun r hr => ?_)
  obtain ⟨hr1, rr2⟩ := hr
  subst hr1
  show mu_G (mt_P xs) d 301 (455, lwL i, [.int (Int32.ofInt q), .int (Int32.ofInt p)], _) Q
  have e4 := (Prod.mk.inj e3).1
  have e5 := (Prod.mk.inj e3).2
  subst e5
  exact lw_same (by omega) rfl (by decide) (of_decide_eq_true e4) (g _ A)
set_option maxRecDepth 100000 in
theorem lwt12 {h' : hS} (hd : 900 ≤ d) (hi : i + 6 ≤ xs.length) (hl : xs.length ≤ 3072) (A : Abs h w) (e : lw12 xs i h = some (true, h')) (g : ∀ w', Abs h' w' → mu_G (mt_P xs) d 301 (18, lwL (i + 6), [], w') Q) : mu_G (mt_P xs) d 301 (460, lwL i, [], w) Q := by
  unfold lw12 at e
  obtain ⟨p, e1, e⟩ := ob e
  obtain ⟨q, e2, e⟩ := ob e
  have e3 := Option.some.inj e
  refine mt_runs 1 (f' := (461, lwL i, [.ref 0], _)) rfl ?_
  refine lw_x (j := 1) rfl (by omega) hl rfl rfl rfl rfl rfl ?_
  refine lw_x (j := 2) rfl (by omega) hl rfl rfl rfl rfl rfl ?_
  refine lw_call (as := [vR 8, vI (lx xs i 1), vI (lx xs i 2)]) (st' := []) rfl (fun _ _ _ _ => rfl) (by simp only [List.map, lx_uv]; rfl) rfl (Nat.le_of_ble_eq_true rfl) (Nat.le_of_ble_eq_true rfl) (recvV A (a := 0) (Abs_ks A (i := 0) rfl).1) (t107 (by omega) A (lx_rg xs i 1) (lx_rg xs i 2) e1) (fun r hr => ?_)
  obtain ⟨hr1, rr1⟩ := hr
  subst hr1
  show mu_G (mt_P xs) d 301 (474, lwL i, [.int (Int32.ofInt p)], _) Q
  refine mt_runs 1 (f' := (475, lwL i, [.ref 387, .int (Int32.ofInt p)], _)) rfl ?_
  refine lw_x (j := 1) rfl (by omega) hl rfl rfl rfl rfl rfl ?_
  refine lw_x (j := 2) rfl (by omega) hl rfl rfl rfl rfl rfl ?_
  refine lw_call (as := [vR 395, vI (lx xs i 1), vI (lx xs i 2)]) (st' := [.int (Int32.ofInt p)]) rfl (fun _ _ _ _ => rfl) (by simp only [List.map, lx_uv]; rfl) rfl (Nat.le_of_ble_eq_true rfl) (Nat.le_of_ble_eq_true rfl) (recvV A (a := 13) (Abs_ks A (i := 23) rfl).1) (t245 (by omega) A (lx_rg xs i 1) (lx_rg xs i 2) e2) (fun r hr => ?_)
  obtain ⟨hr1, rr2⟩ := hr
  subst hr1
  show mu_G (mt_P xs) d 301 (488, lwL i, [.int (Int32.ofInt q), .int (Int32.ofInt p)], _) Q
  have e4 := (Prod.mk.inj e3).1
  have e5 := (Prod.mk.inj e3).2
  subst e5
  exact lw_same (by omega) rfl (by decide) (of_decide_eq_true e4) (g _ A)
set_option maxRecDepth 100000 in
theorem lwt13 {h' : hS} (hd : 900 ≤ d) (hi : i + 6 ≤ xs.length) (hl : xs.length ≤ 3072) (A : Abs h w) (e : lw13 xs i h = some (true, h')) (g : ∀ w', Abs h' w' → mu_G (mt_P xs) d 301 (18, lwL (i + 6), [], w') Q) : mu_G (mt_P xs) d 301 (493, lwL i, [], w) Q := by
  unfold lw13 at e
  obtain ⟨p, e1, e⟩ := ob e
  obtain ⟨q, e2, e⟩ := ob e
  have e3 := Option.some.inj e
  refine mt_runs 1 (f' := (494, lwL i, [.ref 0], _)) rfl ?_
  refine lw_x (j := 1) rfl (by omega) hl rfl rfl rfl rfl rfl ?_
  refine lw_x (j := 2) rfl (by omega) hl rfl rfl rfl rfl rfl ?_
  refine lw_x (j := 3) rfl (by omega) hl rfl rfl rfl rfl rfl ?_
  refine lw_call (as := [vR 8, vI (lx xs i 1), vI (lx xs i 2), vI (lx xs i 3)]) (st' := []) rfl (fun _ _ _ _ => rfl) (by simp only [List.map, lx_uv]; rfl) rfl (Nat.le_of_ble_eq_true rfl) (Nat.le_of_ble_eq_true rfl) (recvV A (a := 0) (Abs_ks A (i := 0) rfl).1) (t109 (by omega) A (lx_rg xs i 1) (lx_rg xs i 2) (lx_rg xs i 3) e1) (fun r hr => ?_)
  obtain ⟨r1, w1⟩ := r
  obtain ⟨hr1, rr1, A1⟩ := hr
  have hr1 : r1 = _ := hr1
  subst hr1
  show mu_G (mt_P xs) d 301 (512, lwL i, [.int (Int32.ofInt p.1)], _) Q
  refine mt_runs 1 (f' := (513, lwL i, [.ref 387, .int (Int32.ofInt p.1)], _)) rfl ?_
  refine lw_x (j := 1) rfl (by omega) hl rfl rfl rfl rfl rfl ?_
  refine lw_x (j := 2) rfl (by omega) hl rfl rfl rfl rfl rfl ?_
  refine lw_x (j := 3) rfl (by omega) hl rfl rfl rfl rfl rfl ?_
  refine lw_call (as := [vR 395, vI (lx xs i 1), vI (lx xs i 2), vI (lx xs i 3)]) (st' := [.int (Int32.ofInt p.1)]) rfl (fun _ _ _ _ => rfl) (by simp only [List.map, lx_uv]; rfl) rfl (Nat.le_of_ble_eq_true rfl) (Nat.le_of_ble_eq_true rfl) (recvV A1 (a := 13) (Abs_ks A1 (i := 23) rfl).1) (t246 (by omega) A1 (lx_rg xs i 1) (lx_rg xs i 2) (lx_rg xs i 3) e2) (fun r hr => ?_)
  obtain ⟨r1, w2⟩ := r
  obtain ⟨hr1, rr2, A2⟩ := hr
  have hr1 : r1 = _ := hr1
  subst hr1
  show mu_G (mt_P xs) d 301 (531, lwL i, [.int (Int32.ofInt q.1), .int (Int32.ofInt p.1)], _) Q
  have e4 := (Prod.mk.inj e3).1
  have e5 := (Prod.mk.inj e3).2
  subst e5
  exact lw_same (by omega) rfl (by decide) (of_decide_eq_true e4) (g _ A2)
set_option maxRecDepth 100000 in
theorem lwt14 {h' : hS} (hd : 900 ≤ d) (hi : i + 6 ≤ xs.length) (hl : xs.length ≤ 3072) (A : Abs h w) (e : lw14 xs i h = some (true, h')) (g : ∀ w', Abs h' w' → mu_G (mt_P xs) d 301 (18, lwL (i + 6), [], w') Q) : mu_G (mt_P xs) d 301 (536, lwL i, [], w) Q := by
  unfold lw14 at e
  obtain ⟨p, e1, e⟩ := ob e
  obtain ⟨q, e2, e⟩ := ob e
  have e3 := Option.some.inj e
  refine mt_runs 1 (f' := (537, lwL i, [.ref 0], _)) rfl ?_
  refine lw_x (j := 1) rfl (by omega) hl rfl rfl rfl rfl rfl ?_
  refine lw_x (j := 2) rfl (by omega) hl rfl rfl rfl rfl rfl ?_
  refine lw_call (as := [vR 8, vI (lx xs i 1), vI (lx xs i 2)]) (st' := []) rfl (fun _ _ _ _ => rfl) (by simp only [List.map, lx_uv]; rfl) rfl (Nat.le_of_ble_eq_true rfl) (Nat.le_of_ble_eq_true rfl) (recvV A (a := 0) (Abs_ks A (i := 0) rfl).1) (t110 (by omega) A (lx_rg xs i 1) (lx_rg xs i 2) e1) (fun r hr => ?_)
  obtain ⟨hr1, rr1⟩ := hr
  subst hr1
  show mu_G (mt_P xs) d 301 (550, lwL i, [.int (Int32.ofInt p)], _) Q
  refine mt_runs 1 (f' := (551, lwL i, [.ref 387, .int (Int32.ofInt p)], _)) rfl ?_
  refine lw_x (j := 1) rfl (by omega) hl rfl rfl rfl rfl rfl ?_
  refine lw_x (j := 2) rfl (by omega) hl rfl rfl rfl rfl rfl ?_
  refine lw_call (as := [vR 395, vI (lx xs i 1), vI (lx xs i 2)]) (st' := [.int (Int32.ofInt p)]) rfl (fun _ _ _ _ => rfl) (by simp only [List.map, lx_uv]; rfl) rfl (Nat.le_of_ble_eq_true rfl) (Nat.le_of_ble_eq_true rfl) (recvV A (a := 13) (Abs_ks A (i := 23) rfl).1) (t247 (by omega) A (lx_rg xs i 1) (lx_rg xs i 2) e2) (fun r hr => ?_)
  obtain ⟨hr1, rr2⟩ := hr
  subst hr1
  show mu_G (mt_P xs) d 301 (564, lwL i, [.int (Int32.ofInt q), .int (Int32.ofInt p)], _) Q
  have e4 := (Prod.mk.inj e3).1
  have e5 := (Prod.mk.inj e3).2
  subst e5
  exact lw_same (by omega) rfl (by decide) (of_decide_eq_true e4) (g _ A)
set_option maxRecDepth 100000 in
theorem lwt15 {h' : hS} (hd : 900 ≤ d) (hi : i + 6 ≤ xs.length) (hl : xs.length ≤ 3072) (A : Abs h w) (e : lw15 xs i h = some (true, h')) (g : ∀ w', Abs h' w' → mu_G (mt_P xs) d 301 (18, lwL (i + 6), [], w') Q) : mu_G (mt_P xs) d 301 (569, lwL i, [], w) Q := by
  unfold lw15 at e
  obtain ⟨p, e1, e⟩ := ob e
  obtain ⟨q, e2, e⟩ := ob e
  have e3 := Option.some.inj e
  refine mt_runs 1 (f' := (570, lwL i, [.ref 0], _)) rfl ?_
  refine lw_x (j := 1) rfl (by omega) hl rfl rfl rfl rfl rfl ?_
  refine lw_x (j := 2) rfl (by omega) hl rfl rfl rfl rfl rfl ?_
  refine lw_x (j := 3) rfl (by omega) hl rfl rfl rfl rfl rfl ?_
  refine lw_call (as := [vR 8, vI (lx xs i 1), vI (lx xs i 2), vI (lx xs i 3)]) (st' := []) rfl (fun _ _ _ _ => rfl) (by simp only [List.map, lx_uv]; rfl) rfl (Nat.le_of_ble_eq_true rfl) (Nat.le_of_ble_eq_true rfl) (recvV A (a := 0) (Abs_ks A (i := 0) rfl).1) (t112 (by omega) A (lx_rg xs i 1) (lx_rg xs i 2) (lx_rg xs i 3) e1) (fun r hr => ?_)
  obtain ⟨r1, w1⟩ := r
  obtain ⟨hr1, rr1, A1⟩ := hr
  have hr1 : r1 = _ := hr1
  subst hr1
  show mu_G (mt_P xs) d 301 (588, lwL i, [.int (Int32.ofInt p.1)], _) Q
  refine mt_runs 1 (f' := (589, lwL i, [.ref 387, .int (Int32.ofInt p.1)], _)) rfl ?_
  refine lw_x (j := 1) rfl (by omega) hl rfl rfl rfl rfl rfl ?_
  refine lw_x (j := 2) rfl (by omega) hl rfl rfl rfl rfl rfl ?_
  refine lw_x (j := 3) rfl (by omega) hl rfl rfl rfl rfl rfl ?_
  refine lw_call (as := [vR 395, vI (lx xs i 1), vI (lx xs i 2), vI (lx xs i 3)]) (st' := [.int (Int32.ofInt p.1)]) rfl (fun _ _ _ _ => rfl) (by simp only [List.map, lx_uv]; rfl) rfl (Nat.le_of_ble_eq_true rfl) (Nat.le_of_ble_eq_true rfl) (recvV A1 (a := 13) (Abs_ks A1 (i := 23) rfl).1) (t250 (by omega) A1 (lx_rg xs i 1) (lx_rg xs i 2) (lx_rg xs i 3) e2) (fun r hr => ?_)
  obtain ⟨r1, w2⟩ := r
  obtain ⟨hr1, rr2, A2⟩ := hr
  have hr1 : r1 = _ := hr1
  subst hr1
  show mu_G (mt_P xs) d 301 (607, lwL i, [.int (Int32.ofInt q.1), .int (Int32.ofInt p.1)], _) Q
  have e4 := (Prod.mk.inj e3).1
  have e5 := (Prod.mk.inj e3).2
  subst e5
  exact lw_same (by omega) rfl (by decide) (of_decide_eq_true e4) (g _ A2)
set_option maxRecDepth 100000 in
theorem lwt16 {h' : hS} (hd : 900 ≤ d) (hi : i + 6 ≤ xs.length) (hl : xs.length ≤ 3072) (A : Abs h w) (e : lw16 xs i h = some (true, h')) (g : ∀ w', Abs h' w' → mu_G (mt_P xs) d 301 (18, lwL (i + 6), [], w') Q) : mu_G (mt_P xs) d 301 (612, lwL i, [], w) Q := by
  unfold lw16 at e
  obtain ⟨p, e1, e⟩ := ob e
  obtain ⟨q, e2, e⟩ := ob e
  have e3 := Option.some.inj e
  refine mt_runs 1 (f' := (613, lwL i, [.ref 0], _)) rfl ?_
  refine lw_x (j := 1) rfl (by omega) hl rfl rfl rfl rfl rfl ?_
  refine lw_call (as := [vR 8, vI (lx xs i 1)]) (st' := []) rfl (fun _ _ _ _ => rfl) (by simp only [List.map, lx_uv]; rfl) rfl (Nat.le_of_ble_eq_true rfl) (Nat.le_of_ble_eq_true rfl) (recvV A (a := 0) (Abs_ks A (i := 0) rfl).1) (t134 (by omega) A (lx_rg xs i 1) e1) (fun r hr => ?_)
  obtain ⟨hr1, rr1⟩ := hr
  subst hr1
  show mu_G (mt_P xs) d 301 (621, lwL i, [.int (Int32.ofInt p)], _) Q
  refine mt_runs 1 (f' := (622, lwL i, [.ref 387, .int (Int32.ofInt p)], _)) rfl ?_
  refine lw_x (j := 1) rfl (by omega) hl rfl rfl rfl rfl rfl ?_
  refine lw_call (as := [vR 395, vI (lx xs i 1)]) (st' := [.int (Int32.ofInt p)]) rfl (fun _ _ _ _ => rfl) (by simp only [List.map, lx_uv]; rfl) rfl (Nat.le_of_ble_eq_true rfl) (Nat.le_of_ble_eq_true rfl) (recvV A (a := 13) (Abs_ks A (i := 23) rfl).1) (t269 (by omega) A (lx_rg xs i 1) e2) (fun r hr => ?_)
  obtain ⟨hr1, rr2⟩ := hr
  subst hr1
  show mu_G (mt_P xs) d 301 (630, lwL i, [.int (Int32.ofInt q), .int (Int32.ofInt p)], _) Q
  have e4 := (Prod.mk.inj e3).1
  have e5 := (Prod.mk.inj e3).2
  subst e5
  exact lw_same (by omega) rfl (by decide) (of_decide_eq_true e4) (g _ A)
set_option maxRecDepth 100000 in
theorem lwt17 {h' : hS} (hd : 900 ≤ d) (hi : i + 6 ≤ xs.length) (hl : xs.length ≤ 3072) (A : Abs h w) (e : lw17 xs i h = some (true, h')) (g : ∀ w', Abs h' w' → mu_G (mt_P xs) d 301 (18, lwL (i + 6), [], w') Q) : mu_G (mt_P xs) d 301 (635, lwL i, [], w) Q := by
  unfold lw17 at e
  obtain ⟨p, e1, e⟩ := ob e
  obtain ⟨q, e2, e⟩ := ob e
  have e3 := Option.some.inj e
  refine mt_runs 1 (f' := (636, lwL i, [.ref 0], _)) rfl ?_
  refine lw_x (j := 1) rfl (by omega) hl rfl rfl rfl rfl rfl ?_
  refine lw_call (as := [vR 8, vI (lx xs i 1)]) (st' := []) rfl (fun _ _ _ _ => rfl) (by simp only [List.map, lx_uv]; rfl) rfl (Nat.le_of_ble_eq_true rfl) (Nat.le_of_ble_eq_true rfl) (recvV A (a := 0) (Abs_ks A (i := 0) rfl).1) (t135 (by omega) A (lx_rg xs i 1) e1) (fun r hr => ?_)
  obtain ⟨r1, w1⟩ := r
  obtain ⟨hr1, rr1, A1⟩ := hr
  have hr1 : r1 = _ := hr1
  subst hr1
  show mu_G (mt_P xs) d 301 (644, lwL i, [.int (Int32.ofInt p.1)], _) Q
  refine mt_runs 1 (f' := (645, lwL i, [.ref 387, .int (Int32.ofInt p.1)], _)) rfl ?_
  refine lw_x (j := 1) rfl (by omega) hl rfl rfl rfl rfl rfl ?_
  refine lw_call (as := [vR 395, vI (lx xs i 1)]) (st' := [.int (Int32.ofInt p.1)]) rfl (fun _ _ _ _ => rfl) (by simp only [List.map, lx_uv]; rfl) rfl (Nat.le_of_ble_eq_true rfl) (Nat.le_of_ble_eq_true rfl) (recvV A1 (a := 13) (Abs_ks A1 (i := 23) rfl).1) (t270 (by omega) A1 (lx_rg xs i 1) e2) (fun r hr => ?_)
  obtain ⟨r1, w2⟩ := r
  obtain ⟨hr1, rr2, A2⟩ := hr
  have hr1 : r1 = _ := hr1
  subst hr1
  show mu_G (mt_P xs) d 301 (653, lwL i, [.int (Int32.ofInt q.1), .int (Int32.ofInt p.1)], _) Q
  have e4 := (Prod.mk.inj e3).1
  have e5 := (Prod.mk.inj e3).2
  subst e5
  exact lw_same (by omega) rfl (by decide) (of_decide_eq_true e4) (g _ A2)
set_option maxRecDepth 100000 in
theorem lwt18 {h' : hS} (hd : 900 ≤ d) (hi : i + 6 ≤ xs.length) (hl : xs.length ≤ 3072) (A : Abs h w) (e : lw18 xs i h = some (true, h')) (g : ∀ w', Abs h' w' → mu_G (mt_P xs) d 301 (18, lwL (i + 6), [], w') Q) : mu_G (mt_P xs) d 301 (658, lwL i, [], w) Q := by
  unfold lw18 at e
  obtain ⟨p, e1, e⟩ := ob e
  obtain ⟨q, e2, e⟩ := ob e
  have e3 := Option.some.inj e
  refine mt_runs 1 (f' := (659, lwL i, [.ref 0], _)) rfl ?_
  refine lw_call (as := [vR 8]) (st' := []) rfl (fun _ _ _ _ => rfl) (by simp only [List.map, lx_uv]; rfl) rfl (Nat.le_of_ble_eq_true rfl) (Nat.le_of_ble_eq_true rfl) (recvV A (a := 0) (Abs_ks A (i := 0) rfl).1) (t136 (by omega) A  e1) (fun r hr => ?_)
  obtain ⟨r1, w1⟩ := r
  obtain ⟨hr1, rr1, A1⟩ := hr
  have hr1 : r1 = _ := hr1
  subst hr1
  show mu_G (mt_P xs) d 301 (662, lwL i, [.int (Int32.ofInt p.1)], _) Q
  refine mt_runs 1 (f' := (663, lwL i, [.ref 387, .int (Int32.ofInt p.1)], _)) rfl ?_
  refine lw_call (as := [vR 395]) (st' := [.int (Int32.ofInt p.1)]) rfl (fun _ _ _ _ => rfl) (by simp only [List.map, lx_uv]; rfl) rfl (Nat.le_of_ble_eq_true rfl) (Nat.le_of_ble_eq_true rfl) (recvV A1 (a := 13) (Abs_ks A1 (i := 23) rfl).1) (t271 (by omega) A1  e2) (fun r hr => ?_)
  obtain ⟨r1, w2⟩ := r
  obtain ⟨hr1, rr2, A2⟩ := hr
  have hr1 : r1 = _ := hr1
  subst hr1
  show mu_G (mt_P xs) d 301 (666, lwL i, [.int (Int32.ofInt q.1), .int (Int32.ofInt p.1)], _) Q
  have e4 := (Prod.mk.inj e3).1
  have e5 := (Prod.mk.inj e3).2
  subst e5
  exact lw_same (by omega) rfl (by decide) (of_decide_eq_true e4) (g _ A2)
set_option maxRecDepth 100000 in
theorem lwt19 {h' : hS} (hd : 900 ≤ d) (hi : i + 6 ≤ xs.length) (hl : xs.length ≤ 3072) (A : Abs h w) (e : lw19 xs i h = some (true, h')) (g : ∀ w', Abs h' w' → mu_G (mt_P xs) d 301 (18, lwL (i + 6), [], w') Q) : mu_G (mt_P xs) d 301 (671, lwL i, [], w) Q := by
  unfold lw19 at e
  obtain ⟨p, e1, e⟩ := ob e
  obtain ⟨q, e2, e⟩ := ob e
  have e3 := Option.some.inj e
  refine mt_runs 1 (f' := (672, lwL i, [.ref 0], _)) rfl ?_
  refine lw_x (j := 1) rfl (by omega) hl rfl rfl rfl rfl rfl ?_
  refine lw_call (as := [vR 8, vI (lx xs i 1)]) (st' := []) rfl (fun _ _ _ _ => rfl) (by simp only [List.map, lx_uv]; rfl) rfl (Nat.le_of_ble_eq_true rfl) (Nat.le_of_ble_eq_true rfl) (recvV A (a := 0) (Abs_ks A (i := 0) rfl).1) (t166 (by omega) A (lx_rg xs i 1) e1) (fun r hr => ?_)
  obtain ⟨hr1, rr1⟩ := hr
  subst hr1
  show mu_G (mt_P xs) d 301 (680, lwL i, [.int (Int32.ofInt p)], _) Q
  refine mt_runs 1 (f' := (681, lwL i, [.ref 387, .int (Int32.ofInt p)], _)) rfl ?_
  refine lw_x (j := 1) rfl (by omega) hl rfl rfl rfl rfl rfl ?_
  refine lw_call (as := [vR 395, vI (lx xs i 1)]) (st' := [.int (Int32.ofInt p)]) rfl (fun _ _ _ _ => rfl) (by simp only [List.map, lx_uv]; rfl) rfl (Nat.le_of_ble_eq_true rfl) (Nat.le_of_ble_eq_true rfl) (recvV A (a := 13) (Abs_ks A (i := 23) rfl).1) (t291 (by omega) A (lx_rg xs i 1) e2) (fun r hr => ?_)
  obtain ⟨hr1, rr2⟩ := hr
  subst hr1
  show mu_G (mt_P xs) d 301 (689, lwL i, [.int (Int32.ofInt q), .int (Int32.ofInt p)], _) Q
  have e4 := (Prod.mk.inj e3).1
  have e5 := (Prod.mk.inj e3).2
  subst e5
  exact lw_same (by omega) rfl (by decide) (of_decide_eq_true e4) (g _ A)
set_option maxRecDepth 100000 in
theorem lwt20 {h' : hS} (hd : 900 ≤ d) (hi : i + 6 ≤ xs.length) (hl : xs.length ≤ 3072) (A : Abs h w) (e : lw20 xs i h = some (true, h')) (g : ∀ w', Abs h' w' → mu_G (mt_P xs) d 301 (18, lwL (i + 6), [], w') Q) : mu_G (mt_P xs) d 301 (694, lwL i, [], w) Q := by
  unfold lw20 at e
  obtain ⟨p, e1, e⟩ := ob e
  obtain ⟨q, e2, e⟩ := ob e
  have e3 := Option.some.inj e
  refine mt_runs 1 (f' := (695, lwL i, [.ref 0], _)) rfl ?_
  refine lw_x (j := 1) rfl (by omega) hl rfl rfl rfl rfl rfl ?_
  refine lw_x (j := 2) rfl (by omega) hl rfl rfl rfl rfl rfl ?_
  refine lw_call (as := [vR 8, vI (lx xs i 1), vI (lx xs i 2)]) (st' := []) rfl (fun _ _ _ _ => rfl) (by simp only [List.map, lx_uv]; rfl) rfl (Nat.le_of_ble_eq_true rfl) (Nat.le_of_ble_eq_true rfl) (recvV A (a := 0) (Abs_ks A (i := 0) rfl).1) (t167 (by omega) A (lx_rg xs i 1) (lx_rg xs i 2) e1) (fun r hr => ?_)
  obtain ⟨hr1, rr1⟩ := hr
  subst hr1
  show mu_G (mt_P xs) d 301 (708, lwL i, [.int (Int32.ofInt p)], _) Q
  refine mt_runs 1 (f' := (709, lwL i, [.ref 387, .int (Int32.ofInt p)], _)) rfl ?_
  refine lw_x (j := 1) rfl (by omega) hl rfl rfl rfl rfl rfl ?_
  refine lw_x (j := 2) rfl (by omega) hl rfl rfl rfl rfl rfl ?_
  refine lw_call (as := [vR 395, vI (lx xs i 1), vI (lx xs i 2)]) (st' := [.int (Int32.ofInt p)]) rfl (fun _ _ _ _ => rfl) (by simp only [List.map, lx_uv]; rfl) rfl (Nat.le_of_ble_eq_true rfl) (Nat.le_of_ble_eq_true rfl) (recvV A (a := 13) (Abs_ks A (i := 23) rfl).1) (t292 (by omega) A (lx_rg xs i 1) (lx_rg xs i 2) e2) (fun r hr => ?_)
  obtain ⟨hr1, rr2⟩ := hr
  subst hr1
  show mu_G (mt_P xs) d 301 (722, lwL i, [.int (Int32.ofInt q), .int (Int32.ofInt p)], _) Q
  have e4 := (Prod.mk.inj e3).1
  have e5 := (Prod.mk.inj e3).2
  subst e5
  exact lw_same (by omega) rfl (by decide) (of_decide_eq_true e4) (g _ A)
set_option maxRecDepth 100000 in
theorem lwt21 {h' : hS} (hd : 900 ≤ d) (hi : i + 6 ≤ xs.length) (hl : xs.length ≤ 3072) (A : Abs h w) (e : lw21 xs i h = some (true, h')) (g : ∀ w', Abs h' w' → mu_G (mt_P xs) d 301 (18, lwL (i + 6), [], w') Q) : mu_G (mt_P xs) d 301 (727, lwL i, [], w) Q := by
  unfold lw21 at e
  obtain ⟨p, e1, e⟩ := ob e
  obtain ⟨q, e2, e⟩ := ob e
  have e3 := Option.some.inj e
  refine mt_runs 1 (f' := (728, lwL i, [.ref 0], _)) rfl ?_
  refine lw_x (j := 1) rfl (by omega) hl rfl rfl rfl rfl rfl ?_
  refine lw_x (j := 2) rfl (by omega) hl rfl rfl rfl rfl rfl ?_
  refine lw_x (j := 3) rfl (by omega) hl rfl rfl rfl rfl rfl ?_
  refine lw_call (as := [vR 8, vI (lx xs i 1), vI (lx xs i 2), vI (lx xs i 3)]) (st' := []) rfl (fun _ _ _ _ => rfl) (by simp only [List.map, lx_uv]; rfl) rfl (Nat.le_of_ble_eq_true rfl) (Nat.le_of_ble_eq_true rfl) (recvV A (a := 0) (Abs_ks A (i := 0) rfl).1) (t168 (by omega) A (lx_rg xs i 1) (lx_rg xs i 2) (lx_rg xs i 3) e1) (fun r hr => ?_)
  obtain ⟨r1, w1⟩ := r
  obtain ⟨hr1, rr1, A1⟩ := hr
  have hr1 : r1 = _ := hr1
  subst hr1
  show mu_G (mt_P xs) d 301 (746, lwL i, [.int (Int32.ofInt p.1)], _) Q
  refine mt_runs 1 (f' := (747, lwL i, [.ref 387, .int (Int32.ofInt p.1)], _)) rfl ?_
  refine lw_x (j := 1) rfl (by omega) hl rfl rfl rfl rfl rfl ?_
  refine lw_x (j := 2) rfl (by omega) hl rfl rfl rfl rfl rfl ?_
  refine lw_x (j := 3) rfl (by omega) hl rfl rfl rfl rfl rfl ?_
  refine lw_call (as := [vR 395, vI (lx xs i 1), vI (lx xs i 2), vI (lx xs i 3)]) (st' := [.int (Int32.ofInt p.1)]) rfl (fun _ _ _ _ => rfl) (by simp only [List.map, lx_uv]; rfl) rfl (Nat.le_of_ble_eq_true rfl) (Nat.le_of_ble_eq_true rfl) (recvV A1 (a := 13) (Abs_ks A1 (i := 23) rfl).1) (t293 (by omega) A1 (lx_rg xs i 1) (lx_rg xs i 2) (lx_rg xs i 3) e2) (fun r hr => ?_)
  obtain ⟨r1, w2⟩ := r
  obtain ⟨hr1, rr2, A2⟩ := hr
  have hr1 : r1 = _ := hr1
  subst hr1
  show mu_G (mt_P xs) d 301 (765, lwL i, [.int (Int32.ofInt q.1), .int (Int32.ofInt p.1)], _) Q
  have e4 := (Prod.mk.inj e3).1
  have e5 := (Prod.mk.inj e3).2
  subst e5
  exact lw_same (by omega) rfl (by decide) (of_decide_eq_true e4) (g _ A2)
set_option maxRecDepth 100000 in
theorem lwt22 {h' : hS} (hd : 900 ≤ d) (hi : i + 6 ≤ xs.length) (hl : xs.length ≤ 3072) (A : Abs h w) (e : lw22 xs i h = some (true, h')) (g : ∀ w', Abs h' w' → mu_G (mt_P xs) d 301 (18, lwL (i + 6), [], w') Q) : mu_G (mt_P xs) d 301 (770, lwL i, [], w) Q := by
  unfold lw22 at e
  obtain ⟨p, e1, e⟩ := ob e
  obtain ⟨q, e2, e⟩ := ob e
  have e3 := Option.some.inj e
  refine mt_runs 1 (f' := (771, lwL i, [.ref 0], _)) rfl ?_
  refine lw_x (j := 1) rfl (by omega) hl rfl rfl rfl rfl rfl ?_
  refine lw_x (j := 2) rfl (by omega) hl rfl rfl rfl rfl rfl ?_
  refine lw_call (as := [vR 8, vI (lx xs i 1), vI (lx xs i 2)]) (st' := []) rfl (fun _ _ _ _ => rfl) (by simp only [List.map, lx_uv]; rfl) rfl (Nat.le_of_ble_eq_true rfl) (Nat.le_of_ble_eq_true rfl) (recvV A (a := 0) (Abs_ks A (i := 0) rfl).1) (t170 (by omega) A (lx_rg xs i 1) (lx_rg xs i 2) e1) (fun r hr => ?_)
  obtain ⟨hr1, rr1⟩ := hr
  subst hr1
  show mu_G (mt_P xs) d 301 (784, lwL i, [.int (Int32.ofInt p)], _) Q
  refine mt_runs 1 (f' := (785, lwL i, [.ref 387, .int (Int32.ofInt p)], _)) rfl ?_
  refine lw_x (j := 1) rfl (by omega) hl rfl rfl rfl rfl rfl ?_
  refine lw_x (j := 2) rfl (by omega) hl rfl rfl rfl rfl rfl ?_
  refine lw_call (as := [vR 395, vI (lx xs i 1), vI (lx xs i 2)]) (st' := [.int (Int32.ofInt p)]) rfl (fun _ _ _ _ => rfl) (by simp only [List.map, lx_uv]; rfl) rfl (Nat.le_of_ble_eq_true rfl) (Nat.le_of_ble_eq_true rfl) (recvV A (a := 13) (Abs_ks A (i := 23) rfl).1) (t294 (by omega) A (lx_rg xs i 1) (lx_rg xs i 2) e2) (fun r hr => ?_)
  obtain ⟨hr1, rr2⟩ := hr
  subst hr1
  show mu_G (mt_P xs) d 301 (798, lwL i, [.int (Int32.ofInt q), .int (Int32.ofInt p)], _) Q
  have e4 := (Prod.mk.inj e3).1
  have e5 := (Prod.mk.inj e3).2
  subst e5
  exact lw_same (by omega) rfl (by decide) (of_decide_eq_true e4) (g _ A)
set_option maxRecDepth 100000 in
theorem lwt23 {h' : hS} (hd : 900 ≤ d) (hi : i + 6 ≤ xs.length) (hl : xs.length ≤ 3072) (A : Abs h w) (e : lw23 xs i h = some (true, h')) (g : ∀ w', Abs h' w' → mu_G (mt_P xs) d 301 (18, lwL (i + 6), [], w') Q) : mu_G (mt_P xs) d 301 (803, lwL i, [], w) Q := by
  unfold lw23 at e
  obtain ⟨p, e1, e⟩ := ob e
  obtain ⟨q, e2, e⟩ := ob e
  have e3 := Option.some.inj e
  refine mt_runs 1 (f' := (804, lwL i, [.ref 0], _)) rfl ?_
  refine lw_x (j := 1) rfl (by omega) hl rfl rfl rfl rfl rfl ?_
  refine lw_x (j := 2) rfl (by omega) hl rfl rfl rfl rfl rfl ?_
  refine lwz_run (pc := 814) (tgt := 821) rfl (by decide) rfl rfl (by decide) rfl rfl rfl ?_
  refine lw_call (as := [vR 8, vI (lx xs i 1), vI (lwz (lx xs i 2))]) (st' := []) rfl (fun _ _ _ _ => rfl) (by simp only [List.map, lx_uv]; rfl) rfl (Nat.le_of_ble_eq_true rfl) (Nat.le_of_ble_eq_true rfl) (recvV A (a := 0) (Abs_ks A (i := 0) rfl).1) (t172 (by omega) A (lx_rg xs i 1) (lwz_rg _) e1) (fun r hr => ?_)
  obtain ⟨r1, w1⟩ := r
  obtain ⟨hr1, rr1, A1⟩ := hr
  have hr1 : r1 = _ := hr1
  subst hr1
  show mu_G (mt_P xs) d 301 (825, lwL i, [.int (Int32.ofInt p.1)], _) Q
  refine mt_runs 1 (f' := (826, lwL i, [.ref 387, .int (Int32.ofInt p.1)], _)) rfl ?_
  refine lw_x (j := 1) rfl (by omega) hl rfl rfl rfl rfl rfl ?_
  refine lw_x (j := 2) rfl (by omega) hl rfl rfl rfl rfl rfl ?_
  refine lwz_run (pc := 836) (tgt := 843) rfl (by decide) rfl rfl (by decide) rfl rfl rfl ?_
  refine lw_call (as := [vR 395, vI (lx xs i 1), vI (lwz (lx xs i 2))]) (st' := [.int (Int32.ofInt p.1)]) rfl (fun _ _ _ _ => rfl) (by simp only [List.map, lx_uv]; rfl) rfl (Nat.le_of_ble_eq_true rfl) (Nat.le_of_ble_eq_true rfl) (recvV A1 (a := 13) (Abs_ks A1 (i := 23) rfl).1) (t295 (by omega) A1 (lx_rg xs i 1) (lwz_rg _) e2) (fun r hr => ?_)
  obtain ⟨r1, w2⟩ := r
  obtain ⟨hr1, rr2, A2⟩ := hr
  have hr1 : r1 = _ := hr1
  subst hr1
  show mu_G (mt_P xs) d 301 (847, lwL i, [.int (Int32.ofInt q.1), .int (Int32.ofInt p.1)], _) Q
  have e4 := (Prod.mk.inj e3).1
  have e5 := (Prod.mk.inj e3).2
  subst e5
  exact lw_same (by omega) rfl (by decide) (of_decide_eq_true e4) (g _ A2)
set_option maxRecDepth 100000 in
theorem lwt24 {h' : hS} (hd : 900 ≤ d) (hi : i + 6 ≤ xs.length) (hl : xs.length ≤ 3072) (A : Abs h w) (e : lw24 xs i h = some (true, h')) (g : ∀ w', Abs h' w' → mu_G (mt_P xs) d 301 (18, lwL (i + 6), [], w') Q) : mu_G (mt_P xs) d 301 (852, lwL i, [], w) Q := by
  unfold lw24 at e
  obtain ⟨p, e1, e⟩ := ob e
  obtain ⟨q, e2, e⟩ := ob e
  have e3 := Option.some.inj e
  refine mt_runs 1 (f' := (853, lwL i, [.ref 0], _)) rfl ?_
  refine lw_x (j := 1) rfl (by omega) hl rfl rfl rfl rfl rfl ?_
  refine lw_call (as := [vR 8, vI (lx xs i 1)]) (st' := []) rfl (fun _ _ _ _ => rfl) (by simp only [List.map, lx_uv]; rfl) rfl (Nat.le_of_ble_eq_true rfl) (Nat.le_of_ble_eq_true rfl) (recvV A (a := 0) (Abs_ks A (i := 0) rfl).1) (t173 (by omega) A (lx_rg xs i 1) e1) (fun r hr => ?_)
  obtain ⟨r1, w1⟩ := r
  obtain ⟨hr1, rr1, A1⟩ := hr
  have hr1 : r1 = _ := hr1
  subst hr1
  show mu_G (mt_P xs) d 301 (861, lwL i, [.int (Int32.ofInt p.1)], _) Q
  refine mt_runs 1 (f' := (862, lwL i, [.ref 387, .int (Int32.ofInt p.1)], _)) rfl ?_
  refine lw_x (j := 1) rfl (by omega) hl rfl rfl rfl rfl rfl ?_
  refine lw_call (as := [vR 395, vI (lx xs i 1)]) (st' := [.int (Int32.ofInt p.1)]) rfl (fun _ _ _ _ => rfl) (by simp only [List.map, lx_uv]; rfl) rfl (Nat.le_of_ble_eq_true rfl) (Nat.le_of_ble_eq_true rfl) (recvV A1 (a := 13) (Abs_ks A1 (i := 23) rfl).1) (t296 (by omega) A1 (lx_rg xs i 1) e2) (fun r hr => ?_)
  obtain ⟨r1, w2⟩ := r
  obtain ⟨hr1, rr2, A2⟩ := hr
  have hr1 : r1 = _ := hr1
  subst hr1
  show mu_G (mt_P xs) d 301 (870, lwL i, [.int (Int32.ofInt q.1), .int (Int32.ofInt p.1)], _) Q
  have e4 := (Prod.mk.inj e3).1
  have e5 := (Prod.mk.inj e3).2
  subst e5
  exact lw_same (by omega) rfl (by decide) (of_decide_eq_true e4) (g _ A2)
set_option maxRecDepth 100000 in
theorem lwt25 {h' : hS} (hd : 900 ≤ d) (hi : i + 6 ≤ xs.length) (hl : xs.length ≤ 3072) (A : Abs h w) (e : lw25 xs i h = some (true, h')) (g : ∀ w', Abs h' w' → mu_G (mt_P xs) d 301 (18, lwL (i + 6), [], w') Q) : mu_G (mt_P xs) d 301 (875, lwL i, [], w) Q := by
  unfold lw25 at e
  obtain ⟨p, e1, e⟩ := ob e
  obtain ⟨q, e2, e⟩ := ob e
  have e3 := Option.some.inj e
  refine mt_runs 1 (f' := (876, lwL i, [.ref 0], _)) rfl ?_
  refine lw_x (j := 1) rfl (by omega) hl rfl rfl rfl rfl rfl ?_
  refine lw_call (as := [vR 8, vI (lx xs i 1)]) (st' := []) rfl (fun _ _ _ _ => rfl) (by simp only [List.map, lx_uv]; rfl) rfl (Nat.le_of_ble_eq_true rfl) (Nat.le_of_ble_eq_true rfl) (recvV A (a := 0) (Abs_ks A (i := 0) rfl).1) (t175 (by omega) A (lx_rg xs i 1) e1) (fun r hr => ?_)
  obtain ⟨hr1, rr1⟩ := hr
  subst hr1
  show mu_G (mt_P xs) d 301 (884, lwL i, [.int (Int32.ofInt p)], _) Q
  refine mt_runs 1 (f' := (885, lwL i, [.ref 387, .int (Int32.ofInt p)], _)) rfl ?_
  refine lw_x (j := 1) rfl (by omega) hl rfl rfl rfl rfl rfl ?_
  refine lw_call (as := [vR 395, vI (lx xs i 1)]) (st' := [.int (Int32.ofInt p)]) rfl (fun _ _ _ _ => rfl) (by simp only [List.map, lx_uv]; rfl) rfl (Nat.le_of_ble_eq_true rfl) (Nat.le_of_ble_eq_true rfl) (recvV A (a := 13) (Abs_ks A (i := 23) rfl).1) (t297 (by omega) A (lx_rg xs i 1) e2) (fun r hr => ?_)
  obtain ⟨hr1, rr2⟩ := hr
  subst hr1
  show mu_G (mt_P xs) d 301 (893, lwL i, [.int (Int32.ofInt q), .int (Int32.ofInt p)], _) Q
  have e4 := (Prod.mk.inj e3).1
  have e5 := (Prod.mk.inj e3).2
  subst e5
  exact lw_same (by omega) rfl (by decide) (of_decide_eq_true e4) (g _ A)
set_option maxRecDepth 100000 in
theorem lwt26 {h' : hS} (hd : 900 ≤ d) (hi : i + 6 ≤ xs.length) (hl : xs.length ≤ 3072) (A : Abs h w) (e : lw26 xs i h = some (true, h')) (g : ∀ w', Abs h' w' → mu_G (mt_P xs) d 301 (18, lwL (i + 6), [], w') Q) : mu_G (mt_P xs) d 301 (898, lwL i, [], w) Q := by
  unfold lw26 at e
  obtain ⟨p, e1, e⟩ := ob e
  obtain ⟨q, e2, e⟩ := ob e
  have e3 := Option.some.inj e
  refine mt_runs 1 (f' := (899, lwL i, [.ref 0], _)) rfl ?_
  refine lw_x (j := 1) rfl (by omega) hl rfl rfl rfl rfl rfl ?_
  refine lw_call (as := [vR 8, vI (lx xs i 1)]) (st' := []) rfl (fun _ _ _ _ => rfl) (by simp only [List.map, lx_uv]; rfl) rfl (Nat.le_of_ble_eq_true rfl) (Nat.le_of_ble_eq_true rfl) (recvV A (a := 0) (Abs_ks A (i := 0) rfl).1) (t176 (by omega) A (lx_rg xs i 1) e1) (fun r hr => ?_)
  obtain ⟨hr1, rr1⟩ := hr
  subst hr1
  show mu_G (mt_P xs) d 301 (907, lwL i, [.int (Int32.ofInt p)], _) Q
  refine mt_runs 1 (f' := (908, lwL i, [.ref 387, .int (Int32.ofInt p)], _)) rfl ?_
  refine lw_x (j := 1) rfl (by omega) hl rfl rfl rfl rfl rfl ?_
  refine lw_call (as := [vR 395, vI (lx xs i 1)]) (st' := [.int (Int32.ofInt p)]) rfl (fun _ _ _ _ => rfl) (by simp only [List.map, lx_uv]; rfl) rfl (Nat.le_of_ble_eq_true rfl) (Nat.le_of_ble_eq_true rfl) (recvV A (a := 13) (Abs_ks A (i := 23) rfl).1) (t298 (by omega) A (lx_rg xs i 1) e2) (fun r hr => ?_)
  obtain ⟨hr1, rr2⟩ := hr
  subst hr1
  show mu_G (mt_P xs) d 301 (916, lwL i, [.int (Int32.ofInt q), .int (Int32.ofInt p)], _) Q
  have e4 := (Prod.mk.inj e3).1
  have e5 := (Prod.mk.inj e3).2
  subst e5
  exact lw_same (by omega) rfl (by decide) (of_decide_eq_true e4) (g _ A)
set_option maxRecDepth 100000 in
theorem lwt27 {h' : hS} (hd : 900 ≤ d) (hi : i + 6 ≤ xs.length) (hl : xs.length ≤ 3072) (A : Abs h w) (e : lw27 xs i h = some (true, h')) (g : ∀ w', Abs h' w' → mu_G (mt_P xs) d 301 (18, lwL (i + 6), [], w') Q) : mu_G (mt_P xs) d 301 (921, lwL i, [], w) Q := by
  unfold lw27 at e
  obtain ⟨p, e1, e⟩ := ob e
  obtain ⟨q, e2, e⟩ := ob e
  have e3 := Option.some.inj e
  refine mt_runs 1 (f' := (922, lwL i, [.ref 0], _)) rfl ?_
  refine lw_call (as := [vR 8]) (st' := []) rfl (fun _ _ _ _ => rfl) (by simp only [List.map, lx_uv]; rfl) rfl (Nat.le_of_ble_eq_true rfl) (Nat.le_of_ble_eq_true rfl) (recvV A (a := 0) (Abs_ks A (i := 0) rfl).1) (t177 (by omega) A  e1) (fun r hr => ?_)
  obtain ⟨r1, w1⟩ := r
  obtain ⟨hr1, rr1, A1⟩ := hr
  have hr1 : r1 = _ := hr1
  subst hr1
  show mu_G (mt_P xs) d 301 (925, lwL i, [.int (Int32.ofInt p.1)], _) Q
  refine mt_runs 1 (f' := (926, lwL i, [.ref 387, .int (Int32.ofInt p.1)], _)) rfl ?_
  refine lw_call (as := [vR 395]) (st' := [.int (Int32.ofInt p.1)]) rfl (fun _ _ _ _ => rfl) (by simp only [List.map, lx_uv]; rfl) rfl (Nat.le_of_ble_eq_true rfl) (Nat.le_of_ble_eq_true rfl) (recvV A1 (a := 13) (Abs_ks A1 (i := 23) rfl).1) (t299 (by omega) A1  e2) (fun r hr => ?_)
  obtain ⟨r1, w2⟩ := r
  obtain ⟨hr1, rr2, A2⟩ := hr
  have hr1 : r1 = _ := hr1
  subst hr1
  show mu_G (mt_P xs) d 301 (929, lwL i, [.int (Int32.ofInt q.1), .int (Int32.ofInt p.1)], _) Q
  have e4 := (Prod.mk.inj e3).1
  have e5 := (Prod.mk.inj e3).2
  subst e5
  exact lw_same (by omega) rfl (by decide) (of_decide_eq_true e4) (g _ A2)
set_option maxRecDepth 100000 in
theorem lwt28 {h' : hS} (hd : 900 ≤ d) (hi : i + 6 ≤ xs.length) (hl : xs.length ≤ 3072) (A : Abs h w) (e : lw28 xs i h = some (true, h')) (g : ∀ w', Abs h' w' → mu_G (mt_P xs) d 301 (18, lwL (i + 6), [], w') Q) : mu_G (mt_P xs) d 301 (934, lwL i, [], w) Q := by
  unfold lw28 at e
  obtain ⟨p, e1, e⟩ := ob e
  obtain ⟨q, e2, e⟩ := ob e
  have e3 := Option.some.inj e
  refine mt_runs 1 (f' := (935, lwL i, [.ref 0], _)) rfl ?_
  refine lw_x (j := 1) rfl (by omega) hl rfl rfl rfl rfl rfl ?_
  refine lw_call (as := [vR 8, vI (lx xs i 1)]) (st' := []) rfl (fun _ _ _ _ => rfl) (by simp only [List.map, lx_uv]; rfl) rfl (Nat.le_of_ble_eq_true rfl) (Nat.le_of_ble_eq_true rfl) (recvV A (a := 0) (Abs_ks A (i := 0) rfl).1) (t181 (by omega) A (lx_rg xs i 1) e1) (fun r hr => ?_)
  have hr1 : r = _ := hr
  subst hr1
  show mu_G (mt_P xs) d 301 (943, lwL i, [.long p], _) Q
  refine mt_runs 1 (f' := (944, lwL i, [.ref 387, .long p], _)) rfl ?_
  refine lw_x (j := 1) rfl (by omega) hl rfl rfl rfl rfl rfl ?_
  refine lw_call (as := [vR 395, vI (lx xs i 1)]) (st' := [.long p]) rfl (fun _ _ _ _ => rfl) (by simp only [List.map, lx_uv]; rfl) rfl (Nat.le_of_ble_eq_true rfl) (Nat.le_of_ble_eq_true rfl) (recvV A (a := 13) (Abs_ks A (i := 23) rfl).1) (t249 (by omega) A (lx_rg xs i 1) e2) (fun r hr => ?_)
  have hr1 : r = _ := hr
  subst hr1
  show mu_G (mt_P xs) d 301 (952, lwL i, [.long q, .long p], _) Q
  have e4 := of_decide_eq_true (Prod.mk.inj e3).1
  have e5 := (Prod.mk.inj e3).2
  subst e5
  subst e4
  refine mt_runs 1 (f' := (953, lwL i, [.int (lg_cmp p p)], _)) rfl ?_
  rw [lg_cmp_self]
  refine mu_if (tgt := 958) rfl (by decide) (fun _ => lw_next (by omega) (g _ A)) (fun q => absurd (show ((0 : Int32).toInt = 0) by decide) q)
def lwS (xs : List Int32) (i : Nat) (h : hS) : Option (Bool × hS) := match (wand (lx xs i 0) 31).toNat with
  | 0 => lw0 xs i h
  | 1 => lw1 xs i h
  | 2 => lw2 xs i h
  | 3 => lw3 xs i h
  | 4 => lw4 xs i h
  | 5 => lw5 xs i h
  | 6 => lw6 xs i h
  | 7 => lw7 xs i h
  | 8 => lw8 xs i h
  | 9 => lw9 xs i h
  | 10 => lw10 xs i h
  | 11 => lw11 xs i h
  | 12 => lw12 xs i h
  | 13 => lw13 xs i h
  | 14 => lw14 xs i h
  | 15 => lw15 xs i h
  | 16 => lw16 xs i h
  | 17 => lw17 xs i h
  | 18 => lw18 xs i h
  | 19 => lw19 xs i h
  | 20 => lw20 xs i h
  | 21 => lw21 xs i h
  | 22 => lw22 xs i h
  | 23 => lw23 xs i h
  | 24 => lw24 xs i h
  | 25 => lw25 xs i h
  | 26 => lw26 xs i h
  | 27 => lw27 xs i h
  | 28 => lw28 xs i h
  | _ => some (true, h)
theorem wand31 (x : Int32) : ∃ j : Nat, j < 32 ∧ x &&& 31 = Int32.ofNat j ∧ wand x.toInt 31 = (j : Int) := by
  obtain ⟨j, hj, e⟩ := lw_and31 x
  refine ⟨j, hj, e, ?_⟩
  unfold wand
  rw [Int32.ofInt_toInt]
  show (x &&& 31).toInt = _
  rw [e]
  exact Int32.toInt_ofNat_of_lt (by omega)
set_option maxRecDepth 100000 in
theorem lw_turn {h' : hS} (hd : 900 ≤ d) (hi : i + 6 ≤ xs.length) (hl : xs.length ≤ 3072) (A : Abs h w) (e : lwS xs i h = some (true, h')) (g : ∀ w', Abs h' w' → mu_G (mt_P xs) d 301 (18, lwL (i + 6), [], w') Q) : mu_G (mt_P xs) d 301 (18, lwL i, [], w) Q := by
  have e1 : Int32.ofNat xs.length - 6 = Int32.ofInt ((xs.length : Int) - 6) := by
    rw [← w_nat (show xs.length < 2147483648 by omega)]
    show Int32.ofInt (xs.length : Int) - Int32.ofInt 6 = _
    rw [← Int32.ofInt_sub]
  have e2 : (xs.map Value.int).length = xs.length := List.length_map ..
  refine mt_runs 2 (f' := (20, lwL i, [.retAddr 0, .int (Int32.ofNat i)], w)) rfl ?_
  refine mt_runs 1 (f' := (21, lwL i, [.int (Int32.ofNat (xs.map Value.int).length), .int (Int32.ofNat i)], w)) rfl ?_
  rw [e2]
  refine mt_runs 2 (f' := (24, lwL i, [.int (Int32.ofNat xs.length - 6), .int (Int32.ofNat i)], w)) rfl ?_
  rw [e1, ← w_nat (show i < 2147483648 by omega)]
  refine mu_icmp (tgt := 964) rfl (by decide) (fun q => ?_) (fun _ => ?_)
  · exfalso
    have q : (Int32.ofInt ((xs.length : Int) - 6)).toInt < (Int32.ofInt (Int.ofNat i)).toInt := q
    rw [Int32.toInt_ofInt_of_le (by omega) (by omega), Int32.toInt_ofInt_of_le (n := Int.ofNat i) (show (-2147483648 : Int) ≤ (i : Int) by omega) (show (i : Int) < 2147483648 by omega)] at q
    have q : (xs.length : Int) - 6 < (i : Int) := q
    omega
  show mu_G (mt_P xs) d 301 (27, lwL i, [], w) Q
  have hx : mu_G (mt_P xs) d 301 (30, lwL i, [.int (xs.getD (i + 0) 0)], w) Q := by
    refine mt_runs 2 (f' := (33, lwL i, [.int (xs.getD (i + 0) 0 &&& 31)], w)) rfl ?_
    obtain ⟨j, hj, hjx, hjw⟩ := wand31 (xs.getD (i + 0) 0)
    unfold lwS at e
    have hk : (wand (lx xs i 0) 31).toNat = j := by
      show (wand (xs.getD (i + 0) 0).toInt 31).toNat = j
      rw [hjw]
      rfl
    rw [hk] at e
    rw [hjx]
    match j, hj with
    | 0, _ =>
      refine mt_runs 1 (f' := (164, lwL i, [], w)) rfl ?_
      exact lwt0 hd hi hl A e g
    | 1, _ =>
      refine mt_runs 1 (f' := (227, lwL i, [], w)) rfl ?_
      exact lwt1 hd hi hl A e g
    | 2, _ =>
      refine mt_runs 1 (f' := (250, lwL i, [], w)) rfl ?_
      exact lwt2 hd hi hl A e g
    | 3, _ =>
      refine mt_runs 1 (f' := (263, lwL i, [], w)) rfl ?_
      exact lwt3 hd hi hl A e g
    | 4, _ =>
      refine mt_runs 1 (f' := (276, lwL i, [], w)) rfl ?_
      exact lwt4 hd hi hl A e g
    | 5, _ =>
      refine mt_runs 1 (f' := (289, lwL i, [], w)) rfl ?_
      exact lwt5 hd hi hl A e g
    | 6, _ =>
      refine mt_runs 1 (f' := (312, lwL i, [], w)) rfl ?_
      exact lwt6 hd hi hl A e g
    | 7, _ =>
      refine mt_runs 1 (f' := (325, lwL i, [], w)) rfl ?_
      exact lwt7 hd hi hl A e g
    | 8, _ =>
      refine mt_runs 1 (f' := (358, lwL i, [], w)) rfl ?_
      exact lwt8 hd hi hl A e g
    | 9, _ =>
      refine mt_runs 1 (f' := (381, lwL i, [], w)) rfl ?_
      exact lwt9 hd hi hl A e g
    | 10, _ =>
      refine mt_runs 1 (f' := (404, lwL i, [], w)) rfl ?_
      exact lwt10 hd hi hl A e g
    | 11, _ =>
      refine mt_runs 1 (f' := (427, lwL i, [], w)) rfl ?_
      exact lwt11 hd hi hl A e g
    | 12, _ =>
      refine mt_runs 1 (f' := (460, lwL i, [], w)) rfl ?_
      exact lwt12 hd hi hl A e g
    | 13, _ =>
      refine mt_runs 1 (f' := (493, lwL i, [], w)) rfl ?_
      exact lwt13 hd hi hl A e g
    | 14, _ =>
      refine mt_runs 1 (f' := (536, lwL i, [], w)) rfl ?_
      exact lwt14 hd hi hl A e g
    | 15, _ =>
      refine mt_runs 1 (f' := (569, lwL i, [], w)) rfl ?_
      exact lwt15 hd hi hl A e g
    | 16, _ =>
      refine mt_runs 1 (f' := (612, lwL i, [], w)) rfl ?_
      exact lwt16 hd hi hl A e g
    | 17, _ =>
      refine mt_runs 1 (f' := (635, lwL i, [], w)) rfl ?_
      exact lwt17 hd hi hl A e g
    | 18, _ =>
      refine mt_runs 1 (f' := (658, lwL i, [], w)) rfl ?_
      exact lwt18 hd hi hl A e g
    | 19, _ =>
      refine mt_runs 1 (f' := (671, lwL i, [], w)) rfl ?_
      exact lwt19 hd hi hl A e g
    | 20, _ =>
      refine mt_runs 1 (f' := (694, lwL i, [], w)) rfl ?_
      exact lwt20 hd hi hl A e g
    | 21, _ =>
      refine mt_runs 1 (f' := (727, lwL i, [], w)) rfl ?_
      exact lwt21 hd hi hl A e g
    | 22, _ =>
      refine mt_runs 1 (f' := (770, lwL i, [], w)) rfl ?_
      exact lwt22 hd hi hl A e g
    | 23, _ =>
      refine mt_runs 1 (f' := (803, lwL i, [], w)) rfl ?_
      exact lwt23 hd hi hl A e g
    | 24, _ =>
      refine mt_runs 1 (f' := (852, lwL i, [], w)) rfl ?_
      exact lwt24 hd hi hl A e g
    | 25, _ =>
      refine mt_runs 1 (f' := (875, lwL i, [], w)) rfl ?_
      exact lwt25 hd hi hl A e g
    | 26, _ =>
      refine mt_runs 1 (f' := (898, lwL i, [], w)) rfl ?_
      exact lwt26 hd hi hl A e g
    | 27, _ =>
      refine mt_runs 1 (f' := (921, lwL i, [], w)) rfl ?_
      exact lwt27 hd hi hl A e g
    | 28, _ =>
      refine mt_runs 1 (f' := (934, lwL i, [], w)) rfl ?_
      exact lwt28 hd hi hl A e g
    | 29, _ =>
      refine mt_runs 1 (f' := (958, lwL i, [], w)) rfl ?_
      cases e
      exact lw_next (by omega) (g w A)
    | 30, _ =>
      refine mt_runs 1 (f' := (958, lwL i, [], w)) rfl ?_
      cases e
      exact lw_next (by omega) (g w A)
    | 31, _ =>
      refine mt_runs 1 (f' := (958, lwL i, [], w)) rfl ?_
      cases e
      exact lw_next (by omega) (g w A)
    | j + 32, hj => exact absurd hj (by omega)
  refine mt_runs 2 (f' := (29, lwL i, [.int (Int32.ofNat i), .retAddr 0], w)) rfl ?_
  refine lw_run1 (st' := [.int (xs.getD (i + 0) 0)]) (ls' := lwL i) (pc' := 30) (e := (.iaload, 0, 0, 0)) rfl ?_ hx
  have hi' : i < xs.length := by omega
  have e2 : (Int32.ofInt (i : Int)).toInt = (i : Int) := Int32.toInt_ofInt_of_le (by omega) (by omega)
  have e2 : (Int32.ofNat i).toInt = (i : Int) := by rw [← w_nat (show i < 2147483648 by omega)]; exact e2
  have e3 : ¬ Int32.ofNat i < 0 := by
    intro c
    have := Int32.lt_iff_toInt_lt.mp c
    rw [e2] at this
    have e0 : (0 : Int32).toInt = 0 := by decide
    omega
  have e4 : (Int32.ofNat i).toNatClampNeg = i := by
    show (Int32.ofNat i).toInt.toNat = _
    rw [e2]
    omega
  show mm_ald (fun t => t == 0) (mt_P xs) 29 (lwL i) [.int (Int32.ofNat i), .retAddr 0] w = _
  have e5 : mm_cell (mt_P xs) w (.retAddr 0) = some (.inl 0, xs.map .int) := rfl
  simp only [mm_ald, e5]
  rw [if_pos ⟨rfl, e3⟩, e4, List.getElem?_map, List.getElem?_eq_getElem hi']
  have e6 : xs.getD (i + 0) 0 = xs[i] := by
    rw [List.getD_eq_getElem?_getD, Nat.add_zero, List.getElem?_eq_getElem hi']
    rfl
  rw [e6]
  rfl
set_option maxRecDepth 100000 in
/-- the law's end -/
theorem lw_stop (hi : xs.length < i + 6) (hl : xs.length ≤ 3072) (hi2 : i ≤ 4000) (g : Q (some (.int 1), w)) : mu_G (mt_P xs) d 301 (18, lwL i, [], w) Q := by
  have e1 : Int32.ofNat xs.length - 6 = Int32.ofInt ((xs.length : Int) - 6) := by
    rw [← w_nat (show xs.length < 2147483648 by omega)]
    show Int32.ofInt (xs.length : Int) - Int32.ofInt 6 = _
    rw [← Int32.ofInt_sub]
  have e2 : (xs.map Value.int).length = xs.length := List.length_map ..
  refine mt_runs 2 (f' := (20, lwL i, [.retAddr 0, .int (Int32.ofNat i)], w)) rfl ?_
  refine mt_runs 1 (f' := (21, lwL i, [.int (Int32.ofNat (xs.map Value.int).length), .int (Int32.ofNat i)], w)) rfl ?_
  rw [e2]
  refine mt_runs 2 (f' := (24, lwL i, [.int (Int32.ofNat xs.length - 6), .int (Int32.ofNat i)], w)) rfl ?_
  rw [e1, ← w_nat (show i < 2147483648 by omega)]
  refine mu_icmp (tgt := 964) rfl (by decide) (fun _ => ?_) (fun q => ?_)
  · refine mt_runs 1 (f' := (965, lwL i, [.int 1], w)) rfl ?_
    exact mt_ret rfl rfl g
  · exfalso
    have q : ¬ (Int32.ofInt ((xs.length : Int) - 6)).toInt < (Int32.ofInt (Int.ofNat i)).toInt := q
    rw [Int32.toInt_ofInt_of_le (by omega) (by omega), Int32.toInt_ofInt_of_le (n := Int.ofNat i) (show (-2147483648 : Int) ≤ (i : Int) by omega) (show (i : Int) < 2147483648 by omega)] at q
    have q : ¬ (xs.length : Int) - 6 < (i : Int) := q
    omega
end LWS
/-- the law out of what one turn keeps: Inv n h says what holds behind n turns -/
theorem lw_all {xs : List Int32} {d : Nat} {Q : mmO → Prop} (Inv : Nat → hS → Prop) (hd : 900 ≤ d) (hl : xs.length ≤ 3072) (step : ∀ n h, Inv n h → n < 512 → ∃ h', lwS xs (6 * n) h = some (true, h') ∧ Inv (n + 1) h') (done : ∀ n h w, Inv n h → n ≤ 512 → Abs h w → Q (some (.int 1), w)) : ∀ (m n : Nat) (h : hS) (w : mmW), xs.length < 6 * n + 6 + 6 * m → n ≤ 512 → Inv n h → Abs h w → mu_G (mt_P xs) d 301 (18, lwL (6 * n), [], w) Q := by
  intro m
  induction m with
  | zero =>
    intro n h w hm hn hI A
    exact lw_stop (by omega) hl (by omega) (done n h w hI hn A)
  | succ m ih =>
    intro n h w hm hn hI A
    by_cases q : xs.length < 6 * n + 6
    · exact lw_stop (by omega) hl (by omega) (done n h w hI hn A)
    · obtain ⟨h', e, hI'⟩ := step n h hI (by omega)
      refine lw_turn hd (by omega) hl A e (fun w' A' => ?_)
      have := ih (n + 1) h' w' (by omega) (by omega) hI' A'
      rw [show 6 * n + 6 = 6 * (n + 1) by omega]
      exact this

