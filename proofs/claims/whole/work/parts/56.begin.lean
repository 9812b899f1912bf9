/-! the heap behind both constructors -/
def ckV : Nat → Value → Bool
  | 2, .null => true
  | 2, .ref _ => true
  | 2, .retAddr j => decide (j < 7)
  | 2, _ => false
  | 3, .long _ => true
  | 3, _ => false
  | _, .int _ => true
  | _, _ => false
def iv : Value → Int
  | .int v => v.toInt
  | _ => 0
def rvi : Value → Nat
  | .ref n => n + 8
  | .retAddr j => j + 1
  | _ => 0
def jv : Value → Int64
  | .long v => v
  | _ => 0
theorem rvi_ok {v : Value} (h : ckV 2 v = true) : v = rv (rvi v) := by
  cases v with
  | int x => cases h
  | long x => cases h
  | float x => cases h
  | double x => cases h
  | ref n => rfl
  | null => rfl
  | retAddr j =>
    have h : j < 7 := of_decide_eq_true h
    match j, h with
    | 0, _ => rfl
    | 1, _ => rfl
    | 2, _ => rfl
    | 3, _ => rfl
    | 4, _ => rfl
    | 5, _ => rfl
    | 6, _ => rfl
def ckC (c : mmC) : Bool := Nat.ble c.2.length 100000 && (match c.1 with
  | .inl t => c.2.all (ckV (fty (2 * t + 1) 0))
  | .inr a => Nat.beq c.2.length (nfl a) && (c.2.zip (ftC a)).all fun p => ckV p.2 p.1)
def hvals (w : mmW) (x : Nat) : List Value := match mm_cell mt_P0 w (rv x) with
  | some c => c.2
  | none => []
def habs (w : mmW) : hS := (fun x i => iv ((hvals w x).getD i .null), fun x i => rvi ((hvals w x).getD i .null), fun x i => jv ((hvals w x).getD i .null), fun x => (match mm_cell mt_P0 w (rv x) with | some c => tcode c.1 | none => 0), fun x => (hvals w x).length, w.1.length + 8, w.2.2)
theorem fty_a (t i : Nat) : fty (2 * t + 1) i = fty (2 * t + 1) 0 := by
  unfold fty
  rw [show (2 * t + 1) % 2 = 1 by omega]
  rfl
theorem fty_c (a i : Nat) : fty (2 * a + 2) i = (ftC a).getD i 0 := by
  unfold fty
  rw [show (2 * a + 2) % 2 = 0 by omega, show (2 * a + 2) / 2 - 1 = a by omega]
  rfl
theorem ckV_hv {h : hS} {x i k : Nat} {v : Value} (hk : ckV k v = true) (hi : hI h x i = iv v) (hr : hR h x i = rvi v) (hj : hJ h x i = jv v) : v = hv h x i k := by
  match k with
  | 0 =>
    cases v with
    | int z => show _ = Value.int (Int32.ofInt (hI h x i)); rw [hi]; show _ = Value.int (Int32.ofInt z.toInt); rw [Int32.ofInt_toInt]
    | _ => cases hk
  | 1 =>
    cases v with
    | int z => show _ = Value.int (Int32.ofInt (hI h x i)); rw [hi]; show _ = Value.int (Int32.ofInt z.toInt); rw [Int32.ofInt_toInt]
    | _ => cases hk
  | 2 => show _ = rv (hR h x i); rw [hr]; exact rvi_ok hk
  | 3 =>
    cases v with
    | long z => show _ = Value.long (hJ h x i); rw [hj]; rfl
    | _ => cases hk
  | k + 4 =>
    cases v with
    | int z => show _ = Value.int (Int32.ofInt (hI h x i)); rw [hi]; show _ = Value.int (Int32.ofInt z.toInt); rw [Int32.ofInt_toInt]
    | _ => cases hk
theorem Abs_habs {w : mmW} (h1 : w.1.all ckC = true) (h2 : (List.range 8).all (fun j => match mt_o0 j with | none => true | some c => ckC c) = true) (h3 : w.2.1 = w.1.length) (h4 : 440 ≤ w.1.length) (h5 : (ksL.all fun e => Nat.beq (hT (habs w) e.1) e.2.1 && Nat.beq (hL (habs w) e.1) e.2.2) = true) (h6 : (kfL.all fun e => Nat.beq (hR (habs w) e.1 e.2.1) e.2.2) = true) : Abs (habs w) w := by
  have key : ∀ x c, mm_cell mt_P0 w (rv x) = some c → ckC c = true := by
    intro x c hc
    by_cases q : 8 ≤ x
    · rw [rv_ge q] at hc
      have hc : w.1[x - 8]? = some c := hc
      exact List.all_eq_true.mp h1 c (List.mem_of_getElem? hc)
    · rcases rv_lt (show x < 8 by omega) with ⟨-, e⟩ | ⟨-, e⟩
      · rw [e] at hc; cases hc
      · rw [e] at hc
        have hc : mt_o0 (x - 1) = some c := hc
        have := List.all_eq_true.mp h2 (x - 1) (List.mem_range.mpr (by omega))
        rw [hc] at this
        exact this
  have lens : ∀ x, (hvals w x).length ≤ 100000 := by
    intro x
    unfold hvals
    split
    · rename_i c hc
      have := key x c hc
      unfold ckC at this
      rw [Bool.and_eq_true] at this
      exact Nat.le_of_ble_eq_true this.1
    · exact Nat.zero_le _
  refine ⟨⟨rfl, h3, rfl, show 448 ≤ w.1.length + 8 by omega⟩, ?_, ?_, lens, ?_, ?_, ?_⟩
  · intro x
    unfold AbsC
    split
    · rename_i e
      show (match mm_cell mt_P0 w (rv x) with | some c => tcode c.1 | none => 0) = 0
      rw [e]
    · rename_i c e
      have hck := key x c e
      have hvs : hvals w x = c.2 := by unfold hvals; rw [e]
      refine ⟨?_, ?_, ?_⟩
      · show (match mm_cell mt_P0 w (rv x) with | some c => tcode c.1 | none => 0) = _
        rw [e]
      · show (hvals w x).length = _
        rw [hvs]
      · intro i hi
        have hg : c.2[i]? = some (c.2.getD i .null) := by
          rw [List.getD_eq_getElem?_getD, List.getElem?_eq_getElem hi]
          rfl
        rw [hg]
        congr 1
        refine ckV_hv ?_ (by show iv ((hvals w x).getD i .null) = _; rw [hvs]) (by show rvi ((hvals w x).getD i .null) = _; rw [hvs]) (by show jv ((hvals w x).getD i .null) = _; rw [hvs])
        unfold ckC at hck
        rw [Bool.and_eq_true] at hck
        obtain ⟨tg, vs⟩ := c
        have hm : vs.getD i .null ∈ vs := by
          rw [List.getD_eq_getElem?_getD, List.getElem?_eq_getElem hi]
          exact List.getElem_mem hi
        cases tg with
        | inl t =>
          have h7 : vs.all (ckV (fty (2 * t + 1) 0)) = true := hck.2
          show ckV (fty (2 * t + 1) i) (vs.getD i .null) = true
          rw [fty_a]
          exact List.all_eq_true.mp h7 _ hm
        | inr a =>
          have h7 : (Nat.beq vs.length (nfl a) && (vs.zip (ftC a)).all fun p => ckV p.2 p.1) = true := hck.2
          rw [Bool.and_eq_true] at h7
          have h8 : vs.length = (ftC a).length := Nat.eq_of_beq_eq_true h7.1
          show ckV (fty (2 * a + 2) i) (vs.getD i .null) = true
          rw [fty_c]
          have hi : i < vs.length := hi
          have h9 : (vs.zip (ftC a))[i]? = some (vs.getD i .null, (ftC a).getD i 0) := by
            rw [List.getElem?_zip_eq_some]
            refine ⟨?_, ?_⟩
            · exact hg
            · have hi2 : i < (ftC a).length := by omega
              have e9 : (ftC a).getD i 0 = (ftC a)[i] := by
                rw [List.getD_eq_getElem?_getD, List.getElem?_eq_getElem hi2]
                rfl
              rw [List.getElem?_eq_getElem hi2]
              exact congrArg some e9.symm
          exact List.all_eq_true.mp h7.2 _ (List.mem_of_getElem? h9)
  · intro x i
    show rg (iv ((hvals w x).getD i .null))
    unfold iv
    split
    · exact rg_t _
    · exact rgn 0 rfl
  · intro x a hx
    have hx : (match mm_cell mt_P0 w (rv x) with | some c => tcode c.1 | none => 0) = 2 * a + 2 := hx
    show (hvals w x).length = _
    unfold hvals
    split at hx
    · rename_i c e
      have hck := key x c e
      obtain ⟨tg, vs⟩ := c
      have ht := tcode_r (show tcode tg = 2 * a + 2 from hx)
      subst ht
      unfold ckC at hck
      rw [Bool.and_eq_true] at hck
      have h7 : (Nat.beq vs.length (nfl a) && (vs.zip (ftC a)).all fun p => ckV p.2 p.1) = true := hck.2
      rw [Bool.and_eq_true] at h7
      exact Nat.eq_of_beq_eq_true h7.1
    · omega
  · intro e he
    have := List.all_eq_true.mp h5 e he
    rw [Bool.and_eq_true] at this
    exact ⟨Nat.eq_of_beq_eq_true this.1, Nat.eq_of_beq_eq_true this.2⟩
  · intro e he
    exact Nat.eq_of_beq_eq_true (List.all_eq_true.mp h6 e he)
def h_W2 : hS := habs mv_W2
set_option maxRecDepth 1000000 in
theorem Abs_W2 : Abs h_W2 mv_W2 := Abs_habs (by decide +kernel) (by decide +kernel) rfl (by decide +kernel) (by decide +kernel) (by decide +kernel)
/-! deeper calls -/
theorem mm_ev_deep {P : mmP} {N : Nat} : ∀ {d d' a : Nat} {as : List Value} {w : mmW} {o : mmO}, d ≤ d' → mm_ev P N d a as w = some o → mm_ev P N d' a as w = some o
  | 0, _, _, _, _, _, _, h => by cases h
  | d + 1, d', a, as, w, o, hd, h => by
    obtain ⟨d1, rfl⟩ : ∃ d1, d' = d1 + 1 := ⟨d' - 1, by omega⟩
    unfold mm_ev at h ⊢
    split at h
    · rename_i hq
      rw [if_pos hq]
      exact mm_go_up (fun _ _ _ _ q => mm_ev_deep (by omega) q) (Nat.le_refl _) h
    · cases h
set_option maxRecDepth 100000 in
theorem mv_start2 (xs : List Int32) {Q : mmO → Prop} (g : mu_G (mt_P xs) 2047 301 (18, lwL 0, [], mv_W2) Q) : mu_G (mt_P xs) 2047 301 mt_f0 Q := by
  refine mt_runs 1 (f' := (3, [some (.retAddr 0), none, none, none], [.ref 0], mv_pon_w)) rfl ?_
  refine mt_runs 1 (f' := (4, [some (.retAddr 0), none, none, none], [.ref 0, .ref 0], mv_pon_w)) rfl ?_
  refine mt_callX (o := (none, mv_pon_x)) rfl (fun _ => rfl) ⟨Nat.le_of_ble_eq_true rfl, Nat.le_of_ble_eq_true rfl, rfl⟩ (by obtain ⟨N, h⟩ := mv_pon xs; exact ⟨N, mm_ev_deep (by omega) h⟩) ?_
  show mu_G (mt_P xs) 2047 301 (7, [some (.retAddr 0), none, none, none], [.ref 0], mv_pon_x) _
  have e1 : mm_runC (mt_P xs) 1000 2047 301 3 (7, [some (.retAddr 0), none, none, none], [.ref 0], mv_pon_x) = some (12, [some (.retAddr 0), some (.ref 0), none, none], [.ref 387, .ref 387], mv_mod_w) := mm_runC_old (mt_o0_ok xs) (mv_eF_ok (by decide +kernel))
  refine mt_runsC 3 e1 ?_
  refine mt_callX (o := (none, mv_mod_x)) rfl (fun _ => rfl) ⟨Nat.le_of_ble_eq_true rfl, Nat.le_of_ble_eq_true rfl, rfl⟩ (by obtain ⟨N, h⟩ := mv_mod xs; exact ⟨N, mm_ev_deep (by omega) h⟩) ?_
  show mu_G (mt_P xs) 2047 301 (15, [some (.retAddr 0), some (.ref 0), none, none], [.ref 387], mv_mod_x) _
  refine mt_runs 3 (f' := (18, lwL 0, [], mv_W2)) rfl ?_
  exact g
/-- the claim as MM has it: on every script of at most 3072 ints the law comes to its end with 1, within the room -/
def mm_claim (N0 : Nat) : Prop := ∀ (L : Nat) (xs : Nat → Int32), L ≤ N0 → mu_G (mt_P (mt_xs L xs)) 2047 mt_law mt_f0 (fun o => o.1 = some (.int 1) ∧ o.2.2.1 ≤ 600000 ∧ o.2.2.2 ≤ 7302250)
/-- the claim out of what one turn keeps -/
theorem mm_of_inv (Inv : Nat → hS → Prop) (h0 : Inv 0 h_W2) (step : ∀ (xs : List Int32) n h, Inv n h → n < 512 → ∃ h', lwS xs (6 * n) h = some (true, h') ∧ Inv (n + 1) h') (room : ∀ n h, Inv n h → n ≤ 512 → hN h ≤ 600008 ∧ hM h ≤ 7302250) : mm_claim 3072 := by
  intro L xs hL
  refine mv_start2 _ ?_
  have hlen : (mt_xs L xs).length = L := by unfold mt_xs; simp
  refine lw_all Inv (by omega) (by rw [hlen]; exact hL) (step _) ?_ 512 0 h_W2 mv_W2 (by rw [hlen]; omega) (by omega) h0 Abs_W2
  intro n h w hI hn A
  obtain ⟨r1, r2⟩ := room n h hI hn
  obtain ⟨a1, a2, a3, -⟩ := A.1
  refine ⟨rfl, ?_, ?_⟩
  · show w.2.1 ≤ 600000
    omega
  · show w.2.2 ≤ 7302250
    omega
