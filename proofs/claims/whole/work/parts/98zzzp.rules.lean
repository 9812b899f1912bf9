/-! a patch is made: the rule of a field -/
/-- the step y is a rule for n that holds of kind k -/
def RBq (h0 t : hS) (k n : Int) (y : Nat) : Bool := decide (hI h0 y 0 = 220) && (decide (hI h0 y 3 = n) && decide (clb (fun v => decide (wg t 1 v 0 = hI h0 y 2)) (fun v => wg t 1 v 1) 13 k ≠ -1))
/-- the last of them, or 0 -/
def ruN (h0 t : hS) (k n : Int) : List Nat → Nat
  | [] => 0
  | y :: r => if ruN h0 t k n r ≠ 0 then ruN h0 t k n r else if RBq h0 t k n y = true then y else 0
section RUL
variable {h h' h0 t t' t0 t1 : hS} {m P pt S A q tx N0 lo i M : Nat} {r : Int → Nat} {k n c kn : Int} {K : Nat → Int → Prop} {us ys zs : List Nat}
theorem ruN_sn {y : Nat} (y0 : y ≠ 0) : ∀ l : List Nat, ruN h0 t k n (l ++ [y]) = if RBq h0 t k n y = true then y else ruN h0 t k n l
  | [] => by
    show (if (0 : Nat) ≠ 0 then 0 else if RBq h0 t k n y = true then y else 0) = (if RBq h0 t k n y = true then y else 0)
    rw [if_neg (by omega)]
  | a :: l => by
    have ih := ruN_sn y0 l
    show (if ruN h0 t k n (l ++ [y]) ≠ 0 then ruN h0 t k n (l ++ [y]) else if RBq h0 t k n a = true then a else 0) = (if RBq h0 t k n y = true then y else if ruN h0 t k n l ≠ 0 then ruN h0 t k n l else if RBq h0 t k n a = true then a else 0)
    rw [ih]
    by_cases c : RBq h0 t k n y = true
    · rw [if_pos c, if_pos y0, if_pos c]
    · rw [if_neg c, if_neg c]
theorem ruN_no : ∀ (ys l : List Nat), (∀ y ∈ ys, y ≠ 0 ∧ RBq h0 t k n y = false) → ruN h0 t k n (l ++ ys) = ruN h0 t k n l
  | [], l, _ => by rw [List.append_nil]
  | y :: ys, l, H => by
    have e : l ++ y :: ys = (l ++ [y]) ++ ys := by simp
    rw [e, ruN_no ys (l ++ [y]) (fun z hz => H z (List.mem_cons_of_mem _ hz)), ruN_sn (H y List.mem_cons_self).1, (H y List.mem_cons_self).2, if_neg (by decide)]
theorem ruN_m : ∀ l : List Nat, ruN h0 t k n l = 0 ∨ (ruN h0 t k n l ∈ l ∧ RBq h0 t k n (ruN h0 t k n l) = true)
  | [] => .inl rfl
  | a :: l => by
    show (if ruN h0 t k n l ≠ 0 then ruN h0 t k n l else if RBq h0 t k n a = true then a else 0) = 0 ∨ ((if ruN h0 t k n l ≠ 0 then ruN h0 t k n l else if RBq h0 t k n a = true then a else 0) ∈ a :: l ∧ RBq h0 t k n (if ruN h0 t k n l ≠ 0 then ruN h0 t k n l else if RBq h0 t k n a = true then a else 0) = true)
    by_cases c : ruN h0 t k n l ≠ 0
    · rw [if_pos c]
      rcases ruN_m l with z | z
      · exact absurd z c
      · exact .inr ⟨List.mem_cons_of_mem _ z.1, z.2⟩
    · rw [if_neg c]
      by_cases c2 : RBq h0 t k n a = true
      · rw [if_pos c2]
        exact .inr ⟨List.mem_cons_self, c2⟩
      · rw [if_neg c2]
        exact .inl rfl
theorem RBq_no {y : Nat} (e : hI h0 y 0 ≠ 220) : RBq h0 t k n y = false := by
  unfold RBq
  rw [decide_eq_false e]
  rfl
/-- the class looks for it from the end -/
theorem c160_e (Pw : PW h t K P 1 m r) (hk : 0 ≤ k ∧ k < m) (hpt : hT h0 pt = 26 ∧ hR h0 pt 0 = S ∧ pt < P) (LL : LSt h0 N0 S us A q) (N8 : 448 ≤ N0) (hP : hN h0 = P) (A8 : A < P) (l6 : us.length ≤ 600) (Sm : ∀ x, 448 ≤ x → x < P → sm h0 h x) (p448 : 448 ≤ pt) : c160 pt (kd h P k) n h = some (ruN h0 t k n us) := by
  obtain ⟨⟨l1, l2, l3, l4, l5⟩, ⟨l6', l7, l8, l9⟩, lA, l10⟩ := LL
  have sp := Sm pt p448 (by omega)
  have sS := Sm S (by omega) (by omega)
  have Tk := (Pw.2.2.1 k hk.1 hk.2).1.2.2.1
  have key : ∀ (i N : Nat), i ≤ us.length → i < N → lp (fun s => c160_b10 pt (kd h P k) n h s) N ((i : Int) - 1) = some (if ruN h0 t k n (us.take i) = 0 then .inl () else .inr (ruN h0 t k n (us.take i))) := by
    intro i
    induction i with
    | zero =>
      intro N hi hN
      obtain ⟨N, rfl⟩ : ∃ n, N = n + 1 := ⟨N - 1, by omega⟩
      rw [List.take_zero, show ruN h0 t k n [] = 0 from rfl, if_pos rfl]
      refine lp_d ?_
      show c160_b10 pt (kd h P k) n h (((0 : Nat) : Int) - 1) = _
      unfold c160_b10
      rw [if_pos (by omega)]
    | succ i ih =>
      intro N hi hN
      obtain ⟨N, rfl⟩ : ∃ n, N = n + 1 := ⟨N - 1, by omega⟩
      obtain ⟨y, ey⟩ : ∃ y, us[i]? = some y := ⟨us[i]'(by omega), List.getElem?_eq_getElem (by omega)⟩
      obtain ⟨x1, x2, x3, x4⟩ := l10 i y ey
      have sy := Sm y (by omega) (by omega)
      have sA := Sm A (by omega) A8
      have et : us.take (i + 1) = us.take i ++ [y] := by rw [List.take_succ, ey]; rfl
      have ei : (((i + 1 : Nat) : Int) - 1) = (i : Int) := by omega
      rw [et, ruN_sn (by omega), ei]
      have st : ∀ R, (if hI h0 y 0 = 220 then (if hI h0 y 3 = n then (if clb (fun v => decide (wg t 1 v 0 = hI h0 y 2)) (fun v => wg t 1 v 1) 13 k = -1 then c160_j62 (i : Int) else some (.inr (.inr y))) else c160_j62 (i : Int)) else c160_j62 (i : Int)) = R → c160_b10 pt (kd h P k) n h (i : Int) = R := fun R eR => by
        unfold c160_b10
        rw [if_neg (by omega)]
        refine bnd (gR_s (by rw [sp.2.2.1]; exact hpt.1)) ?_
        rw [sp.2.1, hpt.2.1]
        refine bnd (kT_s (by rw [sS.2.2.1]; exact l3)) ?_
        refine bnd (show c144 S (i : Int) h = some y from ?_) ?_
        · unfold c144
          refine bnd (gI_s (by rw [sS.2.2.1]; exact l3)) ?_
          rw [sS.1, l4]
          refine bnd (show c145 (i : Int) (us.length : Int) h = some (i : Int) from ?_) ?_
          · unfold c145 c8
            rw [if_neg (by omega), if_pos (by omega)]
            rfl
          · refine bnd (kT_s (by rw [sS.2.2.1]; exact l3)) ?_
            refine bnd (show c146 S (i : Int) h = some y from ?_) rfl
            unfold c146
            refine bnd (gR_s (by rw [sS.2.2.1]; exact l3)) ?_
            rw [sS.2.1, l5]
            refine bnd (aR_s (by rw [sA.2.2.1]; exact l6') (by omega) (by rw [sA.2.2.2]; omega)) ?_
            rw [Int.toNat_natCast, sA.2.1, x1]
        · have y22 : hT h y = 22 := by rw [sy.2.2.1]; exact x4
          refine bnd (show cC h y 22 = some () from if_pos (.inr ⟨by omega, y22⟩)) ?_
          refine bnd (gI_s y22) ?_
          rw [sy.1]
          by_cases c1 : hI h0 y 0 = 220
          · rw [if_pos c1] at eR ⊢
            refine bnd (gI_s y22) ?_
            rw [sy.1]
            by_cases c2 : hI h0 y 3 = n
            · rw [if_pos c2] at eR ⊢
              refine bnd (gI_s y22) ?_
              refine bnd (kT_s Tk) ?_
              rw [sy.1]
              refine bnd (c150_w (n := hI h0 y 2) Pw (.inr hk)) ?_
              by_cases c3 : clb (fun v => decide (wg t 1 v 0 = hI h0 y 2)) (fun v => wg t 1 v 1) 13 k = -1
              · rw [if_pos c3] at eR
                rw [if_pos c3, if_pos rfl]
                exact eR
              · rw [if_neg c3] at eR
                rw [if_neg c3, if_neg (by omega)]
                exact eR
            · rw [if_neg c2] at eR ⊢
              exact eR
          · rw [if_neg c1] at eR ⊢
            exact eR
      have nx : c160_j62 (i : Int) = some (.inl ((i : Int) - 1)) := by
        unfold c160_j62
        rw [wadd_e (by omega) (by omega)]
        rfl
      have go : RBq h0 t k n y = false → c160_b10 pt (kd h P k) n h (i : Int) = some (.inl ((i : Int) - 1)) → lp (fun s => c160_b10 pt (kd h P k) n h s) (N + 1) (i : Int) = some (if (if RBq h0 t k n y = true then y else ruN h0 t k n (us.take i)) = 0 then .inl () else .inr (if RBq h0 t k n y = true then y else ruN h0 t k n (us.take i))) := fun e1 e2 => by
        rw [e1, show (if false = true then y else ruN h0 t k n (us.take i)) = ruN h0 t k n (us.take i) from rfl]
        exact (lp_n (show (fun s => c160_b10 pt (kd h P k) n h s) (i : Int) = _ from e2)).trans (ih N (by omega) (by omega))
      by_cases c1 : hI h0 y 0 = 220
      · by_cases c2 : hI h0 y 3 = n
        · by_cases c3 : clb (fun v => decide (wg t 1 v 0 = hI h0 y 2)) (fun v => wg t 1 v 1) 13 k = -1
          · refine go ?_ (st _ (by rw [if_pos c1, if_pos c2, if_pos c3]; exact nx))
            unfold RBq
            rw [decide_eq_false (show ¬ clb (fun v => decide (wg t 1 v 0 = hI h0 y 2)) (fun v => wg t 1 v 1) 13 k ≠ -1 from fun z => z c3), Bool.and_false, Bool.and_false]
          · have eb : RBq h0 t k n y = true := by
              unfold RBq
              rw [decide_eq_true c1, decide_eq_true c2, decide_eq_true c3]
              rfl
            rw [eb, if_pos rfl, if_neg (by omega)]
            refine lp_d (st _ ?_)
            rw [if_pos c1, if_pos c2, if_neg c3]
        · refine go ?_ (st _ (by rw [if_pos c1, if_neg c2]; exact nx))
          unfold RBq
          rw [decide_eq_false c2, Bool.false_and, Bool.and_false]
      · exact go (RBq_no c1) (st _ (by rw [if_neg c1]; exact nx))
  have e := key us.length hF0 (Nat.le_refl _) (hF0_lt (by omega))
  rw [List.take_length] at e
  unfold c160
  refine bnd (gR_s (by rw [sp.2.2.1]; exact hpt.1)) ?_
  rw [sp.2.1, hpt.2.1]
  refine bnd (kT_s (by rw [sS.2.2.1]; exact l3)) ?_
  refine bnd (show c143 S h = some (us.length : Int) from ?_) ?_
  · unfold c143
    rw [gI_s (by rw [sS.2.2.1]; exact l3), sS.1, l4]
    rfl
  · rw [wsub_e (by omega) (by omega)]
    refine bnd e ?_
    by_cases z : ruN h0 t k n us = 0
    · rw [if_pos z, z]; rfl
    · rw [if_neg z]; rfl
/-- the other side's rules alone are other -/
def frR (t t' : hS) : Prop := fp (fun x _ => x = 444 ∨ x = 445) t t'
/-- the rules so far -/
def RUq (h0 t0 t : hS) (tx N0 : Nat) (k : Int) (us : List Nat) : Prop := ∀ n : Nat, n < 40 → (ruN h0 t0 k n us = 0 ∧ hI t 444 n = -1) ∨ (ruN h0 t0 k n us ≠ 0 ∧ ∃ e : Int, RUc (ntx t0 tx) h0 N0 1200 (hR h0 (ruN h0 t0 k n us) 5) e ∧ hI t 444 n = gf tx e ∧ hI t 445 n = hI h0 (ruN h0 t0 k n us) 1)
theorem frR_w (f : frR t t') (w a b : Int) : wg t' w a b = wg t w a b := f.2 400 _ (by omega)
theorem frR_n (f : frR t t') (a b : Nat) : ntx t' tx a b = ntx t tx a b := f.2 399 _ (by omega)
theorem WF_fr {w : Int} (W : WF t w m r) (f : frR t t') : WF t' w m r := by
  obtain ⟨w1, w2, w3⟩ := W
  refine ⟨by show hI t' 400 _ = _; rw [f.2 400 _ (by omega)]; exact w1, w2, fun k k0 k1 => ?_⟩
  rw [frR_w f, frR_w f, frR_w f, frR_w f]
  exact w3 k k0 k1
theorem RUc_u2 {N : Nat → Nat → Int} {cd : Nat} {e : Int} {M' : Nat} (Q : RUc N h N0 M cd e) (hM : M ≤ M') : RUc N h N0 M' cd e := by
  obtain ⟨a, b, c, i, C, e1, e2, e3⟩ := Q
  exact ⟨a, b, c, i, C, e1, by omega, e3⟩
/-- the edits of one change -/
theorem c286_86 (W : WF t0 1 m r) (Pn : ∀ a b : Int, 0 ≤ a → a < m → 0 ≤ b → b < m → wg t0 1 a 0 = wg t0 1 b 0 → a = b) (hk : 0 ≤ k ∧ k < m) (ht : tx ≤ 6) {top ch : Int} (t0' : 0 ≤ top ∧ top < m) (hn : wg t0 1 top 0 = kn) : ∀ (L ys pre : List Nat) (f : Int) (N : Nat) (t : hS), L.length < N → LK (ntx t0 tx) L f → (∀ i ∈ L, i < 1200) → MES (ntx t0 tx) h0 N0 lo ch kn L ys → (∀ y ∈ ys, y ≠ 0) → frR t0 t → RUq h0 t0 t tx N0 k pre → ∃ t', lp (fun s => c286_b86 k ch top s.1 s.2) N (gf tx f, t) = some t' ∧ frR t0 t' ∧ RUq h0 t0 t' tx N0 k (pre ++ ys)
  | [], ys, pre, f, N, t, hN, hl, _, Me, _, fr, R => by
    obtain ⟨N, rfl⟩ : ∃ n, N = n + 1 := ⟨N - 1, by omega⟩
    have Me : ys = [] := Me
    subst Me
    have hl : f = -1 := hl
    subst hl
    refine ⟨t, lp_d ?_, fr, by rw [List.append_nil]; exact R⟩
    show c286_b86 k ch top (gf tx (-1)) t = _
    unfold c286_b86
    rw [show gf tx (-1) = -1 from rfl, if_pos rfl]
  | i :: L, ys, pre, f, N, t, hN, hl, h12, Me, H0, fr, R => by
    obtain ⟨N, rfl⟩ : ∃ n, N = n + 1 := ⟨N - 1, by omega⟩
    obtain ⟨y, zs, rfl, M1, M2⟩ : ∃ (y : Nat) (t : List Nat), ys = y :: t ∧ MEm (ntx t0 tx) h0 N0 lo ch kn i y ∧ MES (ntx t0 tx) h0 N0 lo ch kn L t := Me
    obtain ⟨rfl, hl2⟩ : f = (i : Int) ∧ LK (ntx t0 tx) L (ntx t0 tx i 4) := hl
    have hm := W.2.1
    have hi := h12 i List.mem_cons_self
    have y0 := H0 y List.mem_cons_self
    have eg : gf tx (i : Int) = gn tx i := by unfold gf; rw [if_neg (by omega), Int.toNat_natCast]
    have gne : gn tx i ≠ -1 := by unfold gn; omega
    have hl3 := LK_f hl2 (fun a ha => h12 a (List.mem_cons_of_mem _ ha))
    have nn : ∀ {t1 : hS}, frR t0 t1 → ∀ s : Nat, s < 5 → c256 (gn tx i) (s : Int) t1 = some (ntx t0 tx i s) := fun {t1} f1 s hs => by rw [c256_e ht hi hs, frR_n f1]
    have n4 : ∀ {t1 : hS}, frR t0 t1 → c257 (gn tx i) 4 t1 = some (gf tx (ntx t0 tx i 4)) := fun {t1} f1 => c257_f (s := 4) ht hi (by omega) (by rw [frR_n f1]) hl3
    have hcons : pre ++ y :: zs = (pre ++ [y]) ++ zs := by simp
    have go : ∀ t1, frR t0 t1 → RUq h0 t0 t1 tx N0 k (pre ++ [y]) → c286_b86 k ch top (gf tx (i : Int)) t = some (.inl (gf tx (ntx t0 tx i 4), t1)) → ∃ t', lp (fun s => c286_b86 k ch top s.1 s.2) (N + 1) (gf tx (i : Int), t) = some t' ∧ frR t0 t' ∧ RUq h0 t0 t' tx N0 k (pre ++ y :: zs) := fun t1 f1 R1 e => by
      obtain ⟨t', a1, a2, a3⟩ := c286_86 W Pn hk ht t0' hn L zs (pre ++ [y]) (ntx t0 tx i 4) N t1 (by have : (i :: L).length = L.length + 1 := rfl; omega) hl2 (fun a ha => h12 a (List.mem_cons_of_mem _ ha)) M2 (fun z hz => H0 z (List.mem_cons_of_mem _ hz)) f1 R1
      exact ⟨t', (lp_n (show (fun s : Int × hS => c286_b86 k ch top s.1 s.2) (gf tx (i : Int), t) = _ from e)).trans a1, a2, by rw [hcons]; exact a3⟩
    have keep : (∀ n : Nat, RBq h0 t0 k n y = false) → RUq h0 t0 t tx N0 k (pre ++ [y]) := fun q n n40 => by
      have e : ruN h0 t0 k n (pre ++ [y]) = ruN h0 t0 k n pre := by rw [ruN_sn y0, q n, if_neg (by decide)]
      rw [e]
      exact R n n40
    have n0 := nn fr 0 (by omega)
    obtain ⟨s, o, cd, Sp, nm, cs⟩ := M1
    obtain ⟨q22, s0, s1, s2, s3, s4, s5⟩ := Sp
    by_cases c35 : ntx t0 tx i 0 = 35
    · obtain ⟨z1, z2⟩ : s = 220 ∧ RUc (ntx t0 tx) h0 N0 i cd (ntx t0 tx i 2) := by
        rcases cs with ⟨z, -⟩ | ⟨z, -⟩ | ⟨z, -⟩ | ⟨z, -⟩ | ⟨z, -⟩ | ⟨-, z1, z2⟩
        · omega
        · omega
        · omega
        · omega
        · omega
        · exact ⟨z1, z2⟩
      have e279 : c279 1 k top t = some (if iU t0 1 top k = -1 then 0 else 1) := by
        rw [c279_w (WF_fr W fr) (by omega) (by omega) t0'.1 (.inr hk), iU_cg W (fun v _ _ => frR_w fr 1 v 1) (.inr hk)]
      have eclb : clb (fun v => decide (wg t0 1 v 0 = hI h0 y 2)) (fun v => wg t0 1 v 1) 13 k = iU t0 1 top k := by
        rw [s2, ← hn]
        unfold iU
        refine clb_eq (ok := fun v => 0 ≤ v ∧ v < m) (fun v hv => ⟨?_, rfl, ?_⟩) 13 k (.inr hk)
        · by_cases c : v = top
          · rw [c, decide_eq_true rfl, decide_eq_true rfl]
          · rw [decide_eq_false c, decide_eq_false (fun z => c (Pn v top hv.1 hv.2 t0'.1 t0'.2 z))]
        · rcases WF_ok W v hv with z | z
          · exact .inl z
          · exact .inr z.1
      have eRB : ∀ n : Nat, RBq h0 t0 k n y = (decide ((n : Int) = ntx t0 tx i 1) && decide (iU t0 1 top k ≠ -1)) := fun n => by
        unfold RBq
        rw [s0, z1, s3, eclb, decide_eq_true (show (220 : Int) = 220 from rfl), Bool.true_and]
        by_cases c : (n : Int) = ntx t0 tx i 1
        · rw [decide_eq_true c, decide_eq_true c.symm]
        · rw [decide_eq_false c, decide_eq_false (fun z => c z.symm)]
      by_cases c2 : iU t0 1 top k = -1
      · refine go t fr (keep (fun n => by rw [eRB n, show decide (iU t0 1 top k ≠ -1) = false from decide_eq_false (fun z => z c2), Bool.and_false])) ?_
        unfold c286_b86
        rw [eg, if_neg gne]
        refine bnd n0 ?_
        rw [if_pos c35]
        refine bnd e279 ?_
        rw [if_pos c2, if_pos rfl]
        unfold c286_j150
        exact bnd (n4 fr) rfl
      · obtain ⟨v, hv⟩ : ∃ v : Nat, ntx t0 tx i 1 = (v : Int) := ⟨(ntx t0 tx i 1).toNat, by omega⟩
        obtain ⟨u1, eu1⟩ : ∃ u1, u1 = sI t 444 v (gf tx (ntx t0 tx i 2)) := ⟨_, rfl⟩
        obtain ⟨u2, eu2⟩ : ∃ u2, u2 = sI u1 445 v ch := ⟨_, rfl⟩
        have f1 : frR t0 u1 := fp_tr fr (by rw [eu1]; exact fp_sI (.inl rfl))
        have f2 : frR t0 u2 := fp_tr f1 (by rw [eu2]; exact fp_sI (.inr rfl))
        have n2 : c257 (gn tx i) 2 t = some (gf tx (ntx t0 tx i 2)) := c257_f (s := 2) ht hi (by omega) (by rw [frR_n fr]) (by
          obtain ⟨-, -, -, a, C, e1, e2, -⟩ := z2
          exact .inr ⟨a, e1, by omega⟩)
        refine go u2 f2 (fun n n40 => ?_) ?_
        · rw [ruN_sn y0, eRB n]
          have r4 : hI u2 444 n = if n = v then gf tx (ntx t0 tx i 2) else hI t 444 n := by
            rw [eu2, hI_sI, if_neg (by omega), eu1, hI_sI]
            by_cases c : n = v
            · rw [if_pos ⟨rfl, c⟩, if_pos c]
            · rw [if_neg (fun z => c z.2), if_neg c]
          have r5 : hI u2 445 n = if n = v then ch else hI t 445 n := by
            rw [eu2, hI_sI]
            by_cases c : n = v
            · rw [if_pos ⟨rfl, c⟩, if_pos c]
            · rw [if_neg (fun z => c z.2), if_neg c, eu1, hI_sI, if_neg (by omega)]
          rw [r4, r5]
          by_cases c : n = v
          · have eb : (decide ((n : Int) = ntx t0 tx i 1) && decide (iU t0 1 top k ≠ -1)) = true := by
              rw [decide_eq_true (show (n : Int) = ntx t0 tx i 1 by omega), decide_eq_true c2]
              rfl
            rw [eb, if_pos rfl, if_pos c, if_pos c]
            exact .inr ⟨y0, ntx t0 tx i 2, by rw [s5]; exact RUc_u2 z2 (by omega), rfl, s1.symm⟩
          · have eb : (decide ((n : Int) = ntx t0 tx i 1) && decide (iU t0 1 top k ≠ -1)) = false := by
              rw [decide_eq_false (show ¬ (n : Int) = ntx t0 tx i 1 by omega)]
              rfl
            rw [eb, if_neg (show ¬ false = true by decide), if_neg c, if_neg c]
            exact R n n40
        · unfold c286_b86
          rw [eg, if_neg gne]
          refine bnd n0 ?_
          rw [if_pos c35]
          refine bnd e279 ?_
          rw [if_neg c2, if_neg (by omega)]
          refine bnd (nn fr 1 (by omega)) ?_
          refine bnd n2 ?_
          rw [hv]
          refine bnd ((wIs_s (by omega) (by omega)).trans (congrArg some (show sI t 444 ((v : Int)).toNat (gf tx (ntx t0 tx i 2)) = u1 by rw [Int.toNat_natCast]; exact eu1.symm))) ?_
          refine bnd (nn f1 1 (by omega)) ?_
          rw [hv]
          refine bnd ((wIs_s (by omega) (by omega)).trans (congrArg some (show sI u1 445 ((v : Int)).toNat ch = u2 by rw [Int.toNat_natCast]; exact eu2.symm))) ?_
          unfold c286_j150
          exact bnd (n4 f2) rfl
    · have s220 : s ≠ 220 := by
        rcases cs with ⟨-, z, -⟩ | ⟨-, z, -⟩ | ⟨-, z, -⟩ | ⟨-, z⟩ | ⟨-, z, -⟩ | ⟨z, -⟩
        · omega
        · omega
        · omega
        · omega
        · omega
        · exact absurd z c35
      refine go t fr (keep (fun n => RBq_no (by rw [s0]; exact s220))) ?_
      unfold c286_b86
      rw [eg, if_neg gne]
      refine bnd n0 ?_
      rw [if_neg c35]
      unfold c286_j150
      exact bnd (n4 fr) rfl
/-- all the changes -/
theorem c286_31 (W : WF t0 1 m r) (Pn : ∀ a b : Int, 0 ≤ a → a < m → 0 ≤ b → b < m → wg t0 1 a 0 = wg t0 1 b 0 → a = b) (hk : 0 ≤ k ∧ k < m) (ht : tx ≤ 6) : ∀ (Lc us pre : List Nat) (c : Nat) (f : Int) (N : Nat) (t : hS), Lc.length < N → c + Lc.length ≤ 3000 → us.length ≤ 600 → LK (ntx t0 tx) Lc f → (∀ i ∈ Lc, i < 1200) → CHS (ntx t0 tx) h0 N0 c Lc us → (∀ y ∈ us, y ≠ 0) → frR t0 t → RUq h0 t0 t tx N0 k pre → ∃ t', lp (fun s => c286_b31 k s.1 s.2.1 s.2.2) N ((c : Int), gf tx f, t) = some t' ∧ frR t0 t' ∧ RUq h0 t0 t' tx N0 k (pre ++ us)
  | [], us, pre, c, f, N, t, hN, _, _, hl, _, C, _, fr, R => by
    obtain ⟨N, rfl⟩ : ∃ n, N = n + 1 := ⟨N - 1, by omega⟩
    have C : us = [] := C
    subst C
    have hl : f = -1 := hl
    subst hl
    refine ⟨t, lp_d ?_, fr, by rw [List.append_nil]; exact R⟩
    show c286_b31 k (c : Int) (gf tx (-1)) t = _
    unfold c286_b31
    rw [show gf tx (-1) = -1 from rfl, if_pos rfl]
  | i :: Lc, us, pre, c, f, N, t, hN, c3, l6, hl, h12, C, H0, fr, R => by
    obtain ⟨N, rfl⟩ : ∃ n, N = n + 1 := ⟨N - 1, by omega⟩
    obtain ⟨ys, zs, rfl, C1, C2⟩ : ∃ ys zs : List Nat, us = ys ++ zs ∧ CHg (ntx t0 tx) h0 N0 0 (c : Int) i ys ∧ CHS (ntx t0 tx) h0 N0 (c + 1) Lc zs := C
    obtain ⟨rfl, hl2⟩ : f = (i : Int) ∧ LK (ntx t0 tx) Lc (ntx t0 tx i 4) := hl
    have hm := W.2.1
    have hi := h12 i List.mem_cons_self
    have ln : (i :: Lc).length = Lc.length + 1 := rfl
    have lu : (ys ++ zs).length = ys.length + zs.length := List.length_append
    have eg : gf tx (i : Int) = gn tx i := by unfold gf; rw [if_neg (by omega), Int.toNat_natCast]
    have gne : gn tx i ≠ -1 := by unfold gn; omega
    have hl3 := LK_f hl2 (fun a ha => h12 a (List.mem_cons_of_mem _ ha))
    have nn : ∀ {t1 : hS}, frR t0 t1 → ∀ s : Nat, s < 5 → c256 (gn tx i) (s : Int) t1 = some (ntx t0 tx i s) := fun {t1} f1 s hs => by rw [c256_e ht hi hs, frR_n f1]
    have n4 : ∀ {t1 : hS}, frR t0 t1 → c257 (gn tx i) 4 t1 = some (gf tx (ntx t0 tx i 4)) := fun {t1} f1 => c257_f (s := 4) ht hi (by omega) (by rw [frR_n f1]) hl3
    have go : ∀ t1, frR t0 t1 → RUq h0 t0 t1 tx N0 k (pre ++ ys) → c286_b31 k (c : Int) (gf tx (i : Int)) t = some (.inl (((c + 1 : Nat) : Int), gf tx (ntx t0 tx i 4), t1)) → ∃ t', lp (fun s => c286_b31 k s.1 s.2.1 s.2.2) (N + 1) ((c : Int), gf tx (i : Int), t) = some t' ∧ frR t0 t' ∧ RUq h0 t0 t' tx N0 k (pre ++ (ys ++ zs)) := fun t1 f1 R1 e => by
      obtain ⟨t', a1, a2, a3⟩ := c286_31 W Pn hk ht Lc zs (pre ++ ys) (c + 1) (ntx t0 tx i 4) N t1 (by omega) (by omega) (by omega) hl2 (fun a ha => h12 a (List.mem_cons_of_mem _ ha)) C2 (fun z hz => H0 z (List.mem_append_right _ hz)) f1 R1
      refine ⟨t', (lp_n (show (fun s : Int × Int × hS => c286_b31 k s.1 s.2.1 s.2.2) ((c : Int), gf tx (i : Int), t) = _ from e)).trans a1, a2, ?_⟩
      rw [← List.append_assoc]; exact a3
    have j84 : ∀ (s0 l5 : Int) (t1 : hS), frR t0 t1 → lp (fun s => c286_b86 k (c : Int) l5 s.1 s.2) hF0 (s0, t) = some t1 → c286_j84 s0 k (c : Int) (gn tx i) l5 t = some (.inl (((c + 1 : Nat) : Int), gf tx (ntx t0 tx i 4), t1)) := fun s0 l5 t1 f1 e => by
      unfold c286_j84
      refine bnd e ?_
      refine bnd (n4 f1) ?_
      rw [wadd_n (by omega)]
    have none : lp (fun s => c286_b86 k (c : Int) (-1) s.1 s.2) hF0 (-1, t) = some t := by
      refine lp_d (n := 1999999) ?_
      show c286_b86 k (c : Int) (-1) (-1) t = _
      unfold c286_b86
      rw [if_pos rfl]
    have keep : (∀ y ∈ ys, hI h0 y 0 = 220 → ∀ n, RBq h0 t0 k n y = false) → RUq h0 t0 t tx N0 k (pre ++ ys) := fun q n n40 => by
      rw [ruN_no ys pre (fun y hy => ⟨H0 y (List.mem_append_left _ hy), by
        by_cases c : hI h0 y 0 = 220
        · exact q y hy c n
        · exact RBq_no c⟩)]
      exact R n n40
    obtain ⟨nm, x0, xz, rfl, cs⟩ := C1
    have lx : (x0 :: xz).length = xz.length + 1 := rfl
    have n0 := nn fr 0 (by omega)
    rcases cs with ⟨e, no, S, L, l1, l2, Me⟩ | ⟨e, S, L, l1, l2, Me⟩ | ⟨rfl, cs⟩
    · refine go t fr (keep (fun y hy y2 => ?_)) ?_
      · exfalso
        rcases List.mem_cons.mp hy with z | z
        · rw [z, S.2.1] at y2; omega
        · have : ∀ (L ys : List Nat), (∀ j ∈ L, ntx t0 tx j 0 ≤ 32) → MES (ntx t0 tx) h0 N0 0 (c : Int) (ntx t0 tx i 1) L ys → ∀ y ∈ ys, hI h0 y 0 ≠ 220 := by
            intro L
            induction L with
            | nil =>
              intro ys _ M y hy
              have M : ys = [] := M
              rw [M] at hy
              exact absurd hy List.not_mem_nil
            | cons a L ih =>
              intro ys h32 M y hy
              obtain ⟨y', zs', rfl, M1, M2⟩ : ∃ (y : Nat) (t : List Nat), ys = y :: t ∧ MEm (ntx t0 tx) h0 N0 0 (c : Int) (ntx t0 tx i 1) a y ∧ MES (ntx t0 tx) h0 N0 0 (c : Int) (ntx t0 tx i 1) L t := M
              rcases List.mem_cons.mp hy with z | z
              · have q := h32 a List.mem_cons_self
                obtain ⟨s, o, cd, Sp, -, cs⟩ := M1
                rw [z, Sp.2.1]
                rcases cs with ⟨-, z, -⟩ | ⟨-, z, -⟩ | ⟨-, z, -⟩ | ⟨z, -⟩ | ⟨z, -⟩ | ⟨z, -⟩ <;> omega
              · exact ih zs' (fun b hb => h32 b (List.mem_cons_of_mem _ hb)) M2 y z
          exact this L xz (fun j hj => (l2 j hj).2) Me y z y2
      · unfold c286_b31
        rw [eg, if_neg gne]
        refine bnd n0 ?_
        rw [if_neg (by omega)]
        unfold c286_j65
        rw [if_pos rfl]
        exact j84 (-1) (-1) t fr none
    · have e197 : c197 1 (ntx t0 tx i 1) t = some (nmx t0 m (ntx t0 tx i 1)) := by
        rw [c197_w (WF_fr W fr)]
        unfold nmx
        exact congrArg some (ix_congr (fun u hu => frR_w fr 1 (u : Int) 0))
      by_cases z : nmx t0 m (ntx t0 tx i 1) = -1
      · refine go t fr (keep (fun y hy y2 n => ?_)) ?_
        · have ey : hI h0 y 2 = ntx t0 tx i 1 := by
            rcases List.mem_cons.mp hy with q | q
            · rw [q, S.2.1] at y2; omega
            · have : ∀ (L ys : List Nat), MES (ntx t0 tx) h0 N0 0 (c : Int) (ntx t0 tx i 1) L ys → ∀ y ∈ ys, hI h0 y 2 = ntx t0 tx i 1 := by
                intro L
                induction L with
                | nil =>
                  intro ys M y hy
                  have M : ys = [] := M
                  rw [M] at hy
                  exact absurd hy List.not_mem_nil
                | cons a L ih =>
                  intro ys M y hy
                  obtain ⟨y', zs', rfl, M1, M2⟩ : ∃ (y : Nat) (t : List Nat), ys = y :: t ∧ MEm (ntx t0 tx) h0 N0 0 (c : Int) (ntx t0 tx i 1) a y ∧ MES (ntx t0 tx) h0 N0 0 (c : Int) (ntx t0 tx i 1) L t := M
                  rcases List.mem_cons.mp hy with q | q
                  · obtain ⟨s, o, cd, Sp, -, -⟩ := M1
                    rw [q]; exact Sp.2.2.2.1
                  · exact ih zs' M2 y q
              exact this L xz Me y q
          unfold RBq
          rw [ey, iU_o W (fun v v0 v1 q => ?_) (.inr hk), decide_eq_false (show ¬ (-1 : Int) ≠ -1 from fun q => q rfl), Bool.and_false, Bool.and_false]
          have := ix_none (show ix (fun j : Nat => wg t0 1 (j : Int) 0) (ntx t0 tx i 1) m = -1 from z) v.toNat (by omega)
          rw [show ((v.toNat : Nat) : Int) = v by omega] at this
          exact this q
        · unfold c286_b31
          rw [eg, if_neg gne]
          refine bnd n0 ?_
          rw [if_pos e]
          refine bnd (nn fr 1 (by omega)) ?_
          refine bnd e197 ?_
          unfold c286_j65
          rw [z, if_pos rfl]
          exact j84 (-1) (-1) t fr none
      · obtain ⟨j0, j1, jn⟩ : 0 ≤ nmx t0 m (ntx t0 tx i 1) ∧ nmx t0 m (ntx t0 tx i 1) < m ∧ wg t0 1 (nmx t0 m (ntx t0 tx i 1)) 0 = ntx t0 tx i 1 := by
          rcases nmx_b (hr := t0) (m := m) (ntx t0 tx i 1) with y | y
          · exact absurd y z
          · exact y
        have R0 : RUq h0 t0 t tx N0 k (pre ++ [x0]) := fun n n40 => by
          rw [ruN_no [x0] pre (fun y hy => by
            have : y = x0 := List.mem_singleton.mp hy
            rw [this]
            exact ⟨H0 x0 (List.mem_append_left _ List.mem_cons_self), RBq_no (by rw [S.2.1]; omega)⟩)]
          exact R n n40
        obtain ⟨lL, -⟩ := MES_n Me
        obtain ⟨t1, a1, a2, a3⟩ := c286_86 W Pn hk ht ⟨j0, j1⟩ jn L xz (pre ++ [x0]) (ntx t0 tx i 3) hF0 t (by rw [lL]; exact hF0_lt (by omega)) l1 (fun a ha => by have := (l2 a ha).2; omega) Me (fun y hy => H0 y (List.mem_append_left _ (List.mem_cons_of_mem _ hy))) fr R0
        refine go t1 a2 (by have q : pre ++ x0 :: xz = (pre ++ [x0]) ++ xz := by simp
                            rw [q]; exact a3) ?_
        unfold c286_b31
        rw [eg, if_neg gne]
        refine bnd n0 ?_
        rw [if_pos e]
        refine bnd (nn fr 1 (by omega)) ?_
        refine bnd e197 ?_
        unfold c286_j65
        rw [if_neg z]
        refine bnd (c257_f (s := 3) ht hi (by omega) (by rw [frR_n fr]) (LK_f l1 (fun a ha => by have := (l2 a ha).2; omega))) ?_
        exact j84 _ _ t1 a2 a1
    · refine go t fr (keep (fun y hy y2 => ?_)) ?_
      · exfalso
        have : y = x0 := List.mem_singleton.mp hy
        rw [this] at y2
        rcases cs with ⟨-, S⟩ | ⟨-, -, S⟩ | ⟨-, cd, S, -⟩
        · rw [S.2.1] at y2; omega
        · rw [S.2.1] at y2; omega
        · rw [S.2.1] at y2; omega
      · unfold c286_b31
        rw [eg, if_neg gne]
        refine bnd n0 ?_
        rw [if_neg (by rcases cs with ⟨e, -⟩ | ⟨e, -⟩ | ⟨e, -⟩ <;> omega)]
        unfold c286_j65
        rw [if_pos rfl]
        exact j84 (-1) (-1) t fr none
theorem c286_2 : ∀ (D i N : Nat) (t : hS), i + D = 40 → D < N → (∀ n, n < i → hI t 444 n = -1) → ∃ t', lp (fun s => c286_b2 s.1 s.2) N ((i : Int), t) = some t' ∧ fp (fun x _ => x = 444) t t' ∧ ∀ n, n < 40 → hI t' 444 n = -1
  | 0, i, N, t, hi, hN, H => by
    obtain ⟨N, rfl⟩ : ∃ n, N = n + 1 := ⟨N - 1, by omega⟩
    obtain rfl : i = 40 := by omega
    refine ⟨t, lp_d ?_, fp_rf, H⟩
    show c286_b2 ((40 : Nat) : Int) t = _
    unfold c286_b2
    rw [if_pos (by omega)]
  | D + 1, i, N, t, hi, hN, H => by
    obtain ⟨N, rfl⟩ : ∃ n, N = n + 1 := ⟨N - 1, by omega⟩
    obtain ⟨t1, et⟩ : ∃ t1, t1 = sI t 444 i (-1) := ⟨_, rfl⟩
    obtain ⟨t', a1, a2, a3⟩ := c286_2 D (i + 1) N t1 (by omega) (by omega) (fun n hn => by
      rw [et, hI_sI]
      by_cases c : n = i
      · rw [if_pos ⟨rfl, c⟩]
      · rw [if_neg (fun z => c z.2)]
        exact H n (by omega))
    refine ⟨t', (lp_n (s' := (((i + 1 : Nat) : Int), t1)) ?_).trans a1, fp_tr (by rw [et]; exact fp_sI rfl) a2, a3⟩
    show c286_b2 (i : Int) t = _
    unfold c286_b2
    rw [if_neg (by omega)]
    refine bnd ((wIs_s (by omega) (by omega)).trans (congrArg some (show sI t 444 ((i : Int)).toNat (-1) = t1 by rw [Int.toNat_natCast]; exact et.symm))) ?_
    rw [wadd_n (by omega)]
/-- the other side's rules for the creatures of kind k -/
theorem c286_e {pk : Nat} {f : Int} {Lc : List Nat} (W : WF t 1 m r) (Pn : ∀ a b : Int, 0 ≤ a → a < m → 0 ≤ b → b < m → wg t 1 a 0 = wg t 1 b 0 → a = b) (hk : 0 ≤ k ∧ k < m) (ht : tx ≤ 6) (pk6 : pk < 6) (e401 : hI t 401 pk = gf tx f) (hl : LK (ntx t tx) Lc f) (h12 : ∀ i ∈ Lc, i < 1200) (lc : Lc.length ≤ 600) (C : CHS (ntx t tx) h0 N0 0 Lc us) (l6 : us.length ≤ 600) (H0 : ∀ y ∈ us, y ≠ 0) : ∃ t', c286 (pk : Int) k t = some t' ∧ frR t t' ∧ RUq h0 t t' tx N0 k us := by
  obtain ⟨t1, a1, a2, a3⟩ := c286_2 40 0 hF0 t rfl (hF0_lt (by omega)) (fun n hn => by omega)
  have f1 : frR t t1 := ⟨a2.1, fun x j z => a2.2 x j (fun q => z (.inl q))⟩
  obtain ⟨t', b1, b2, b3⟩ := c286_31 (h0 := h0) (N0 := N0) W Pn hk ht Lc us [] 0 f hF0 t1 (hF0_lt (by omega)) (by omega) l6 hl h12 C H0 f1 (fun n n40 => .inl ⟨rfl, a3 n n40⟩)
  refine ⟨t', ?_, b2, b3⟩
  unfold c286
  refine bnd a1 ?_
  refine bnd (aIs_s (by omega) (by omega)) ?_
  rw [Int.toNat_natCast, f1.2 401 pk (by omega), e401]
  exact bnd b1 rfl
end RUL
