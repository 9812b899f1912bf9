/-! a patch is made: all the checks -/
/-- the class checks step by step -/
def ckR : List Nat → hS → Int × hS → Prop
  | [], h, o => o = (1, h)
  | y :: r, h, o => ∃ h1, ckL h h1 ∧ ((lp (fun s => c164_b28 y s.1 s.2) hF0 (0, h) = some (.inl h1) ∧ ckR r h1 o) ∨ (lp (fun s => c164_b28 y s.1 s.2) hF0 (0, h) = some (.inr (0, h1)) ∧ o = (0, h1)))
section CKT
variable {hY t5 h0 h t h' t' h1 h2 : hS} {K : Nat → Int → Prop} {P m q N0 tx c y cd M i pt S A qq : Nat} {r : Int → Nat} {kn ch e top : Int} {us ys zs : List Nat}
theorem ckR_app {o : Int × hS} : ∀ {ys : List Nat} {h : hS}, ckR ys h (1, h1) → ckR zs h1 o → ckR (ys ++ zs) h o
  | [], h, T, T2 => by
    have e : ((1 : Int), h1) = (1, h) := T
    have e2 : h1 = h := congrArg (fun z => z.2) e
    rw [← e2]
    exact T2
  | x :: ys, h, T, T2 => by
    obtain ⟨h2, a1, a2⟩ := T
    refine ⟨h2, a1, ?_⟩
    rcases a2 with ⟨b1, b2⟩ | ⟨b1, b2⟩
    · exact .inl ⟨b1, ckR_app b2 T2⟩
    · have e2 : (1 : Int) = 0 := congrArg (fun z => z.1) b2
      omega
theorem ckR_st : ∀ {ys : List Nat} {h : hS}, ckR ys h (0, h1) → ckR (ys ++ zs) h (0, h1)
  | [], h, T => by
    have e : ((0 : Int), h1) = (1, h) := T
    have e2 : (0 : Int) = 1 := congrArg (fun z => z.1) e
    omega
  | x :: ys, h, T => by
    obtain ⟨h2, a1, a2⟩ := T
    refine ⟨h2, a1, ?_⟩
    rcases a2 with ⟨b1, b2⟩ | ⟨b1, b2⟩
    · exact .inl ⟨b1, ckR_st b2⟩
    · exact .inr ⟨b1, b2⟩
/-- the steps that are no checks -/
theorem ckR_no : ∀ (ys : List Nat), (∀ y ∈ ys, hT h y = 22 ∧ hI h y 0 ≠ 221) → ckR ys h (1, h)
  | [], _ => rfl
  | y :: ys, H => by
    obtain ⟨a, b⟩ := H y List.mem_cons_self
    refine ⟨h, ckL_o ckH_rf, .inl ⟨?_, ckR_no ys (fun z hz => H z (List.mem_cons_of_mem _ hz))⟩⟩
    refine lp_d (n := 1999999) ?_
    show c164_b28 y 0 h = _
    unfold c164_b28
    refine bnd (gI_s a) ?_
    rw [if_neg b]
/-- a creature that doesn't live isn't asked -/
theorem CK_d {k9 o9 : Int} (B : CKB hY t5 K P m q r) (SmY : ∀ x, 448 ≤ x → x < P → sm h0 hY x) (y8 : 448 ≤ y ∧ y < P) (S : SPc h0 y 221 ch kn k9 o9 cd) (c40 : c < 40) (cH : ckH hY h) (no : hI hY (53 + 4 * c) 1 = 0 ∨ tpq t5 m kn = -1) : c164_b28 y (c : Int) h = some (.inl (((c + 1 : Nat) : Int), h)) := by
  obtain ⟨Pw, TBp, P448, ⟨e33, q40⟩, SF, CC, -, T24⟩ := id B
  obtain ⟨lv, -, -, l3⟩ := CC c c40
  have W := Pw.1
  obtain ⟨r49, s1, -⟩ := SF c c40
  have hc := ckH_cy cH
  have sy := sm_tr (SmY y y8.1 y8.2) (show sm hY h y from ⟨fun j => cH.2.2 y j (by omega), fun j => cH.2.1 y j (by omega), by rw [cH.1.2.1], by rw [cH.1.2.2.1]⟩)
  obtain ⟨q22, p0, p1, p2, p3, p4, p5⟩ := SPc_s S sy
  have T16 : hT h (53 + 4 * c) = 16 := by rw [cH.1.2.1]; exact s1
  have elv : hI h (53 + 4 * c) 1 = hI hY (53 + 4 * c) 1 := cH.2.2 _ _ (by omega)
  have j81 : c164_j81 y (c : Int) (53 + 4 * c) h = some (.inl (((c + 1 : Nat) : Int), h)) := by
    unfold c164_j81 c164_j82 c164_j128
    rw [if_pos rfl, wadd_n (by omega)]
  unfold c164_b28
  refine bnd (gI_s q22) ?_
  rw [p0, if_pos rfl, if_neg (show ¬ (40 : Int) ≤ (c : Int) by omega)]
  refine bnd (show aRs h 49 40 (c : Int) = some (53 + 4 * c) by rw [aRs_s (by omega) (by omega), Int.toNat_natCast, cH.2.1 49 c (by omega)]; exact congrArg some r49) ?_
  refine bnd (gI_s T16) ?_
  rw [elv]
  by_cases z : hI hY (53 + 4 * c) 1 = 0
  · rw [if_pos z]
    exact j81
  · rw [if_neg z]
    have lv1 : hI hY (53 + 4 * c) 1 = 1 := by
      rcases lv with w | w
      · exact absurd w z
      · exact w
    have tn : tpq t5 m kn = -1 := by
      rcases no with w | w
      · exact absurd w z
      · exact w
    obtain ⟨⟨k0, k1, k2⟩, -⟩ := l3 lv1
    have Pwh : PW h t5 K P 0 m r := PW_cy Pw hc fp_rf (.inr P448)
    have kk : ∀ u : Int, kd h P u = kd hY P u := kd_cy Pw hc (.inr P448)
    have Qt := Pwh.2.2.1 _ k0 k1
    refine bnd (gR_s T16) ?_
    rw [cH.2.1 _ _ (by omega), k2, ← kk]
    refine bnd (gI_s q22) ?_
    refine bnd (kT_s Qt.1.2.2.1) ?_
    rw [p2]
    refine bnd (c150_w (n := kn) Pwh (.inr ⟨k0, k1⟩)) ?_
    rw [iU_o W (fun v v0 v1 w => ?_) (.inr ⟨k0, k1⟩), if_pos rfl, if_pos rfl]
    · exact j81
    · have := ix_none (show ix (fun k : Nat => wg t5 0 (k : Int) 0) kn m = -1 from tn) v.toNat (by omega)
      rw [show ((v.toNat : Nat) : Int) = v by omega] at this
      exact this w
theorem CK_dl {k9 o9 : Int} (B : CKB hY t5 K P m q r) (SmY : ∀ x, 448 ≤ x → x < P → sm h0 hY x) (y8 : 448 ≤ y ∧ y < P) (S : SPc h0 y 221 ch kn k9 o9 cd) (cH : ckH hY h) : ∀ (D i N : Nat), i + D = 40 → D < N → (∀ c, i ≤ c → c < 40 → hI hY (53 + 4 * c) 1 = 0 ∨ tpq t5 m kn = -1) → lp (fun s => c164_b28 y s.1 s.2) N ((i : Int), h) = some (.inl h)
  | 0, i, N, hi, hN, H => by
    obtain ⟨N, rfl⟩ : ∃ n, N = n + 1 := ⟨N - 1, by omega⟩
    obtain rfl : i = 40 := by omega
    have sy := sm_tr (SmY y y8.1 y8.2) (show sm hY h y from ⟨fun j => cH.2.2 y j (by omega), fun j => cH.2.1 y j (by omega), by rw [cH.1.2.1], by rw [cH.1.2.2.1]⟩)
    obtain ⟨q22, p0, -⟩ := SPc_s S sy
    refine lp_d ?_
    show c164_b28 y ((40 : Nat) : Int) h = _
    unfold c164_b28
    refine bnd (gI_s q22) ?_
    rw [p0, if_pos rfl, if_pos (by omega)]
  | D + 1, i, N, hi, hN, H => by
    obtain ⟨N, rfl⟩ : ∃ n, N = n + 1 := ⟨N - 1, by omega⟩
    refine (lp_n (s' := (((i + 1 : Nat) : Int), h)) ?_).trans (CK_dl B SmY y8 S cH D (i + 1) N (by omega) (by omega) (fun c c1 c2 => H c (by omega) c2))
    exact CK_d B SmY y8 S (show i < 40 by omega) cH (H i (Nat.le_refl _) (by omega))
/-- one check, all the creatures -/
theorem CK_l {k9 o9 : Int} (B : CKB hY t5 K P m q r) (SmY : ∀ x, 448 ≤ x → x < P → sm h0 hY x) (hP : hN h0 = P) (ht : tx ≤ 6) (N8 : 448 ≤ N0) (y8 : 448 ≤ y ∧ y < P) (S : SPc h0 y 221 ch kn k9 o9 cd) (RU : RUc (ntx t5 tx) h0 N0 M cd e) (M12 : M ≤ 1200) {s : Nat} (hs : s < 1200) (e2 : ntx t5 tx s 2 = e) (et : tpq t5 m kn = top) (tn : top ≠ -1) : ∀ (D i N : Nat) (h t : hS), i + D = q → D + 41 < N → ckH hY h → ckT t5 t → hI t 395 54 = 0 → (∃ h' t', lp (fun s => c164_b28 y s.1 s.2) N ((i : Int), h) = some (.inl h') ∧ lp (fun u => c289_b45 ch (gn tx s) top u.1 u.2) N ((i : Int), t) = some (.inl t') ∧ ckH hY h' ∧ ckT t5 t' ∧ hI t' 395 54 = 0) ∨ (∃ h' t', lp (fun s => c164_b28 y s.1 s.2) N ((i : Int), h) = some (.inr (0, h')) ∧ lp (fun u => c289_b45 ch (gn tx s) top u.1 u.2) N ((i : Int), t) = some (.inr (0, t')) ∧ RFc hY t5 h' t')
  | 0, i, N, h, t, hi, hN, cH, cT, e54 => by
    obtain ⟨-, -, -, ⟨e33, q40⟩, -, CC, -, -⟩ := id B
    have l := CK_dl B SmY y8 S cH (40 - i) i N (by omega) (by omega) (fun c c1 c2 => .inl ((CC c c2).2.2.1 (by omega)))
    obtain ⟨N, rfl⟩ : ∃ n, N = n + 1 := ⟨N - 1, by omega⟩
    refine .inl ⟨h, t, l, lp_d ?_, cH, cT, e54⟩
    show c289_b45 ch (gn tx s) top (i : Int) t = _
    unfold c289_b45
    rw [cT.2 395 33 (by omega), e33, if_pos (by omega)]
  | D + 1, i, N, h, t, hi, hN, cH, cT, e54 => by
    obtain ⟨N, rfl⟩ : ∃ n, N = n + 1 := ⟨N - 1, by omega⟩
    rcases CK_c B SmY hP ht N8 y8 S RU M12 hs e2 (show i < q by omega) et tn cH cT e54 with ⟨g, s', a1, a2, a3, a4, a5⟩ | ⟨g, s', a1, a2, a3⟩
    · rcases CK_l B SmY hP ht N8 y8 S RU M12 hs e2 et tn D (i + 1) N g s' (by omega) (by omega) a3 a4 a5 with ⟨g2, s2, b1, b2, b3⟩ | ⟨g2, s2, b1, b2, b3⟩
      · refine .inl ⟨g2, s2, ?_, ?_, b3⟩
        · refine (lp_n (s' := (((i + 1 : Nat) : Int), g)) ?_).trans b1
          exact a1
        · refine (lp_n (s' := (((i + 1 : Nat) : Int), s')) ?_).trans b2
          exact a2
      · refine .inr ⟨g2, s2, ?_, ?_, b3⟩
        · refine (lp_n (s' := (((i + 1 : Nat) : Int), g)) ?_).trans b1
          exact a1
        · refine (lp_n (s' := (((i + 1 : Nat) : Int), s')) ?_).trans b2
          exact a2
    · refine .inr ⟨g, s', ?_, ?_, a3⟩
      · refine lp_d ?_
        exact a1
      · refine lp_d ?_
        exact a2
theorem MES_s {N : Nat → Nat → Int} {lo : Nat} : ∀ {L ys : List Nat}, MES N h N0 lo ch kn L ys → ∀ y ∈ ys, hT h y = 22 ∧ hI h y 0 ≠ 221
  | [], ys, M, y, hy => by
    have M : ys = [] := M
    rw [M] at hy
    exact absurd hy List.not_mem_nil
  | i :: L, ys, M, y, hy => by
    obtain ⟨y', zs, rfl, M1, M2⟩ : ∃ (y : Nat) (t : List Nat), ys = y :: t ∧ MEm N h N0 lo ch kn i y ∧ MES N h N0 lo ch kn L t := M
    rcases List.mem_cons.mp hy with e | e
    · obtain ⟨s, o, cd, S, -, cs⟩ := M1
      rw [e]
      refine ⟨S.1, ?_⟩
      rw [S.2.1]
      rcases cs with ⟨-, z, -⟩ | ⟨-, z, -⟩ | ⟨-, z, -⟩ | ⟨-, z⟩ | ⟨-, z, -⟩ | ⟨-, z, -⟩ <;> omega
    · exact MES_s M2 y e
/-- all the checks -/
theorem CKA (B : CKB hY t5 K P m q r) (SmY : ∀ x, 448 ≤ x → x < P → sm h0 hY x) (hP : hN h0 = P) (ht : tx ≤ 6) (N8 : 448 ≤ N0) : ∀ (Lc us : List Nat) (c : Nat) (f : Int) (N : Nat) (h t : hS), Lc.length < N → c + Lc.length ≤ 3000 → LK (ntx t5 tx) Lc f → (∀ i ∈ Lc, i < 1200) → CHS (ntx t5 tx) h0 N0 c Lc us → (∀ y ∈ us, 448 ≤ y ∧ y < P) → ckH hY h → ckT t5 t → hI t 395 54 = 0 → ∃ (o : Int × hS) (t' : hS), ckR us h o ∧ ((o.1 = 1 ∧ lp (fun s => c289_b9 s.1 s.2.1 s.2.2) N ((c : Int), gf tx f, t) = some (.inl t') ∧ ckH hY o.2 ∧ ckT t5 t' ∧ hI t' 395 54 = 0) ∨ (o.1 = 0 ∧ lp (fun s => c289_b9 s.1 s.2.1 s.2.2) N ((c : Int), gf tx f, t) = some (.inr (0, t')) ∧ RFc hY t5 o.2 t'))
  | [], us, c, f, N, h, t, hN', _, hl, _, C, _, cH, cT, e54 => by
    obtain ⟨N, rfl⟩ : ∃ n, N = n + 1 := ⟨N - 1, by omega⟩
    have C : us = [] := C
    subst C
    have hl : f = -1 := hl
    subst hl
    refine ⟨(1, h), t, rfl, .inl ⟨rfl, lp_d ?_, cH, cT, e54⟩⟩
    show c289_b9 (c : Int) (gf tx (-1)) t = _
    unfold c289_b9
    rw [show gf tx (-1) = -1 from rfl, if_pos rfl]
  | i :: Lc, us, c, f, N, h, t, hN', c3, hl, h12, C, Y, cH, cT, e54 => by
    obtain ⟨N, rfl⟩ : ∃ n, N = n + 1 := ⟨N - 1, by omega⟩
    obtain ⟨ys, zs, rfl, C1, C2⟩ : ∃ ys zs : List Nat, us = ys ++ zs ∧ CHg (ntx t5 tx) h0 N0 0 (c : Int) i ys ∧ CHS (ntx t5 tx) h0 N0 (c + 1) Lc zs := C
    obtain ⟨rfl, hl2⟩ : f = (i : Int) ∧ LK (ntx t5 tx) Lc (ntx t5 tx i 4) := hl
    obtain ⟨Pw, TBp, P448, ⟨e33, q40⟩, -⟩ := id B
    have hm := Pw.1.2.1
    have hi := h12 i List.mem_cons_self
    have ln : (i :: Lc).length = Lc.length + 1 := rfl
    have eg : gf tx (i : Int) = gn tx i := by unfold gf; rw [if_neg (by omega), Int.toNat_natCast]
    have gne : gn tx i ≠ -1 := by unfold gn; omega
    have hl3 := LK_f hl2 (fun a ha => h12 a (List.mem_cons_of_mem _ ha))
    have nnx : ∀ {t1 : hS}, ckT t5 t1 → ∀ a b, ntx t1 tx a b = ntx t5 tx a b := fun {t1} f1 a b => f1.2 399 _ (by omega)
    have n0 : ∀ s : Nat, s < 5 → c256 (gn tx i) (s : Int) t = some (ntx t5 tx i s) := fun s hs => by rw [c256_e ht hi hs, nnx cT]
    have n4 : ∀ {t1 : hS}, ckT t5 t1 → c257 (gn tx i) 4 t1 = some (gf tx (ntx t5 tx i 4)) := fun {t1} f1 => c257_f (s := 4) ht hi (by omega) (by rw [nnx f1]) hl3
    -- one change: from (h, t) to (g, s)
    have go : ∀ (g s : hS), ckR ys h (1, g) → c289_b9 (c : Int) (gf tx (i : Int)) t = some (.inl (((c + 1 : Nat) : Int), gf tx (ntx t5 tx i 4), s)) → ckH hY g → ckT t5 s → hI s 395 54 = 0 → ∃ (o : Int × hS) (t' : hS), ckR (ys ++ zs) h o ∧ ((o.1 = 1 ∧ lp (fun s => c289_b9 s.1 s.2.1 s.2.2) (N + 1) ((c : Int), gf tx (i : Int), t) = some (.inl t') ∧ ckH hY o.2 ∧ ckT t5 t' ∧ hI t' 395 54 = 0) ∨ (o.1 = 0 ∧ lp (fun s => c289_b9 s.1 s.2.1 s.2.2) (N + 1) ((c : Int), gf tx (i : Int), t) = some (.inr (0, t')) ∧ RFc hY t5 o.2 t')) := fun g s a1 a2 a3 a4 a5 => by
      obtain ⟨o, t', b1, b2⟩ := CKA B SmY hP ht N8 Lc zs (c + 1) (ntx t5 tx i 4) N g s (by omega) (by omega) hl2 (fun a ha => h12 a (List.mem_cons_of_mem _ ha)) C2 (fun y hy => Y y (List.mem_append_right _ hy)) a3 a4 a5
      refine ⟨o, t', ckR_app a1 b1, ?_⟩
      rcases b2 with ⟨d1, d2, d3⟩ | ⟨d1, d2, d3⟩
      · refine .inl ⟨d1, ?_, d3⟩
        refine (lp_n (s' := (((c + 1 : Nat) : Int), gf tx (ntx t5 tx i 4), s)) ?_).trans d2
        exact a2
      · refine .inr ⟨d1, ?_, d3⟩
        refine (lp_n (s' := (((c + 1 : Nat) : Int), gf tx (ntx t5 tx i 4), s)) ?_).trans d2
        exact a2
    have none : ∀ (ty : Int), lp (fun u => c289_b45 (c : Int) ty (-1) u.1 u.2) hF0 (0, t) = some (.inl t) := fun ty => by
      refine lp_d (n := 1999999) ?_
      show c289_b45 (c : Int) ty (-1) 0 t = _
      unfold c289_b45
      by_cases z : hI t 395 33 ≤ 0
      · rw [if_pos z]
      · rw [if_neg z, if_pos rfl]
    have j40 : ∀ (top : Int) (s : hS), lp (fun u => c289_b45 (c : Int) (gn tx i) top u.1 u.2) hF0 (0, t) = some (.inl s) → ckT t5 s → c289_j40 top (c : Int) (gn tx i) t = some (.inl (((c + 1 : Nat) : Int), gf tx (ntx t5 tx i 4), s)) := fun top s e f1 => by
      unfold c289_j40
      refine bnd e ?_
      rw [xs_il]
      refine bnd (n4 f1) ?_
      rw [wadd_n (by omega)]
    have skip : ntx t5 tx i 0 ≠ 44 → (∀ y ∈ ys, hT h0 y = 22 ∧ hI h0 y 0 ≠ 221) → ∃ (o : Int × hS) (t' : hS), ckR (ys ++ zs) h o ∧ ((o.1 = 1 ∧ lp (fun s => c289_b9 s.1 s.2.1 s.2.2) (N + 1) ((c : Int), gf tx (i : Int), t) = some (.inl t') ∧ ckH hY o.2 ∧ ckT t5 t' ∧ hI t' 395 54 = 0) ∨ (o.1 = 0 ∧ lp (fun s => c289_b9 s.1 s.2.1 s.2.2) (N + 1) ((c : Int), gf tx (i : Int), t) = some (.inr (0, t')) ∧ RFc hY t5 o.2 t')) := fun n44 H => by
      refine go h t (ckR_no ys (fun y hy => ?_)) ?_ cH cT e54
      · obtain ⟨y1, y2⟩ := Y y (List.mem_append_left _ hy)
        have sy := sm_tr (SmY y y1 y2) (show sm hY h y from ⟨fun j => cH.2.2 y j (by omega), fun j => cH.2.1 y j (by omega), by rw [cH.1.2.1], by rw [cH.1.2.2.1]⟩)
        rw [sy.2.2.1, sy.1]
        exact H y hy
      · unfold c289_b9
        rw [eg, if_neg gne]
        refine bnd (n0 0 (by omega)) ?_
        rw [if_neg n44]
        exact j40 (-1) t (none _) cT
    obtain ⟨nm, x0, xz, rfl, cs⟩ := C1
    rcases cs with ⟨e, no, S, L, l1, l2, Me⟩ | ⟨e, S, L, l1, l2, Me⟩ | ⟨rfl, cs⟩
    · refine skip (by omega) (fun y hy => ?_)
      rcases List.mem_cons.mp hy with z | z
      · rw [z]; exact ⟨S.1, by rw [S.2.1]; omega⟩
      · exact MES_s Me y z
    · refine skip (by omega) (fun y hy => ?_)
      rcases List.mem_cons.mp hy with z | z
      · rw [z]; exact ⟨S.1, by rw [S.2.1]; omega⟩
      · exact MES_s Me y z
    · rcases cs with ⟨e, S⟩ | ⟨e, no, S⟩ | ⟨e, cd, S, RU⟩
      · refine skip (by omega) (fun y hy => ?_)
        rw [List.mem_singleton.mp hy]
        exact ⟨S.1, by rw [S.2.1]; omega⟩
      · refine skip (by omega) (fun y hy => ?_)
        rw [List.mem_singleton.mp hy]
        exact ⟨S.1, by rw [S.2.1]; omega⟩
      · have y8 := Y x0 (List.mem_append_left _ List.mem_cons_self)
        have e197 : c197 0 (ntx t5 tx i 1) t = some (tpq t5 m (ntx t5 tx i 1)) := by
          have emt : wm t 0 = (m : Int) := by show hI t 400 _ = _; rw [cT.2 400 _ (by omega)]; exact Pw.1.1
          rw [c197_e (m := m) (by omega) (by omega) emt hm]
          unfold tpq
          exact congrArg some (ix_congr (fun u hu => by unfold wg; rw [cT.2 400 _ (by omega)]))
        have pre : ∀ R, c289_j40 (tpq t5 m (ntx t5 tx i 1)) (c : Int) (gn tx i) t = R → c289_b9 (c : Int) (gf tx (i : Int)) t = R := fun R eR => by
          unfold c289_b9
          rw [eg, if_neg gne]
          refine bnd (n0 0 (by omega)) ?_
          rw [if_pos e]
          refine bnd (n0 1 (by omega)) ?_
          refine bnd e197 ?_
          exact eR
        by_cases tn : tpq t5 m (ntx t5 tx i 1) = -1
        · have l := CK_dl B SmY y8 S cH 40 0 hF0 (by omega) (hF0_lt (by omega)) (fun _ _ _ => .inr tn)
          refine go h t ⟨h, ckL_o ckH_rf, .inl ⟨l, rfl⟩⟩ (pre _ ?_) cH cT e54
          rw [tn]
          exact j40 (-1) t (none _) cT
        · rcases CK_l B SmY hP ht N8 y8 S RU (by omega) hi rfl rfl tn q 0 hF0 h t (by omega) (hF0_lt (by omega)) cH cT e54 with ⟨g, s', b1, b2, b3, b4, b5⟩ | ⟨g, s', b1, b2, b3⟩
          · have chh : ckH h g := by
              refine ⟨⟨b3.1.1.trans cH.1.1.symm, b3.1.2.1.trans cH.1.2.1.symm, b3.1.2.2.1.trans cH.1.2.2.1.symm, b3.1.2.2.2.1.trans cH.1.2.2.2.1.symm, b3.1.2.2.2.2.trans cH.1.2.2.2.2.symm⟩, fun x j z => (b3.2.1 x j z).trans (cH.2.1 x j z).symm, fun x j z => (b3.2.2 x j z).trans (cH.2.2 x j z).symm⟩
            exact go g s' ⟨g, ckL_o chh, .inl ⟨b1, rfl⟩⟩ (pre _ (j40 _ s' b2 b4)) b3 b4 b5
          · have chh : ckL h g := by
              obtain ⟨b3, -⟩ := b3
              refine ⟨⟨b3.1.1.trans cH.1.1.symm, b3.1.2.1.trans cH.1.2.1.symm, b3.1.2.2.1.trans cH.1.2.2.1.symm, b3.1.2.2.2.1.trans cH.1.2.2.2.1.symm, b3.1.2.2.2.2.trans cH.1.2.2.2.2.symm⟩, fun x j z => (b3.2.1 x j z).trans (cH.2.1 x j z).symm, fun x j z => (b3.2.2 x j z).trans (cH.2.2 x j (by omega)).symm⟩
            refine ⟨(0, g), s', ckR_st ⟨g, chh, .inr ⟨b1, rfl⟩⟩, .inr ⟨rfl, ?_, b3⟩⟩
            refine lp_d ?_
            refine pre _ ?_
            unfold c289_j40
            refine bnd b2 ?_
            rw [xs_ir]
/-- the class goes through the list -/
theorem c164_l (hpt : hT h0 pt = 26 ∧ hR h0 pt 0 = S ∧ 448 ≤ pt ∧ pt < P) (LL : LSt h0 N0 S us A qq) (N8 : 448 ≤ N0) (hP : hN h0 = P) (A8 : A < P) (l6 : us.length ≤ 600) : ∀ (zs pre : List Nat) (i n : Nat) (h : hS) (o : Int × hS), us = pre ++ zs → pre.length = i → zs.length < n → (∀ x, 448 ≤ x → x < P → sm h0 h x) → ckR zs h o → lp (fun s => c164_b2 pt s.1 s.2) n ((i : Int), h) = some (if o.1 = 0 then .inr (0, o.2) else .inl o.2) := by
  obtain ⟨⟨l1, l2, l3, l4, l5⟩, ⟨l6', l7, l8, l9⟩, lA, l10⟩ := LL
  intro zs
  induction zs with
  | nil =>
    intro pre i n h o eu ei hn Sm T
    obtain ⟨n, rfl⟩ : ∃ a, n = a + 1 := ⟨n - 1, by omega⟩
    have T : o = (1, h) := T
    subst T
    have e0 : us.length = i := by rw [eu, List.append_nil, ei]
    have sp := Sm pt (by omega) (by omega)
    have sS := Sm S (by omega) (by omega)
    refine lp_d ?_
    show c164_b2 pt (i : Int) h = _
    unfold c164_b2
    refine bnd (gR_s (by rw [sp.2.2.1]; exact hpt.1)) ?_
    rw [sp.2.1, hpt.2.1]
    refine bnd (kT_s (by rw [sS.2.2.1]; exact l3)) ?_
    refine bnd (show c143 S h = some (us.length : Int) from ?_) ?_
    · unfold c143
      rw [gI_s (by rw [sS.2.2.1]; exact l3), sS.1, l4]
      rfl
    · rw [if_pos (by omega), if_neg (by omega)]
  | cons x zs ih =>
    intro pre i n h o eu ei hn Sm T
    obtain ⟨n, rfl⟩ : ∃ a, n = a + 1 := ⟨n - 1, by omega⟩
    obtain ⟨h1, a2, a4⟩ := T
    have lz : (x :: zs).length = zs.length + 1 := rfl
    have e0 : us.length = i + (zs.length + 1) := by rw [eu, List.length_append, ei, lz]
    have ex : us[i]? = some x := by
      rw [eu, List.getElem?_append_right (by omega), ei, Nat.sub_self]
      rfl
    obtain ⟨x1, x2, x3, x4⟩ := l10 i x ex
    have sp := Sm pt (by omega) (by omega)
    have sS := Sm S (by omega) (by omega)
    have sA := Sm A (by omega) A8
    have sx := Sm x (by omega) (by omega)
    have e144 : c144 S (i : Int) h = some x := by
      unfold c144
      refine bnd (gI_s (by rw [sS.2.2.1]; exact l3)) ?_
      rw [sS.1, l4]
      refine bnd (show c145 (i : Int) (us.length : Int) h = some (i : Int) from ?_) ?_
      · unfold c145 c8
        rw [if_neg (by omega), if_pos (by omega)]
        rfl
      · refine bnd (kT_s (by rw [sS.2.2.1]; exact l3)) ?_
        refine bnd (show c146 S (i : Int) h = some x from ?_) rfl
        unfold c146
        refine bnd (gR_s (by rw [sS.2.2.1]; exact l3)) ?_
        rw [sS.2.1, l5]
        refine bnd (aR_s (by rw [sA.2.2.1]; exact l6') (by omega) (by rw [sA.2.2.2]; omega)) ?_
        rw [Int.toNat_natCast, sA.2.1, x1]
    have e143 : c143 S h = some (us.length : Int) := by
      unfold c143
      rw [gI_s (by rw [sS.2.2.1]; exact l3), sS.1, l4]
      rfl
    have fin : ∀ y, y = lp (fun s => c164_b28 x s.1 s.2) hF0 (0, h) → ∀ R, y.bind (fun r28 => xs r28 (fun x28 => some (.inl ((wadd (i : Int) 1), x28))) (fun o28 => some (.inr (.inr o28)))) = R → c164_b2 pt (i : Int) h = R := fun y ey R eR => by
      unfold c164_b2
      refine bnd (gR_s (by rw [sp.2.2.1]; exact hpt.1)) ?_
      rw [sp.2.1, hpt.2.1]
      refine bnd (kT_s (by rw [sS.2.2.1]; exact l3)) ?_
      refine bnd e143 ?_
      rw [if_neg (by omega)]
      refine bnd (gR_s (by rw [sp.2.2.1]; exact hpt.1)) ?_
      rw [sp.2.1, hpt.2.1]
      refine bnd (kT_s (by rw [sS.2.2.1]; exact l3)) ?_
      refine bnd e144 ?_
      refine bnd (show cC h x 22 = some () from if_pos (.inr ⟨by omega, by rw [sx.2.2.1]; exact x4⟩)) ?_
      rw [← ey]
      exact eR
    rcases a4 with ⟨b0, b1⟩ | ⟨b0, b1⟩
    · refine (lp_n (s' := (((i + 1 : Nat) : Int), h1)) ?_).trans (ih (pre ++ [x]) (i + 1) n h1 o (by rw [eu]; simp) (by rw [List.length_append, ei]; rfl) (by omega) (fun y y1 y2 => sm_tr (Sm y y1 y2) ⟨fun j => a2.2.2 y j (by omega), fun j => a2.2.1 y j (by omega), by rw [a2.1.2.1], by rw [a2.1.2.2.1]⟩) b1)
      refine fin _ b0.symm _ ?_
      show some (Sum.inl (wadd (i : Int) 1, h1)) = _
      rw [wadd_n (by omega)]
    · subst b1
      refine lp_d ?_
      refine fin _ b0.symm _ ?_
      rfl
end CKT
