/-! a patch is made: the changes one after another, in both -/
def cfS (a b c : Int) (h : hS) : hS := sI (sI (sI h 48 10 a) 48 11 b) 48 12 c
section ALC
variable {h h' h0 h1 t t' t0 t1 : hS} {k m m0 P x cd tx i N0 pt S A q : Nat} {w G j n v ch s o c kn u why : Int} {r r0 : Int → Nat} {K : Nat → Int → Prop} {us ys zs : List Nat}
theorem tkR_app {o : Int × Nat × hS} {y : Nat} : ∀ {ys : List Nat} {h : hS}, tkR P ys h (0, y, h1) → tkR P zs h1 o → tkR P (ys ++ zs) h o
  | [], h, T, T2 => by
    have e : ((0 : Int), y, h1) = (0, 0, h) := T
    have e2 : h1 = h := congrArg (fun z => z.2.2) e
    rw [← e2]
    exact T2
  | x :: ys, h, T, T2 => by
    obtain ⟨why, h2, a1, a2, a3, a4⟩ := T
    refine ⟨why, h2, a1, a2, a3, ?_⟩
    rcases a4 with ⟨b1, b2⟩ | ⟨b1, b2⟩
    · exact .inl ⟨b1, tkR_app b2 T2⟩
    · have e2 : (0 : Int) = why := congrArg (fun z => z.1) b2
      exact absurd e2.symm b1
theorem tkR_st {y : Nat} (w0 : why ≠ 0) : ∀ {ys : List Nat} {h : hS}, tkR P ys h (why, y, h1) → tkR P (ys ++ zs) h (why, y, h1)
  | [], h, T => by
    have e : (why, y, h1) = ((0 : Int), 0, h) := T
    have e2 : why = 0 := congrArg (fun z => z.1) e
    exact absurd e2 w0
  | x :: ys, h, T => by
    obtain ⟨w2, h2, a1, a2, a3, a4⟩ := T
    refine ⟨w2, h2, a1, a2, a3, ?_⟩
    rcases a4 with ⟨b1, b2⟩ | ⟨b1, b2⟩
    · exact .inl ⟨b1, tkR_st w0 b2⟩
    · exact .inr ⟨b1, b2⟩
theorem CHg_c {N : Nat → Nat → Int} (C : CHg N h N0 0 c i us) : ∀ y ∈ us, hI h y 1 = c := by
  obtain ⟨-, x0, ys, rfl, cs⟩ := C
  have key : hI h x0 1 = c ∧ ∀ y ∈ ys, hI h y 1 = c := by
    rcases cs with ⟨-, -, S, L, -, -, M⟩ | ⟨-, S, L, -, -, M⟩ | ⟨rfl, cs⟩
    · exact ⟨S.2.2.1, (MES_n M).2⟩
    · exact ⟨S.2.2.1, (MES_n M).2⟩
    · refine ⟨?_, fun y hy => absurd hy List.not_mem_nil⟩
      rcases cs with ⟨-, S⟩ | ⟨-, -, S⟩ | ⟨-, cd, S, -⟩
      · exact S.2.2.1
      · exact S.2.2.1
      · exact S.2.2.1
  intro y hy
  rcases List.mem_cons.mp hy with e | e
  · rw [e]; exact key.1
  · exact key.2 y e
theorem CHg_g (B : B1 h t K P m r m0 G) (UT : UTq t m0 m) (W00 : WF t0 0 m0 r0) (h448 : 448 ≤ P) (hPn : P ≤ hN h) (G0 : 0 ≤ G) (ht : tx ≤ 6) (hi : i < 1200) (Sm : ∀ x, x < P → sm h0 h x) (f : fw t0 t) (hK : ∀ x v, K x v → x < P ∧ hT h0 x = 1) (C : CHg (ntx t0 tx) h0 N0 0 c i us) (l6 : us.length ≤ 600) (HY : ∀ y ∈ us, HKs K h0 t0 P tx N0 y) : GRo K P m m0 G c h0 h t us (c275 (gn tx i) c t) := by
  obtain ⟨nm, x0, ys, rfl, cs⟩ := C
  have l7 : ys.length ≤ 600 := by have : (x0 :: ys).length = ys.length + 1 := rfl; omega
  rcases cs with ⟨e, no, S, L, l1, l2, M⟩ | ⟨e, S, L, l1, l2, M⟩ | ⟨rfl, cs⟩
  · exact GR_k B UT W00 (by omega) hPn G0 ht hi Sm f hK e nm no S l1 (fun j hj => ⟨by have := (l2 j hj).1.2; omega, (l2 j hj).2⟩) M l7 HY
  · exact GR_c B UT W00 ht hi Sm f hK e S l1 (fun j hj => by have := (l2 j hj).2; omega) M l7 HY
  · refine GR_s B UT h448 (WF0_f W00 f) ht hi Sm f (HY x0 List.mem_cons_self).1 ?_
    rcases cs with ⟨e, S⟩ | ⟨e, no, S⟩ | ⟨e, cd, S, -⟩
    · exact .inl ⟨e, S⟩
    · exact .inr (.inl ⟨e, no, S⟩)
    · exact .inr (.inr ⟨e, cd, S⟩)
/-- all the changes -/
theorem CHAL (W00 : WF t0 0 m0 r0) (h448 : 448 ≤ P) (G0 : 0 ≤ G) (ht : tx ≤ 6) (hK : ∀ x v, K x v → x < P ∧ hT h0 x = 1) : ∀ (Lc us : List Nat) (c : Nat) (f : Int) (n : Nat) (h t : hS) (m : Nat) (r : Int → Nat), CHS (ntx t0 tx) h0 N0 c Lc us → LK (ntx t0 tx) Lc f → (∀ j ∈ Lc, j < 1200) → us.length ≤ 600 → c + Lc.length ≤ 3000 → Lc.length < n → (∀ y ∈ us, HKs K h0 t0 P tx N0 y) → B1 h t K P m r m0 G → UTq t m0 m → P ≤ hN h → (∀ x, x < P → sm h0 h x) → fw t0 t → ∃ (why : Int) (y : Nat) (h' t' : hS) (m' nk nd : Nat), tkR P us h (why, y, h') ∧ (hN h' = hN h + 13 * nk ∧ hM h' = hM h + 267 * nk ∧ m' + nd = m + nk ∧ m' ≤ 12 ∧ nk ≤ kc h0 200 us ∧ nd ≤ kc h0 217 us) ∧ (∀ x, x < P → sm h h' x) ∧ fw t t' ∧ ((why = 0 ∧ lp (fun s => c274_b82 s.1 s.2.1 s.2.2) n ((c : Int), gf tx f, t) = some (.inl t') ∧ UTq t' m0 m' ∧ ∃ r', B1 h' t' K P m' r' m0 G) ∨ (why ≠ 0 ∧ y ∈ us ∧ lp (fun s => c274_b82 s.1 s.2.1 s.2.2) n ((c : Int), gf tx f, t) = some (.inr (0, rfS why (hI h0 y 1) (-1) t'))))
  | [], us, c, f, n, h, t, m, r, C, hl, _, _, _, hn, _, B, UT, _, _, _ => by
    obtain ⟨n, rfl⟩ : ∃ a, n = a + 1 := ⟨n - 1, by omega⟩
    have C : us = [] := C
    subst C
    have hl : f = -1 := hl
    subst hl
    refine ⟨0, 0, h, t, m, 0, 0, rfl, ⟨rfl, rfl, rfl, B.1.1.1.2.1, Nat.zero_le _, Nat.zero_le _⟩, fun _ _ => sm_rf, fp_rf, .inl ⟨rfl, ?_, UT, r, B⟩⟩
    refine lp_d ?_
    show c274_b82 (c : Int) (gf tx (-1)) t = _
    unfold c274_b82
    rw [show gf tx (-1) = -1 from rfl, if_pos rfl]
  | i :: Lc, us, c, f, n, h, t, m, r, C, hl, h12, l6, c3, hn, HY, B, UT, hPn, Sm, ff => by
    obtain ⟨n, rfl⟩ : ∃ a, n = a + 1 := ⟨n - 1, by omega⟩
    obtain ⟨ys, zs, rfl, C1, C2⟩ : ∃ ys zs : List Nat, us = ys ++ zs ∧ CHg (ntx t0 tx) h0 N0 0 (c : Int) i ys ∧ CHS (ntx t0 tx) h0 N0 (c + 1) Lc zs := C
    obtain ⟨rfl, hl2⟩ : f = (i : Int) ∧ LK (ntx t0 tx) Lc (ntx t0 tx i 4) := hl
    have hi := h12 i List.mem_cons_self
    have ln : (i :: Lc).length = Lc.length + 1 := rfl
    have lu : (ys ++ zs).length = ys.length + zs.length := List.length_append
    obtain ⟨why, y, h1, t1, m1, nk, nd, a1, ⟨a2, a3, a4, a5, a6, a7⟩, a8, a9, a10⟩ := CHg_g B UT W00 h448 hPn G0 ht hi Sm ff hK C1 (by omega) (fun y hy => HY y (List.mem_append_left _ hy))
    have eg : gf tx (i : Int) = gn tx i := by unfold gf; rw [if_neg (by omega), Int.toNat_natCast]
    have gne : gn tx i ≠ -1 := by unfold gn; omega
    have hl3 := LK_f hl2 (fun a ha => h12 a (List.mem_cons_of_mem _ ha))
    have k1 := kc_app (h := h0) (s := 200) ys zs
    have k2 := kc_app (h := h0) (s := 217) ys zs
    rcases a10 with ⟨rfl, b1, bU, r', b2⟩ | ⟨w0, b1, b2⟩
    · have est : (fun s : Int × Int × hS => c274_b82 s.1 s.2.1 s.2.2) ((c : Int), gf tx (i : Int), t) = some (.inl (((c + 1 : Nat) : Int), gf tx (ntx t0 tx i 4), t1)) := by
        show c274_b82 (c : Int) (gf tx (i : Int)) t = _
        unfold c274_b82
        rw [eg, if_neg gne]
        refine bnd b1 ?_
        rw [if_neg (by omega), wadd_n (by omega)]
        exact bnd (c257_f (f := ntx t0 tx i 4) (s := 4) ht hi (by omega) (by rw [ntx_f a9, ntx_f ff]) hl3) rfl
      obtain ⟨why, y2, h2, t2, m2, nk2, nd2, d1, ⟨d2, d3, d4, d5, d6, d7⟩, d8, d9, d10⟩ := CHAL W00 h448 G0 ht hK Lc zs (c + 1) (ntx t0 tx i 4) n h1 t1 m1 r' C2 hl2 (fun a ha => h12 a (List.mem_cons_of_mem _ ha)) (by omega) (by omega) (by omega) (fun y hy => HY y (List.mem_append_right _ hy)) b2 bU (by omega) (fun x hx => sm_tr (Sm x hx) (a8 x hx)) (fp_tr ff a9)
      refine ⟨why, y2, h2, t2, m2, nk + nk2, nd + nd2, tkR_app a1 d1, ⟨by omega, by omega, by omega, d5, by omega, by omega⟩, fun x hx => sm_tr (a8 x hx) (d8 x hx), fp_tr a9 d9, ?_⟩
      rcases d10 with ⟨e1, e2, e3⟩ | ⟨e1, e2, e3⟩
      · exact .inl ⟨e1, (lp_n est).trans e2, e3⟩
      · exact .inr ⟨e1, List.mem_append_right _ e2, (lp_n est).trans e3⟩
    · refine ⟨why, y, h1, t1, m1, nk, nd, tkR_st w0 a1, ⟨a2, a3, a4, a5, by omega, by omega⟩, a8, a9, .inr ⟨w0, List.mem_append_left _ b1, ?_⟩⟩
      refine lp_d ?_
      show c274_b82 (c : Int) (gf tx (i : Int)) t = _
      unfold c274_b82
      rw [eg, if_neg gne]
      refine bnd b2 ?_
      rw [if_pos rfl, CHg_c C1 y b1]
/-- the class goes through the list of the steps -/
theorem tk_l (hpt : hT h0 pt = 26 ∧ hR h0 pt 0 = S ∧ pt < P) (LL : LSt h0 N0 S us A q) (N8 : 8 ≤ N0) (hP : hN h0 = P) (A8 : A < P) (l6 : us.length ≤ 600) : ∀ (zs pre : List Nat) (i n : Nat) (h : hS) (o : Int × Nat × hS), us = pre ++ zs → pre.length = i → zs.length < n → (∀ x, x < P → sm h0 h x) → hT h P = 18 → tkR P zs h o → lp (fun s => c142_b3 pt P s.1 s.2) n ((i : Int), h) = some (if o.1 = 0 then .inl o.2.2 else .inr (0, cfS o.1 (hI h0 o.2.1 1) (-1) o.2.2)) := by
  obtain ⟨⟨l1, l2, l3, l4, l5⟩, ⟨l6', l7, l8, l9⟩, -, l10⟩ := LL
  intro zs
  induction zs with
  | nil =>
    intro pre i n h o eu ei hn Sm T18 T
    obtain ⟨n, rfl⟩ : ∃ a, n = a + 1 := ⟨n - 1, by omega⟩
    have T : o = (0, 0, h) := T
    subst T
    have e0 : us.length = i := by rw [eu, List.append_nil, ei]
    have sp := Sm pt (by omega)
    have sS := Sm S (by omega)
    refine lp_d ?_
    show c142_b3 pt P (i : Int) h = _
    unfold c142_b3
    refine bnd (gR_s (by rw [sp.2.2.1]; exact hpt.1)) ?_
    rw [sp.2.1, hpt.2.1]
    refine bnd (kT_s (by rw [sS.2.2.1]; exact l3)) ?_
    refine bnd (show c143 S h = some (us.length : Int) from ?_) ?_
    · unfold c143
      rw [gI_s (by rw [sS.2.2.1]; exact l3), sS.1, l4]
      rfl
    · rw [if_pos (by omega), if_pos rfl]
  | cons x zs ih =>
    intro pre i n h o eu ei hn Sm T18 T
    obtain ⟨n, rfl⟩ : ∃ a, n = a + 1 := ⟨n - 1, by omega⟩
    obtain ⟨why, h1, a1, a2, a3, a4⟩ := T
    have lz : (x :: zs).length = zs.length + 1 := rfl
    have e0 : us.length = i + (zs.length + 1) := by rw [eu, List.length_append, ei, lz]
    have ex : us[i]? = some x := by
      rw [eu, List.getElem?_append_right (by omega), ei, Nat.sub_self]
      rfl
    obtain ⟨x1, x2, x3, x4⟩ := l10 i x ex
    have sp := Sm pt (by omega)
    have sS := Sm S (by omega)
    have sA := Sm A A8
    have sx := Sm x (by omega)
    have st : ∀ R, (if why = 0 then some (.inl (wadd (i : Int) 1, h1)) else (gI h1 x 22 1).bind (fun v12 => (c151 why v12 (-1) h1).bind (fun v13 => (kB v13.1).bind (fun _ => some (.inr (.inr (v13.1, v13.2))))))) = R → c142_b3 pt P (i : Int) h = R := fun R eR => by
      unfold c142_b3
      refine bnd (gR_s (by rw [sp.2.2.1]; exact hpt.1)) ?_
      rw [sp.2.1, hpt.2.1]
      refine bnd (kT_s (by rw [sS.2.2.1]; exact l3)) ?_
      refine bnd (show c143 S h = some (us.length : Int) from ?_) ?_
      · unfold c143
        rw [gI_s (by rw [sS.2.2.1]; exact l3), sS.1, l4]
        rfl
      · rw [if_neg (by omega)]
        refine bnd (gR_s (by rw [sp.2.2.1]; exact hpt.1)) ?_
        rw [sp.2.1, hpt.2.1]
        refine bnd (kT_s (by rw [sS.2.2.1]; exact l3)) ?_
        refine bnd (show c144 S (i : Int) h = some x from ?_) ?_
        · unfold c144
          refine bnd (gI_s (by rw [sS.2.2.1]; exact l3)) ?_
          rw [sS.1, l4]
          refine bnd (show c145 (i : Int) (us.length : Int) h = some (i : Int) from ?_) ?_
          · unfold c145 c8
            rw [if_neg (by omega), if_pos (by omega)]
            rfl
          · refine bnd (kT_s (by rw [sS.2.2.1]; exact l3)) ?_
            refine bnd (show c146 S (i : Int) h = some x from ?_) rfl
            unfold c146
            refine bnd (gR_s (by rw [sS.2.2.1]; exact l3)) ?_
            rw [sS.2.1, l5]
            refine bnd (aR_s (by rw [sA.2.2.1]; exact l6') (by omega) (by rw [sA.2.2.2]; omega)) ?_
            rw [Int.toNat_natCast, sA.2.1, x1]
        · refine bnd (show cC h x 22 = some () from if_pos (.inr ⟨by omega, by rw [sx.2.2.1]; exact x4⟩)) ?_
          refine bnd (kT_s T18) ?_
          refine bnd a1 ?_
          exact eR
    rcases a4 with ⟨rfl, b1⟩ | ⟨w0, b1⟩
    · refine (lp_n (s' := (((i + 1 : Nat) : Int), h1)) (st _ ?_)).trans (ih (pre ++ [x]) (i + 1) n h1 o (by rw [eu]; simp) (by rw [List.length_append, ei]; rfl) (by omega) (fun y hy => sm_tr (Sm y hy) (a2 y hy)) a3 b1)
      rw [if_pos rfl, wadd_n (by omega)]
    · subst b1
      refine lp_d (st _ ?_)
      have s1 := a2 x (by omega)
      rw [if_neg w0, if_neg w0]
      refine bnd (gI_s (by rw [s1.2.2.1, sx.2.2.1]; exact x4)) ?_
      rw [s1.1, sx.1]
      rfl
end ALC
