/-! patches: several members or edits, alike -/
def seF (F : hS → Option (Int × hS)) (i : Int) (h : hS) : Option ((Int × hS) ⊕ (hS ⊕ (Int × hS))) := if 1000 ≤ i then some (.inr (.inl h)) else (c39 h).bind (fun v => if v = 125 then some (.inr (.inl h)) else (F h).bind (fun v21 => if v21.1 = 0 then some (.inr (.inr (0, v21.2))) else some (.inl (wadd i 1, v21.2))))
def seG (G : hS → Option (Int × hS)) (l2 l3 : Int) (t : hS) : Option ((Int × Int × hS) ⊕ ((Int × hS) ⊕ (Int × hS))) := (c203 125 t).bind (fun v3 => if v3 = 0 then (G t).bind (fun v6 => if v6.1 = 0 then some (.inr (.inr (0, v6.2))) else c230_j48 l2 l3 v6.2) else some (.inr (.inl (l2, t))))
def seFx (F : hS → Option (Int × hS)) (h : hS) : Option (Int × hS) := (lp (fun s => seF F s.1 s.2) hF0 (0, h)).bind (fun r23 => xs r23 (fun x23 => (c58 125 x23).bind (fun v24 => (kB v24.1).bind (fun u25 => some (v24.1, v24.2)))) (fun o23 => some o23))
def seGx (G : hS → Option (Int × hS)) (t : hS) : Option (Int × hS) := (lp (fun s => seG G s.1 s.2.1 s.2.2) hF0 (-1, -1, t)).bind (fun r12 => xs r12 (fun x12 => (c188 x12.2).bind (fun h13 => (some (sI h13 395 21 x12.1)).bind (fun h14 => some (1, h14)))) (fun o12 => some o12))
theorem c44_se {kn : Int} : (fun s : Int × hS => c44_b219 kn 0 s.1 s.2) = fun s => seF (c59 kn 0) s.1 s.2 := rfl
theorem c230_s0 : (fun s : Int × Int × hS => c230_b15 0 s.1 s.2.1 s.2.2) = fun s => seG (c204 (-1)) s.1 s.2.1 s.2.2 := rfl
theorem c230_s1 : (fun s : Int × Int × hS => c230_b15 1 s.1 s.2.1 s.2.2) = fun s => seG c231 s.1 s.2.1 s.2.2 := rfl
theorem c84_se {kn : Int} : (fun s : Int × hS => c84_b59 kn s.1 s.2) = fun s => seF (edF kn) s.1 s.2 := by
  funext ⟨i, h⟩
  show c84_b59 kn i h = seF (edF kn) i h
  unfold c84_b59 seF edF c84_j101 c84_j106 c84_j136
  by_cases c : 1000 ≤ i
  · rw [if_pos c, if_pos c]
  · rw [if_neg c, if_neg c]
    cases c39 h with
    | none => rfl
    | some v =>
      simp only [bsome]
      by_cases c2 : v = 125
      · rw [if_pos c2, if_pos c2]
      · rw [if_neg c2, if_neg c2, if_neg (show ¬ (1 : Int) = 0 by omega), if_pos trivial]
        by_cases c3 : v = 217
        · rw [if_pos c3, if_pos (show v = 217 ∨ v = 219 ∨ v = 220 from .inl c3)]
        · rw [if_neg c3]
          by_cases c4 : v = 219
          · rw [if_pos c4, if_pos (show v = 217 ∨ v = 219 ∨ v = 220 from .inr (.inl c4))]
          · rw [if_neg c4]
            by_cases c5 : v = 220
            · rw [if_pos c5, if_pos (show v = 217 ∨ v = 219 ∨ v = 220 from .inr (.inr c5))]
            · rw [if_neg c5, if_neg (show ¬ (v = 217 ∨ v = 219 ∨ v = 220) by omega)]
section SEV
variable {n l m N0 M0 q sl : Nat} {b : Nat → Int} {w kn : Int} {hc hr : hS} {us : List Nat} {e : Nat} {F G : hS → Option (Int × hS)}
/-- a node's link is written -/
theorem PB_r {i : Nat} {v : Int} (P : PBt n b N0 M0 l w m us hc hr) : PBt n b N0 M0 l w m us hc (sI hr 399 i v) := by
  obtain ⟨q0, sl0, A, Q, B0, hm0, r⟩ := P
  exact ⟨q0, sl0, A, Q, BS_r B0 (fun x j hx => by rw [hI_sI, if_neg (by omega)]) (fun _ _ _ => rfl) (by rw [hI_sI, if_neg (by omega)]; exact B0.2.2.1.2.1) (by rw [hI_sI, if_neg (by omega)]; exact B0.2.2.1.2.2) (by omega), hm0, r⟩
theorem FW_39 {i : Nat} {v : Int} {h : hS} (hi : 42000 ≤ i) : FW h (sI h 399 i v) := ⟨rfl, rfl, fun x j z => by rw [hI_sI, if_neg (by omega)], fun _ _ _ => rfl⟩
/-- what several leave -/
def SVQ (n : Nat) (b : Nat → Int) (N0 M0 l : Nat) (w : Int) (m : Nat) (us : List Nat) (kn : Int) (e : Nat) (hc hr hc' hr' : hS) : Prop := ∃ (l' m' : Nat) (ys L : List Nat) (f : Int), (l < l' ∧ m' + l < m + l') ∧ PBt n b N0 M0 l' (w - 1) m' (us ++ ys) hc' hr' ∧ KP hc hc' ∧ (∀ t, t < m → ∀ j, j < 5 → nd hr' t j = nd hr t j) ∧ m ≤ m' ∧ hI hr' 395 21 = f ∧ LK (nd hr') L f ∧ (∀ j ∈ L, m ≤ j ∧ j < m') ∧ (e = 0 → ∀ j ∈ L, nd hr' j 0 ≤ 32) ∧ MES (nd hr') hc' N0 m (hI hc 15 9) kn L ys ∧ (∀ x ∈ ys, N0 ≤ x ∧ x < hN hc')
theorem SEV (IH : ∀ (l m : Nat) (w : Int) (us : List Nat) (hc hr : hS), PBt n b N0 M0 l w m us hc hr → JK N0 M0 hc hr (MQe n b N0 M0 l w m us kn e hc hr) (F hc) (G hr)) (P : PBt n b N0 M0 l w m us hc hr) (hl1 : 1 ≤ l) : JK N0 M0 hc hr (SVQ n b N0 M0 l w m us kn e hc hr) (seFx F hc) (seGx G hr) := by
  obtain ⟨hl0, hN0, hm0, hx0, hlt0⟩ := PB_l P
  unfold seFx seGx
  have key := lp_two (f := fun s : Int × hS => seF F s.1 s.2) (g := fun s : Int × Int × hS => seG G s.1 s.2.1 s.2.2)
    (fun k s t => ∃ (i l' m' : Nat) (ys L : List Nat), s.1 = (i : Int) ∧ PBt n b N0 M0 l' w m' (us ++ ys) s.2 t.2.2 ∧ KP hc s.2 ∧ FK N0 hc s.2 ∧ FW hr t.2.2 ∧ (∀ u, u < m → ∀ j, j < 5 → nd t.2.2 u j = nd hr u j) ∧ m ≤ m' ∧ LK (nd t.2.2) L t.1 ∧ (∀ j ∈ L, m ≤ j ∧ j < m') ∧ (e = 0 → ∀ j ∈ L, nd t.2.2 j 0 ≤ 32) ∧ MES (nd t.2.2) s.2 N0 m (hI hc 15 9) kn L ys ∧ (∀ x ∈ ys, N0 ≤ x ∧ x < hN s.2) ∧ ((L = [] ∧ t.1 = -1) ∨ ∃ (L0 : List Nat) (u : Nat), L = L0 ++ [u] ∧ t.2.1 = (u : Int) ∧ t.1 ≠ -1 ∧ ∀ j ∈ L0, j < u) ∧ (i + l ≤ l' ∧ m' + l ≤ m + l') ∧ k + l' = 1002)
    (fun x y => FK N0 hc x ∧ FW hr y.2 ∧ ∃ (l' m' : Nat) (ys L : List Nat), (l ≤ l' ∧ m' + l ≤ m + l') ∧ PBt n b N0 M0 l' w m' (us ++ ys) x y.2 ∧ KP hc x ∧ (∀ u, u < m → ∀ j, j < 5 → nd y.2 u j = nd hr u j) ∧ m ≤ m' ∧ LK (nd y.2) L y.1 ∧ (∀ j ∈ L, m ≤ j ∧ j < m') ∧ (e = 0 → ∀ j ∈ L, nd y.2 j 0 ≤ 32) ∧ MES (nd y.2) x N0 m (hI hc 15 9) kn L ys ∧ (∀ x' ∈ ys, N0 ≤ x' ∧ x' < hN x) ∧ c39 x = some 125) (fun x y => FK N0 hc x ∧ FW hr y ∧ FLR N0 M0 x y) ?_ hF0 (1002 - l) (0, hc) (-1, -1, hr) ?_ (hF0_lt (by omega))
  · rcases key with ⟨x, ⟨f, y⟩, e1, e2, e3, e4, l', m', ys, L, el, Q', z1, z2, z3, z4, z5, z6, z7, z8, e5⟩ | ⟨x, y, e1, e2, e3, e4, e5⟩
    · rw [e1, e2]
      have e4 : FW hr y := e4
      have Q' : PBt n b N0 M0 l' w m' (us ++ ys) x y := Q'
      obtain ⟨s, -, pa, q2, q3, q4, h1, -⟩ := PB_at Q'
      obtain ⟨-, -, -, -, hlt⟩ := PB_l Q'
      have hs : s = 125 := by rw [e5] at q3; exact (Option.some.inj q3).symm
      obtain ⟨a0, y2, a1, a2, Q2⟩ := PB_adv (w' := w - 1) Q' (h1 (by omega)) (by have := tkW_1 (n := n) (b := b) (l := l') hlt; omega)
      show JK N0 M0 hc hr _ ((c58 125 x).bind _) ((c188 y).bind _)
      rw [a1]
      unfold c58
      rw [e5]
      simp only [bsome]
      rw [if_pos trivial, a0]
      simp only [bsome]
      have k2 : KP x (sI x 15 3 ((l' + 1 : Nat) : Int)) := KP_FC (FC_sI (p := 0) (by omega))
      have nn : ∀ t j, nd (sI y2 395 21 f) t j = nd y t j := fun t j => by
        show hI (sI y2 395 21 f) 399 _ = _
        rw [hI_sI, if_neg (by omega)]
        exact a2.2.2.1 399 _ (by omega)
      refine JK_ok (FK_tr e3 (FK_FC (FC_sI (p := 0) (by omega)))) (FW_tr e4 (FW_tr (FW_FR (FR_fj (m := 0) a2)) (FW_FR (m := 0) (FR_sI (by omega))))) ⟨l' + 1, m', ys, L, f, ⟨by omega, by omega⟩, ?_, KP_tr z1 k2, fun t ht j hj => by rw [nn]; exact z2 t ht j hj, z3, by rw [hI_sI, if_pos ⟨rfl, rfl⟩], LK_cg z4 (fun j _ => nn j 4), z5, fun h j hj => by rw [nn]; exact z6 h j hj, MES_im (fun i x' hi hx q => ME_h (ME_n q (fun t _ j _ => nn t j) (fun t _ _ j _ => nn t j) (fun j _ => nn i j)) k2 (by omega) (z8 x' hx)) z7, z8⟩
      obtain ⟨q0, sl0, A, Q, B0, hm0', r⟩ := Q2
      exact ⟨q0, sl0, A, Q, BS_r B0 (fun x j hx => by rw [hI_sI, if_neg (by omega)]) (fun _ _ _ => rfl) (by rw [hI_sI, if_neg (by omega)]; exact B0.2.2.1.2.1) (by rw [hI_sI, if_neg (by omega)]; exact B0.2.2.1.2.2) (by omega), hm0', r⟩
    · rw [e1, e2]
      exact JK_no e3 e4 e5
  · rintro k ⟨i0, h⟩ ⟨hd, tl, t⟩ ⟨i, l', m', ys, L, hi, Q', z1, f1, f2, z2, z3, z4, z5, z6, z7, z8, z9, hil, hkl⟩
    have hi : i0 = (i : Int) := hi
    subst hi
    have Q' : PBt n b N0 M0 l' w m' (us ++ ys) h t := Q'
    have f1 : FK N0 hc h := f1
    have f2 : FW hr t := f2
    obtain ⟨s, -, pa, q2, q3, q4, h1, -⟩ := PB_at Q'
    obtain ⟨hl', -, hm', -, -⟩ := PB_l Q'
    show (∃ x y, seF F (i : Int) h = _ ∧ seG G hd tl t = _ ∧ _) ∨ (∃ hc hr, seF F (i : Int) h = _ ∧ seG G hd tl t = _ ∧ _) ∨ (∃ k' s' t', seF F (i : Int) h = _ ∧ seG G hd tl t = _ ∧ _)
    unfold seF seG
    rw [if_neg (show ¬ (1000 : Int) ≤ (i : Int) by omega), q3, c203_e q2 q4 (c := 125) rfl]
    simp only [bsome]
    by_cases z : s = 125
    · rw [if_pos z, if_pos z, if_neg (show ¬ (1 : Int) = 0 by omega)]
      exact .inl ⟨_, _, rfl, rfl, f1, f2, l', m', ys, L, ⟨by omega, by omega⟩, Q', z1, z2, z3, z4, z5, z6, z7, z8, by rw [q3, z]⟩
    · rw [if_neg z, if_neg z, if_pos rfl]
      obtain ⟨h2, t2, g1, g2, ⟨e1, e2, l2, m2, x, i', w1, w2, w3, w4, w5, w6, w7, w8, w9, w10⟩ | ⟨e1, e2, e3⟩⟩ := IH l' m' w (us ++ ys) h t Q'
      · rw [e1, e2]
        simp only [bsome]
        rw [if_neg (show ¬ (1 : Int) = 0 by omega), if_neg (show ¬ (1 : Int) = 0 by omega)]
        obtain ⟨hl2, -, hm2, -, -⟩ := PB_l w2
        have e9 : hI h 15 9 = hI hc 15 9 := (f1.2 15 (by omega)).2.2.2 9 (by omega)
        rw [e9] at w8
        have keep : ∀ (T : hS) (u : Nat), (∀ j ∈ L, j ≤ u) → (∀ a c, c < 5 → ¬ (a = u ∧ c = 4) → nd T a c = nd t2 a c) → MES (nd T) h2 N0 m (hI hc 15 9) kn L ys := fun T u hu eT => MES_im (fun j x' hj hx q => ME_h (ME_n q (fun a ha c hc' => by
            have := z5 j hj
            rw [eT a c (by omega) (by omega), w4 a (by omega) c (by omega)]) (fun a a1 a2 c hc' => by
            have := z5 j hj
            have := hu j hj
            rw [eT a c hc' (by omega), w4 a (by omega) c hc']) (fun c hc' => by
            have := z5 j hj
            rw [eT j c (by omega) (by omega), w4 j (by omega) c (by omega)])) w3 (by omega) (z8 x' hx)) z7
        have fresh : ∀ (T : hS) (u : Nat), u < m' → (∀ a c, c < 5 → ¬ (a = u ∧ c = 4) → nd T a c = nd t2 a c) → MEm (nd T) h2 N0 m (hI hc 15 9) kn i' x := fun T u hu eT => ME_up (ME_n w8 (fun a ha c hc' => eT a c (by omega) (by omega)) (fun a a1 a2 c hc' => eT a c hc' (by omega)) (fun c hc' => eT i' c (by omega) (by omega))) (Nat.le_refl _) z3
        have low : ∀ y ∈ ys ++ [x], N0 ≤ y ∧ y < hN h2 := fun y hy => by
          rcases List.mem_append.mp hy with hy | hy
          · have a1 := (z8 y hy).1
            have a2 : y < hN h := (z8 y hy).2
            have := w3.1
            omega
          · rw [List.mem_singleton.mp hy]
            exact w9
        have inL : ∀ j ∈ L ++ [i'], m ≤ j ∧ j < m2 := fun j hj => by
          rcases List.mem_append.mp hj with hj | hj
          · have := z5 j hj
            omega
          · rw [List.mem_singleton.mp hj]
            omega
        rcases z9 with ⟨y1, y2⟩ | ⟨L0, u, y1, y2, y3, y4⟩
        · have y2 : hd = -1 := y2
          subst y1
          have y5 : ys = [] := z7
          subst y5
          have ej : c230_j48 hd tl t2 = some (.inl ((i' : Int), (i' : Int), t2)) := by
            unfold c230_j48 c230_j70
            rw [if_pos y2, w6]
          rw [ej]
          refine .inr (.inr ⟨1002 - l2, (((i + 1 : Nat) : Int), h2), ((i' : Int), (i' : Int), t2), by rw [wadd_n (by omega)], rfl, by omega, i + 1, l2, m2, [x], [i'], rfl, by rw [List.append_nil] at w2; exact w2, KP_tr z1 w3, FK_tr f1 g1, FW_tr f2 g2, fun a ha c hc' => by rw [w4 a (by omega) c hc']; exact z2 a ha c hc', by omega, ⟨rfl, w7⟩, inL, fun h0 j hj => by rw [List.mem_singleton.mp hj]; exact w10 h0, ⟨x, [], rfl, ?_, rfl⟩, low, .inr ⟨[], i', rfl, rfl, by omega, fun j hj => by simp at hj⟩, ⟨by omega, by omega⟩, by omega⟩)
          exact ME_up w8 (Nat.le_refl _) z3
        · have y2 : tl = (u : Int) := y2
          have y3 : hd ≠ -1 := y3
          subst y2
          have hu : u < m' := (z5 u (by rw [y1]; exact List.mem_append_right _ (List.mem_singleton.mpr rfl))).2
          have ej : c230_j48 hd (u : Int) t2 = some (.inl (hd, (i' : Int), sI t2 399 (5 * (8400 + u) + 4) (i' : Int))) := by
            unfold c230_j48
            rw [if_neg y3, w6, c219_e (by omega)]
            simp only [bsome]
            unfold c230_j70
            rw [hI_sI, if_neg (by omega), w6]
          rw [ej]
          obtain ⟨T, hT⟩ : ∃ T, T = sI t2 399 (5 * (8400 + u) + 4) (i' : Int) := ⟨_, rfl⟩
          have eT : ∀ a c, c < 5 → ¬ (a = u ∧ c = 4) → nd T a c = nd t2 a c := fun a c hc5 hq => by
            rw [hT]
            show hI (sI t2 399 (5 * (8400 + u) + 4) (i' : Int)) 399 _ = _
            rw [hI_sI, if_neg (by omega)]
            rfl
          have eU : nd T u 4 = (i' : Int) := by
            rw [hT]
            show hI (sI t2 399 (5 * (8400 + u) + 4) (i' : Int)) 399 _ = _
            rw [hI_sI, if_pos ⟨rfl, rfl⟩]
          have gT : FW t2 T := by rw [hT]; exact FW_39 (by omega)
          have P3 : PBt n b N0 M0 l2 w m2 (us ++ (ys ++ [x])) h2 T := by
            rw [hT]
            rw [← List.append_assoc]
            exact PB_r w2
          rw [← hT]
          have hLu : ∀ j ∈ L, j ≤ u := fun j hj => by
            rw [y1] at hj
            rcases List.mem_append.mp hj with hj | hj
            · exact Nat.le_of_lt (y4 j hj)
            · rw [List.mem_singleton.mp hj]; exact Nat.le_refl _
          refine .inr (.inr ⟨1002 - l2, (((i + 1 : Nat) : Int), h2), (hd, (i' : Int), T), by rw [wadd_n (by omega)], rfl, by omega, i + 1, l2, m2, ys ++ [x], L ++ [i'], rfl, P3, KP_tr z1 w3, FK_tr f1 g1, FW_tr f2 (FW_tr g2 gT), fun a ha c hc' => by rw [eT a c hc' (by have := z5 u (by rw [y1]; exact List.mem_append_right _ (List.mem_singleton.mpr rfl)); omega), w4 a (by omega) c hc']; exact z2 a ha c hc', by omega, ?_, inL, fun h0 j hj => ?_, MES_sn (keep T u hLu eT) (fresh T u hu eT), low, .inr ⟨L, i', rfl, rfl, y3, fun j hj => by have := z5 j hj; omega⟩, ⟨by omega, by omega⟩, by omega⟩)
          · have z4' : LK (nd t) (L0 ++ [u]) hd := by rw [← y1]; exact z4
            rw [y1]
            refine LK_sn z4' (fun j hj => by have := y4 j hj; omega) (fun j hj => ?_) eU (by rw [eT i' 4 (by omega) (by omega)]; exact w7)
            have a1 := y4 j hj
            have a2 := z5 j (by rw [y1]; exact List.mem_append_left _ hj)
            rw [eT j 4 (by omega) (by omega), w4 j (by omega) 4 (by omega)]
          · rcases List.mem_append.mp hj with hj | hj
            · have := z5 j hj
              rw [eT j 0 (by omega) (by omega), w4 j (by omega) 0 (by omega)]
              exact z6 h0 j hj
            · rw [List.mem_singleton.mp hj, eT i' 0 (by omega) (by omega)]
              exact w10 h0
      · rw [e1, e2]
        simp only [bsome]
        exact .inr (.inl ⟨_, _, rfl, rfl, FK_tr f1 g1, FW_tr f2 g2, e3⟩)
  · exact ⟨0, l, m, [], [], rfl, by rw [List.append_nil]; exact P, KP_rf, FK_rf, FW_rf, fun _ _ _ _ => rfl, Nat.le_refl _, rfl, fun j hj => by simp at hj, fun _ j hj => by simp at hj, rfl, fun j hj => by simp at hj, .inl ⟨rfl, rfl⟩, ⟨by omega, by omega⟩, by omega⟩
end SEV
