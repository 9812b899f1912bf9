/-! no name twice: in a kind, and in those above it -/
def CF (hr : hS) (w : Int) (m : Nat) : Prop := ∀ j : Int, 0 ≤ j → j < m → (∀ a b : Nat, (a : Int) < wg hr w j 5 → (b : Int) < wg hr w j 5 → wg hr w j (6 + a) = wg hr w j (6 + b) → a = b) ∧ (∀ a b : Nat, (a : Int) < wg hr w j 30 → (b : Int) < wg hr w j 30 → wg hr w j (31 + a) = wg hr w j (31 + b) → a = b) ∧ (∀ n, fIx hr w j n ≠ -1 → sIx hr w j n = -1) ∧ ∀ n, hOw hr w j n = true → clb (fun u => hOw hr w u n) (fun u => wg hr w u 1) 13 (wg hr w j 1) = -1
section CFS
variable {hr hr' : hS} {w : Int} {m : Nat} {j n v : Int}
theorem CF_cg (C : CF hr w m) (e : ∀ k f, wg hr' w k f = wg hr w k f) : CF hr' w m := by
  have eF : ∀ k n, fIx hr' w k n = fIx hr w k n := fIx_cg e
  have eS : ∀ k n, sIx hr' w k n = sIx hr w k n := sIx_cg e
  have eO : ∀ k n, hOw hr' w k n = hOw hr w k n := fun k n => by unfold hOw; rw [eF, eS]
  intro j j0 j1
  obtain ⟨c1, c2, c3, c4⟩ := C j j0 j1
  refine ⟨fun a b ha hb h => ?_, fun a b ha hb h => ?_, fun n h => ?_, fun n h => ?_⟩
  · rw [e] at ha hb
    rw [e, e] at h
    exact c1 a b ha hb h
  · rw [e] at ha hb
    rw [e, e] at h
    exact c2 a b ha hb h
  · rw [eF] at h
    rw [eS]
    exact c3 n h
  · rw [eO] at h
    have e1 : (fun u => hOw hr' w u n) = (fun u => hOw hr w u n) := funext fun u => eO u n
    have e2 : (fun u => wg hr' w u 1) = (fun u => wg hr w u 1) := funext fun u => e u 1
    rw [e1, e2, e]
    exact c4 n h
theorem ix_sn (f : Nat → Int) (x : Int) (c : Nat) : ix f x (c + 1) = if ix f x c ≠ -1 then ix f x c else if f c = x then (c : Int) else -1 := by
  rcases ix_b f x c with e | ⟨i, e, h1, h2, h3⟩
  · have nn := ix_none e
    rw [if_neg (fun z => z e)]
    rcases ix_b f x (c + 1) with e' | ⟨k, e', k1, k2, k3⟩
    · have := ix_none e' c (by omega)
      rw [if_neg this, e']
    · have hk : k = c := by
        by_cases z : k < c
        · exact absurd k2 (nn k z)
        · omega
      subst hk
      rw [if_pos k2, e']
  · rw [if_pos (by omega), e]
    rcases ix_b f x (c + 1) with e' | ⟨k, e', k1, k2, k3⟩
    · exact absurd h2 (ix_none e' i (by omega))
    · rw [e']
      have : k = i := by
        by_cases z : k < i
        · exact absurd k2 (h3 k z)
        · by_cases z2 : i < k
          · exact absurd h2 (k3 i z2)
          · omega
      rw [this]
/-- below kind j nothing has changed: climbs from there are as they were -/
theorem clb_lo {P P' : Int → Bool} {up up' : Int → Int} {b : Int} (h : ∀ u, 0 ≤ u → u < b → P' u = P u ∧ up' u = up u ∧ (up u = -1 ∨ (0 ≤ up u ∧ up u < u))) : ∀ (f : Nat) (u : Int), (u = -1 ∨ (0 ≤ u ∧ u < b)) → clb P' up' f u = clb P up f u
  | 0, _, _ => rfl
  | f + 1, u, hu => by
    rcases hu with rfl | ⟨u0, u1⟩
    · rfl
    · obtain ⟨h1, h2, h3⟩ := h u u0 u1
      show (if u = -1 then -1 else if P' u = true then u else clb P' up' f (up' u)) = (if u = -1 then -1 else if P u = true then u else clb P up f (up u))
      rw [h1, h2, clb_lo h f (up u) (by rcases h3 with z | ⟨z, z1⟩; exact .inl z; exact .inr ⟨z, by omega⟩)]
/-- only kind j, the last one, has changed, by the name n -/
theorem CF_1 (C : CF hr 1 m) (W : WF hr 1 m (fun u : Int => u.toNat)) (j0 : 0 ≤ j) (jm : j + 1 = m) (eo : ∀ u g : Int, 0 ≤ u → u < m → 0 ≤ g → g < 39 → u ≠ j → wg hr' 1 u g = wg hr 1 u g) (e1 : wg hr' 1 j 1 = wg hr 1 j 1) (hn : hAt hr 1 j n = -1) (f5 : (∀ a b : Nat, (a : Int) < wg hr' 1 j 5 → (b : Int) < wg hr' 1 j 5 → wg hr' 1 j (6 + a) = wg hr' 1 j (6 + b) → a = b)) (f30 : (∀ a b : Nat, (a : Int) < wg hr' 1 j 30 → (b : Int) < wg hr' 1 j 30 → wg hr' 1 j (31 + a) = wg hr' 1 j (31 + b) → a = b)) (fs : ∀ x, fIx hr' 1 j x ≠ -1 → sIx hr' 1 j x = -1) (ho : ∀ x, hOw hr' 1 j x = true → x = n ∨ hOw hr 1 j x = true) : CF hr' 1 m := by
  have j1 : j < m := by omega
  have lo : ∀ u : Int, 0 ≤ u → u < m → u ≠ j → u < j := fun u u0 u1 hu => by omega
  have up : ∀ u : Int, 0 ≤ u → u < m → wg hr 1 u 1 = -1 ∨ (0 ≤ wg hr 1 u 1 ∧ wg hr 1 u 1 < u) := fun u u0 u1 => by
    rcases (W.2.2 u u0 u1).2.1 with z | ⟨z1, z2, z3⟩
    · exact .inl z
    · have z3 : (wg hr 1 u 1).toNat < u.toNat := z3
      exact .inr ⟨z1, by omega⟩
  have eFI : ∀ u : Int, 0 ≤ u → u < m → u ≠ j → ∀ x, fIx hr' 1 u x = fIx hr 1 u x := fun u u0 u1 hu x => by
    obtain ⟨-, -, w3, w4, -⟩ := W.2.2 u u0 u1
    unfold fIx
    rw [eo u 5 u0 u1 (by omega) (by omega) hu]
    exact ix_congr (fun i hi => eo u _ u0 u1 (by omega) (by omega) hu)
  have eSI : ∀ u : Int, 0 ≤ u → u < m → u ≠ j → ∀ x, sIx hr' 1 u x = sIx hr 1 u x := fun u u0 u1 hu x => by
    obtain ⟨-, -, w3, w4, -⟩ := W.2.2 u u0 u1
    unfold sIx
    rw [eo u 30 u0 u1 (by omega) (by omega) hu]
    exact ix_congr (fun i hi => eo u _ u0 u1 (by omega) (by omega) hu)
  have eOw : ∀ u : Int, 0 ≤ u → u < m → u ≠ j → ∀ x, hOw hr' 1 u x = hOw hr 1 u x := fun u u0 u1 hu x => by
    unfold hOw
    rw [eFI u u0 u1 hu, eSI u u0 u1 hu]
  have ec : ∀ x (u : Int), (u = -1 ∨ (0 ≤ u ∧ u < j)) → clb (fun u => hOw hr' 1 u x) (fun u => wg hr' 1 u 1) 13 u = clb (fun u => hOw hr 1 u x) (fun u => wg hr 1 u 1) 13 u := fun x u hu => clb_lo (b := j) (fun u u0 u1 => ⟨eOw u u0 (by omega) (by omega) x, eo u 1 u0 (by omega) (by omega) (by omega) (by omega), up u u0 (by omega)⟩) 13 u hu
  intro i i0 i1
  obtain ⟨c1, c2, c3, c4⟩ := C i i0 i1
  obtain ⟨-, -, w3, w4, -⟩ := W.2.2 i i0 i1
  by_cases c : i = j
  · subst c
    refine ⟨f5, f30, fs, fun x hx => ?_⟩
    rw [e1, ec x _ (by rcases up i i0 i1 with z | z; exact .inl z; exact .inr z)]
    rcases ho x hx with rfl | hx
    · have st := hAt_st (n := x) W i0 i1
      rw [hn] at st
      by_cases z : hOw hr 1 i x = true
      · rw [if_pos z] at st; omega
      · rw [if_neg z] at st; exact st.symm
    · exact c4 x hx
  · have ij := lo i i0 i1 c
    refine ⟨fun a b ha hb h => ?_, fun a b ha hb h => ?_, fun x h => ?_, fun x h => ?_⟩
    · rw [eo i 5 i0 i1 (by omega) (by omega) c] at ha hb
      rw [eo i _ i0 i1 (by omega) (by omega) c, eo i _ i0 i1 (by omega) (by omega) c] at h
      exact c1 a b ha hb h
    · rw [eo i 30 i0 i1 (by omega) (by omega) c] at ha hb
      rw [eo i _ i0 i1 (by omega) (by omega) c, eo i _ i0 i1 (by omega) (by omega) c] at h
      exact c2 a b ha hb h
    · rw [eFI i i0 i1 c] at h
      rw [eSI i i0 i1 c]
      exact c3 x h
    · rw [eOw i i0 i1 c] at h
      rw [eo i 1 i0 i1 (by omega) (by omega) c, ec x _ (by rcases up i i0 i1 with z | ⟨z, z1⟩; exact .inl z; exact .inr ⟨z, by omega⟩)]
      exact c4 x h
theorem hOw_f {h : hS} {w j n : Int} (e : hOw h w j n = false) : fIx h w j n = -1 ∧ sIx h w j n = -1 := by
  unfold hOw at e
  by_cases c : fIx h w j n = -1 ∧ sIx h w j n = -1
  · exact c
  · rw [decide_eq_true c] at e; cases e
theorem hOw_t {h : hS} {w j n : Int} (e : hOw h w j n = true) : fIx h w j n ≠ -1 ∨ sIx h w j n ≠ -1 := by
  unfold hOw at e
  have := of_decide_eq_true e
  omega
theorem hOw_o {h : hS} {w j n : Int} (e : fIx h w j n ≠ -1 ∨ sIx h w j n ≠ -1) : hOw h w j n = true := by
  unfold hOw
  exact decide_eq_true (fun c => by omega)
/-- a field more -/
theorem CF_f {F : Nat} (C : CF hr 1 m) (W : WF hr 1 m (fun u : Int => u.toNat)) (j0 : 0 ≤ j) (jm : j + 1 = m) (hF : wg hr 1 j 5 = (F : Int)) (hF8 : F < 8) (e : ∀ u g : Int, 0 ≤ u → u < 12 → 0 ≤ g → g < 39 → wg hr' 1 u g = if u = j ∧ g = 22 + F then -1 else if u = j ∧ g = 14 + F then v else if u = j ∧ g = 6 + F then n else if u = j ∧ g = 5 then ((F + 1 : Nat) : Int) else wg hr 1 u g) (hn : hAt hr 1 j n = -1) : CF hr' 1 m := by
  have j1 : j < m := by omega
  have hm := W.2.1
  obtain ⟨-, -, w3, w4, -⟩ := W.2.2 j j0 j1
  have st := hAt_st (n := n) W j0 j1
  rw [hn] at st
  have hO : hOw hr 1 j n = false := by
    by_cases z : hOw hr 1 j n = true
    · rw [if_pos z] at st; omega
    · simpa using z
  obtain ⟨o1, o2⟩ := hOw_f hO
  obtain ⟨c1, c2, c3, -⟩ := C j j0 j1
  have g5 : wg hr' 1 j 5 = ((F + 1 : Nat) : Int) := by rw [e j 5 j0 (by omega) (by omega) (by omega), if_neg (by omega), if_neg (by omega), if_neg (by omega), if_pos ⟨rfl, rfl⟩]
  have gO : ∀ g : Int, 0 ≤ g → g < 39 → (g ≠ 5 ∧ g ≠ 6 + F ∧ g ≠ 14 + F ∧ g ≠ 22 + F) → wg hr' 1 j g = wg hr 1 j g := fun g g0 g1 hg => by
    rw [e j g j0 (by omega) g0 g1, if_neg (by omega), if_neg (by omega), if_neg (by omega), if_neg (by omega)]
  have gn : wg hr' 1 j (6 + F) = n := by rw [e j _ j0 (by omega) (by omega) (by omega), if_neg (by omega), if_neg (by omega), if_pos ⟨rfl, rfl⟩]
  have eF : ∀ x, fIx hr' 1 j x = if fIx hr 1 j x ≠ -1 then fIx hr 1 j x else if n = x then (F : Int) else -1 := fun x => by
    unfold fIx
    rw [g5, hF, Int.toNat_natCast, Int.toNat_natCast, ix_sn, ix_congr (f := fun i : Nat => wg hr' 1 j (6 + (i : Int))) (g := fun i : Nat => wg hr 1 j (6 + (i : Int))) (fun i hi => gO _ (by omega) (by omega) (by omega)), gn]
  have eS : ∀ x, sIx hr' 1 j x = sIx hr 1 j x := fun x => by
    unfold sIx
    rw [gO 30 (by omega) (by omega) (by omega)]
    exact ix_congr (fun i hi => gO _ (by omega) (by omega) (by omega))
  have nf : ∀ i : Nat, i < F → wg hr 1 j (6 + i) ≠ n := by
    intro i hi
    have := ix_none (show ix (fun i : Nat => wg hr 1 j (6 + (i : Int))) n (wg hr 1 j 5).toNat = -1 from o1) i (by omega)
    exact this
  refine CF_1 C W j0 jm (fun u g u0 u1 g0 g1 hu => by rw [e u g u0 (by omega) g0 g1, if_neg (fun z => hu z.1), if_neg (fun z => hu z.1), if_neg (fun z => hu z.1), if_neg (fun z => hu z.1)]) (gO 1 (by omega) (by omega) (by omega)) hn (fun a b ha hb h => ?_) (fun a b ha hb h => ?_) (fun x hx => ?_) (fun x hx => ?_)
  · rw [g5] at ha hb
    by_cases ca : a = F
    · by_cases cb : b = F
      · omega
      · rw [ca, gn, gO _ (by omega) (by omega) (by omega)] at h
        exact absurd h.symm (nf b (by omega))
    · by_cases cb : b = F
      · rw [cb, gn, gO _ (by omega) (by omega) (by omega)] at h
        exact absurd h (nf a (by omega))
      · rw [gO _ (by omega) (by omega) (by omega), gO _ (by omega) (by omega) (by omega)] at h
        exact c1 a b (by omega) (by omega) h
  · rw [gO 30 (by omega) (by omega) (by omega)] at ha hb
    rw [gO _ (by omega) (by omega) (by omega), gO _ (by omega) (by omega) (by omega)] at h
    exact c2 a b ha hb h
  · rw [eS]
    rw [eF] at hx
    by_cases c : fIx hr 1 j x ≠ -1
    · exact c3 x c
    · rw [if_neg c] at hx
      by_cases c2 : n = x
      · rw [← c2]; exact o2
      · rw [if_neg c2] at hx
        exact absurd rfl hx
  · rcases hOw_t hx with h | h
    · rw [eF] at h
      by_cases c : fIx hr 1 j x ≠ -1
      · exact .inr (hOw_o (.inl c))
      · rw [if_neg c] at h
        by_cases c2 : n = x
        · exact .inl c2.symm
        · rw [if_neg c2] at h
          exact absurd rfl h
    · rw [eS] at h
      exact .inr (hOw_o (.inr h))
/-- a static more -/
theorem CF_s {F : Nat} (C : CF hr 1 m) (W : WF hr 1 m (fun u : Int => u.toNat)) (j0 : 0 ≤ j) (jm : j + 1 = m) (hF : wg hr 1 j 30 = (F : Int)) (hF8 : F < 4) (e : ∀ u g : Int, 0 ≤ u → u < 12 → 0 ≤ g → g < 39 → wg hr' 1 u g = if u = j ∧ g = 35 + F then v else if u = j ∧ g = 31 + F then n else if u = j ∧ g = 30 then ((F + 1 : Nat) : Int) else wg hr 1 u g) (hn : hAt hr 1 j n = -1) : CF hr' 1 m := by
  have j1 : j < m := by omega
  have hm := W.2.1
  obtain ⟨-, -, w3, w4, -⟩ := W.2.2 j j0 j1
  have st := hAt_st (n := n) W j0 j1
  rw [hn] at st
  have hO : hOw hr 1 j n = false := by
    by_cases z : hOw hr 1 j n = true
    · rw [if_pos z] at st; omega
    · simpa using z
  obtain ⟨o1, o2⟩ := hOw_f hO
  obtain ⟨c1, c2, c3, -⟩ := C j j0 j1
  have g5 : wg hr' 1 j 30 = ((F + 1 : Nat) : Int) := by rw [e j 30 j0 (by omega) (by omega) (by omega), if_neg (by omega), if_neg (by omega), if_pos ⟨rfl, rfl⟩]
  have gO : ∀ g : Int, 0 ≤ g → g < 39 → (g ≠ 30 ∧ g ≠ 31 + F ∧ g ≠ 35 + F) → wg hr' 1 j g = wg hr 1 j g := fun g g0 g1 hg => by
    rw [e j g j0 (by omega) g0 g1, if_neg (by omega), if_neg (by omega), if_neg (by omega)]
  have gn : wg hr' 1 j (31 + F) = n := by rw [e j _ j0 (by omega) (by omega) (by omega), if_neg (by omega), if_pos ⟨rfl, rfl⟩]
  have eS : ∀ x, sIx hr' 1 j x = if sIx hr 1 j x ≠ -1 then sIx hr 1 j x else if n = x then (F : Int) else -1 := fun x => by
    unfold sIx
    rw [g5, hF, Int.toNat_natCast, Int.toNat_natCast, ix_sn, ix_congr (f := fun i : Nat => wg hr' 1 j (31 + (i : Int))) (g := fun i : Nat => wg hr 1 j (31 + (i : Int))) (fun i hi => gO _ (by omega) (by omega) (by omega)), gn]
  have eF : ∀ x, fIx hr' 1 j x = fIx hr 1 j x := fun x => by
    unfold fIx
    rw [gO 5 (by omega) (by omega) (by omega)]
    exact ix_congr (fun i hi => gO _ (by omega) (by omega) (by omega))
  have nf : ∀ i : Nat, i < F → wg hr 1 j (31 + i) ≠ n := by
    intro i hi
    have := ix_none (show ix (fun i : Nat => wg hr 1 j (31 + (i : Int))) n (wg hr 1 j 30).toNat = -1 from o2) i (by omega)
    exact this
  refine CF_1 C W j0 jm (fun u g u0 u1 g0 g1 hu => by rw [e u g u0 (by omega) g0 g1, if_neg (fun z => hu z.1), if_neg (fun z => hu z.1), if_neg (fun z => hu z.1)]) (gO 1 (by omega) (by omega) (by omega)) hn (fun a b ha hb h => ?_) (fun a b ha hb h => ?_) (fun x hx => ?_) (fun x hx => ?_)
  · rw [gO 5 (by omega) (by omega) (by omega)] at ha hb
    rw [gO _ (by omega) (by omega) (by omega), gO _ (by omega) (by omega) (by omega)] at h
    exact c1 a b ha hb h
  · rw [g5] at ha hb
    by_cases ca : a = F
    · by_cases cb : b = F
      · omega
      · rw [ca, gn, gO _ (by omega) (by omega) (by omega)] at h
        exact absurd h.symm (nf b (by omega))
    · by_cases cb : b = F
      · rw [cb, gn, gO _ (by omega) (by omega) (by omega)] at h
        exact absurd h (nf a (by omega))
      · rw [gO _ (by omega) (by omega) (by omega), gO _ (by omega) (by omega) (by omega)] at h
        exact c2 a b (by omega) (by omega) h
  · rw [eF] at hx
    rw [eS, if_neg (fun z => z (c3 x hx))]
    by_cases c2 : n = x
    · rw [← c2] at hx
      exact absurd o1 hx
    · rw [if_neg c2]
  · rcases hOw_t hx with h | h
    · rw [eF] at h
      exact .inr (hOw_o (.inl h))
    · rw [eS] at h
      by_cases c : sIx hr 1 j x ≠ -1
      · exact .inr (hOw_o (.inr c))
      · rw [if_neg c] at h
        by_cases c2 : n = x
        · exact .inl c2.symm
        · rw [if_neg c2] at h
          exact absurd rfl h
/-- an act more; no value is other -/
theorem CF_a (C : CF hr 1 m) (W : WF hr 1 m (fun u : Int => u.toNat)) (e : ∀ u g : Int, 0 ≤ u → u < 12 → 0 ≤ g → g < 39 → wg hr' 1 u g = wg hr 1 u g) : CF hr' 1 m := by
  have hm := W.2.1
  have eFI : ∀ u : Int, 0 ≤ u → u < m → ∀ x, fIx hr' 1 u x = fIx hr 1 u x := fun u u0 u1 x => by
    obtain ⟨-, -, w3, w4, -⟩ := W.2.2 u u0 u1
    unfold fIx
    rw [e u 5 u0 (by omega) (by omega) (by omega)]
    exact ix_congr (fun i hi => e u _ u0 (by omega) (by omega) (by omega))
  have eSI : ∀ u : Int, 0 ≤ u → u < m → ∀ x, sIx hr' 1 u x = sIx hr 1 u x := fun u u0 u1 x => by
    obtain ⟨-, -, w3, w4, -⟩ := W.2.2 u u0 u1
    unfold sIx
    rw [e u 30 u0 (by omega) (by omega) (by omega)]
    exact ix_congr (fun i hi => e u _ u0 (by omega) (by omega) (by omega))
  have eOw : ∀ u : Int, 0 ≤ u → u < m → ∀ x, hOw hr' 1 u x = hOw hr 1 u x := fun u u0 u1 x => by
    unfold hOw
    rw [eFI u u0 u1, eSI u u0 u1]
  have up : ∀ u : Int, 0 ≤ u → u < m → wg hr 1 u 1 = -1 ∨ (0 ≤ wg hr 1 u 1 ∧ wg hr 1 u 1 < u) := fun u u0 u1 => by
    rcases (W.2.2 u u0 u1).2.1 with z | ⟨z1, z2, z3⟩
    · exact .inl z
    · have z3 : (wg hr 1 u 1).toNat < u.toNat := z3
      exact .inr ⟨z1, by omega⟩
  intro i i0 i1
  obtain ⟨c1, c2, c3, c4⟩ := C i i0 i1
  obtain ⟨-, -, w3, w4, -⟩ := W.2.2 i i0 i1
  refine ⟨fun a b ha hb h => ?_, fun a b ha hb h => ?_, fun x h => ?_, fun x h => ?_⟩
  · rw [e i 5 i0 (by omega) (by omega) (by omega)] at ha hb
    rw [e i _ i0 (by omega) (by omega) (by omega), e i _ i0 (by omega) (by omega) (by omega)] at h
    exact c1 a b ha hb h
  · rw [e i 30 i0 (by omega) (by omega) (by omega)] at ha hb
    rw [e i _ i0 (by omega) (by omega) (by omega), e i _ i0 (by omega) (by omega) (by omega)] at h
    exact c2 a b ha hb h
  · rw [eFI i i0 i1] at h
    rw [eSI i i0 i1]
    exact c3 x h
  · rw [eOw i i0 i1] at h
    rw [e i 1 i0 (by omega) (by omega) (by omega), clb_lo (b := (m : Int)) (P := fun u => hOw hr 1 u x) (up := fun u => wg hr 1 u 1) (fun u u0 u1 => ⟨eOw u u0 u1 x, e u 1 u0 (by omega) (by omega) (by omega), up u u0 u1⟩) 13 _ (by rcases up i i0 i1 with z | ⟨z, z1⟩; exact .inl z; exact .inr ⟨z, by omega⟩)]
    exact c4 x h
/-- a kind more -/
theorem CF_k (C : CF hr 1 m) (W : WF hr 1 m (fun u : Int => u.toNat)) (h12 : m < 12) (e : ∀ u g : Int, 0 ≤ u → u < m → 0 ≤ g → g < 64 → wg hr' 1 u g = wg hr 1 u g) (e5 : wg hr' 1 m 5 = 0) (e30 : wg hr' 1 m 30 = 0) : CF hr' 1 (m + 1) := by
  have hm := W.2.1
  have eFI : ∀ u : Int, 0 ≤ u → u < m → ∀ x, fIx hr' 1 u x = fIx hr 1 u x := fun u u0 u1 x => by
    obtain ⟨-, -, w3, w4, -⟩ := W.2.2 u u0 u1
    unfold fIx
    rw [e u 5 u0 u1 (by omega) (by omega)]
    exact ix_congr (fun i hi => e u _ u0 u1 (by omega) (by omega))
  have eSI : ∀ u : Int, 0 ≤ u → u < m → ∀ x, sIx hr' 1 u x = sIx hr 1 u x := fun u u0 u1 x => by
    obtain ⟨-, -, w3, w4, -⟩ := W.2.2 u u0 u1
    unfold sIx
    rw [e u 30 u0 u1 (by omega) (by omega)]
    exact ix_congr (fun i hi => e u _ u0 u1 (by omega) (by omega))
  have eOw : ∀ u : Int, 0 ≤ u → u < m → ∀ x, hOw hr' 1 u x = hOw hr 1 u x := fun u u0 u1 x => by
    unfold hOw
    rw [eFI u u0 u1, eSI u u0 u1]
  have up : ∀ u : Int, 0 ≤ u → u < m → wg hr 1 u 1 = -1 ∨ (0 ≤ wg hr 1 u 1 ∧ wg hr 1 u 1 < u) := fun u u0 u1 => by
    rcases (W.2.2 u u0 u1).2.1 with z | ⟨z1, z2, z3⟩
    · exact .inl z
    · have z3 : (wg hr 1 u 1).toNat < u.toNat := z3
      exact .inr ⟨z1, by omega⟩
  intro i i0 i1
  by_cases c : i = m
  · subst c
    rw [e5, e30]
    have f0 : ∀ x, fIx hr' 1 m x = -1 := fun x => by unfold fIx; rw [e5]; rfl
    have s0 : ∀ x, sIx hr' 1 m x = -1 := fun x => by unfold sIx; rw [e30]; rfl
    refine ⟨fun a b ha hb h => by omega, fun a b ha hb h => by omega, fun x h => s0 x, fun x h => ?_⟩
    rcases hOw_t h with z | z
    · exact absurd (f0 x) z
    · exact absurd (s0 x) z
  · have im : i < m := by omega
    obtain ⟨c1, c2, c3, c4⟩ := C i i0 im
    obtain ⟨-, -, w3, w4, -⟩ := W.2.2 i i0 im
    refine ⟨fun a b ha hb h => ?_, fun a b ha hb h => ?_, fun x h => ?_, fun x h => ?_⟩
    · rw [e i 5 i0 im (by omega) (by omega)] at ha hb
      rw [e i _ i0 im (by omega) (by omega), e i _ i0 im (by omega) (by omega)] at h
      exact c1 a b ha hb h
    · rw [e i 30 i0 im (by omega) (by omega)] at ha hb
      rw [e i _ i0 im (by omega) (by omega), e i _ i0 im (by omega) (by omega)] at h
      exact c2 a b ha hb h
    · rw [eFI i i0 im] at h
      rw [eSI i i0 im]
      exact c3 x h
    · rw [eOw i i0 im] at h
      rw [e i 1 i0 im (by omega) (by omega), clb_lo (b := (m : Int)) (P := fun u => hOw hr 1 u x) (up := fun u => wg hr 1 u 1) (fun u u0 u1 => ⟨eOw u u0 u1 x, e u 1 u0 u1 (by omega) (by omega), up u u0 u1⟩) 13 _ (by rcases up i i0 im with z | ⟨z, z1⟩; exact .inl z; exact .inr ⟨z, by omega⟩)]
      exact c4 x h
/-- no name twice, all of the first generation -/
def CG (hr : hS) (m : Nat) : Prop := CF hr 1 m ∧ ∀ j : Int, 0 ≤ j → j < m → wg hr 1 j 2 = 0
theorem CG_cg (C : CG hr m) (e : ∀ k f, wg hr' 1 k f = wg hr 1 k f) : CG hr' m := ⟨CF_cg C.1 e, fun j j0 j1 => by rw [e]; exact C.2 j j0 j1⟩
theorem CG_f {F : Nat} (C : CG hr m) (W : WF hr 1 m (fun u : Int => u.toNat)) (j0 : 0 ≤ j) (jm : j + 1 = m) (hF : wg hr 1 j 5 = (F : Int)) (hF8 : F < 8) (e : ∀ u g : Int, 0 ≤ u → u < 12 → 0 ≤ g → g < 39 → wg hr' 1 u g = if u = j ∧ g = 22 + F then -1 else if u = j ∧ g = 14 + F then v else if u = j ∧ g = 6 + F then n else if u = j ∧ g = 5 then ((F + 1 : Nat) : Int) else wg hr 1 u g) (hn : hAt hr 1 j n = -1) : CG hr' m := ⟨CF_f C.1 W j0 jm hF hF8 e hn, fun i i0 i1 => by
  have := W.2.1
  rw [e i 2 i0 (by omega) (by omega) (by omega), if_neg (by omega), if_neg (by omega), if_neg (by omega), if_neg (by omega)]
  exact C.2 i i0 i1⟩
theorem CG_s {F : Nat} (C : CG hr m) (W : WF hr 1 m (fun u : Int => u.toNat)) (j0 : 0 ≤ j) (jm : j + 1 = m) (hF : wg hr 1 j 30 = (F : Int)) (hF8 : F < 4) (e : ∀ u g : Int, 0 ≤ u → u < 12 → 0 ≤ g → g < 39 → wg hr' 1 u g = if u = j ∧ g = 35 + F then v else if u = j ∧ g = 31 + F then n else if u = j ∧ g = 30 then ((F + 1 : Nat) : Int) else wg hr 1 u g) (hn : hAt hr 1 j n = -1) : CG hr' m := ⟨CF_s C.1 W j0 jm hF hF8 e hn, fun i i0 i1 => by
  have := W.2.1
  rw [e i 2 i0 (by omega) (by omega) (by omega), if_neg (by omega), if_neg (by omega), if_neg (by omega)]
  exact C.2 i i0 i1⟩
theorem CG_a (C : CG hr m) (W : WF hr 1 m (fun u : Int => u.toNat)) (e : ∀ u g : Int, 0 ≤ u → u < 12 → 0 ≤ g → g < 39 → wg hr' 1 u g = wg hr 1 u g) : CG hr' m := ⟨CF_a C.1 W e, fun i i0 i1 => by
  have := W.2.1
  rw [e i 2 i0 (by omega) (by omega) (by omega)]
  exact C.2 i i0 i1⟩
theorem CG_k (C : CG hr m) (W : WF hr 1 m (fun u : Int => u.toNat)) (h12 : m < 12) (e : ∀ u g : Int, 0 ≤ u → u < m → 0 ≤ g → g < 64 → wg hr' 1 u g = wg hr 1 u g) (e5 : wg hr' 1 m 5 = 0) (e30 : wg hr' 1 m 30 = 0) (e2 : wg hr' 1 m 2 = 0) : CG hr' (m + 1) := ⟨CF_k C.1 W h12 e e5 e30, fun i i0 i1 => by
  by_cases c : i = m
  · rw [c]; exact e2
  · rw [e i 2 i0 (by omega) (by omega) (by omega)]
    exact C.2 i i0 (by omega)⟩
end CFS
