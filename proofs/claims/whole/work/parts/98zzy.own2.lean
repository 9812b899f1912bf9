/-! a patch is made: what holds of a kind of world 1 -/
def nm0 (t : hS) (m0 : Nat) (n : Int) : Int := ix (fun k : Nat => wg t 0 (k : Int) 0) n m0
/-- whence it is, no name twice, whence its fields come -/
def KO (t : hS) (m0 : Nat) (G : Int) (j : Int) : Prop := wg t 1 j 4 = nm0 t m0 (wg t 1 j 0) ∧ (wg t 1 j 3 = 0 ∨ wg t 1 j 3 = 1) ∧ (0 ≤ wg t 1 j 2 ∧ wg t 1 j 2 ≤ G) ∧ (∀ a b : Nat, (a : Int) < wg t 1 j 5 → (b : Int) < wg t 1 j 5 → wg t 1 j (6 + a) = wg t 1 j (6 + b) → a = b) ∧ (∀ a b : Nat, (a : Int) < wg t 1 j 30 → (b : Int) < wg t 1 j 30 → wg t 1 j (31 + a) = wg t 1 j (31 + b) → a = b) ∧ (∀ a b : Nat, (a : Int) < wg t 1 j 5 → (b : Int) < wg t 1 j 30 → wg t 1 j (6 + a) ≠ wg t 1 j (31 + b)) ∧ (∀ a : Nat, (a : Int) < wg t 1 j 5 → wg t 1 j (22 + a) = -1 ∨ (wg t 1 j 4 ≠ -1 ∧ fIx t 0 (wg t 1 j 4) (wg t 1 j (22 + a)) ≠ -1)) ∧ ∀ a b : Nat, (a : Int) < wg t 1 j 5 → (b : Int) < wg t 1 j 5 → wg t 1 j (22 + a) = wg t 1 j (22 + b) → wg t 1 j (22 + a) ≠ -1 → a = b
section KOS
variable {h h' h0 h1 t t' : hS} {k m m0 P : Nat} {w G j n v : Int} {r r0 : Int → Nat} {K : Nat → Int → Prop}
theorem fw_x (W : WF t 0 m0 r0) (f : fw t t') : agx 0 0 m0 t t' := fun k f' k0 k1 f0 f1 _ => fw_w f (.inl rfl) k0 (by have := W.2.1; omega) f0 f1
theorem nm0_f (W : WF t 0 m0 r0) (f : fw t t') (n : Int) : nm0 t' m0 n = nm0 t m0 n := by
  unfold nm0
  exact ix_congr (fun u hu => fw_w f (.inl rfl) (by omega) (by have := W.2.1; omega) (by omega) (by omega))
theorem nm0_b (t : hS) (m0 : Nat) (n : Int) : nm0 t m0 n = -1 ∨ (0 ≤ nm0 t m0 n ∧ nm0 t m0 n < m0 ∧ wg t 0 (nm0 t m0 n) 0 = n) := by
  unfold nm0
  rcases ix_b (fun k : Nat => wg t 0 (k : Int) 0) n m0 with e | ⟨u, e, u1, u2, -⟩
  · exact .inl e
  · rw [e]
    exact .inr ⟨by omega, by omega, u2⟩
theorem hOw_no (q : hOw t 1 j n = false) : (∀ a : Nat, (a : Int) < wg t 1 j 5 → wg t 1 j (6 + a) ≠ n) ∧ ∀ b : Nat, (b : Int) < wg t 1 j 30 → wg t 1 j (31 + b) ≠ n := by
  obtain ⟨e1, e2⟩ := hOw_f q
  exact ⟨fun a ha => ix_none e1 a (by omega), fun b hb => ix_none e2 b (by omega)⟩
/-- fewer members, or the same -/
theorem KO_map {u : Int} (W : WF t 0 m0 r0) (f : fw t t') (Q : KO t m0 G j) (e0 : wg t' 1 u 0 = wg t 1 j 0) (e2 : wg t' 1 u 2 = wg t 1 j 2) (e3 : wg t' 1 u 3 = 0 ∨ wg t' 1 u 3 = 1) (e4 : wg t' 1 u 4 = wg t 1 j 4) (φ ψ : Nat → Nat) (ip : ∀ a b, φ a = φ b → a = b) (iq : ∀ a b, ψ a = ψ b → a = b) (hp : ∀ i : Nat, (i : Int) < wg t' 1 u 5 → (φ i : Int) < wg t 1 j 5 ∧ wg t' 1 u (6 + i) = wg t 1 j (6 + φ i) ∧ wg t' 1 u (22 + i) = wg t 1 j (22 + φ i)) (hq : ∀ i : Nat, (i : Int) < wg t' 1 u 30 → (ψ i : Int) < wg t 1 j 30 ∧ wg t' 1 u (31 + i) = wg t 1 j (31 + ψ i)) : KO t' m0 G u := by
  obtain ⟨o1, o2, o3, o4, o5, o6, o7, o8⟩ := Q
  refine ⟨by rw [e4, e0, nm0_f W f]; exact o1, e3, by rw [e2]; exact o3, fun a b ha hb e => ?_, fun a b ha hb e => ?_, fun a b ha hb => ?_, fun a ha => ?_, fun a b ha hb e hne => ?_⟩
  · obtain ⟨x1, x2, -⟩ := hp a ha
    obtain ⟨y1, y2, -⟩ := hp b hb
    exact ip a b (o4 _ _ x1 y1 (by rw [← x2, ← y2]; exact e))
  · obtain ⟨x1, x2⟩ := hq a ha
    obtain ⟨y1, y2⟩ := hq b hb
    exact iq a b (o5 _ _ x1 y1 (by rw [← x2, ← y2]; exact e))
  · obtain ⟨x1, x2, -⟩ := hp a ha
    obtain ⟨y1, y2⟩ := hq b hb
    rw [x2, y2]
    exact o6 _ _ x1 y1
  · obtain ⟨x1, -, x3⟩ := hp a ha
    rw [e4, x3]
    rcases o7 _ x1 with z | ⟨z1, z2⟩
    · exact .inl z
    · refine .inr ⟨z1, ?_⟩
      rcases nm0_b t m0 (wg t 1 j 0) with y | ⟨y1, y2, -⟩
      · exact absurd (o1.trans y) z1
      · rw [fIx_x (fw_x W f) W (by rw [o1]; exact y1) (by rw [o1]; exact y2)]
        exact z2
  · obtain ⟨x1, -, x3⟩ := hp a ha
    obtain ⟨y1, -, y3⟩ := hp b hb
    exact ip a b (o8 _ _ x1 y1 (by rw [← x3, ← y3]; exact e) (by rw [← x3]; exact hne))
/-- it stands at another place -/
theorem KO_mv {u : Int} (W : WF t 0 m0 r0) (f : fw t t') (Q : KO t m0 G j) (e : ∀ g : Int, 0 ≤ g → g < 39 → g ≠ 1 → wg t' 1 u g = wg t 1 j g) (h5 : wg t 1 j 5 ≤ 8) (h30 : wg t 1 j 30 ≤ 4) : KO t' m0 G u :=
  KO_map W f Q (e 0 (by omega) (by omega) (by omega)) (e 2 (by omega) (by omega) (by omega)) (by rw [e 3 (by omega) (by omega) (by omega)]; exact Q.2.1) (e 4 (by omega) (by omega) (by omega)) id id (fun _ _ z => z) (fun _ _ z => z) (fun i hi => by
    rw [e 5 (by omega) (by omega) (by omega)] at hi
    exact ⟨hi, e _ (by omega) (by omega) (by omega), e _ (by omega) (by omega) (by omega)⟩) (fun i hi => by
    rw [e 30 (by omega) (by omega) (by omega)] at hi
    exact ⟨hi, e _ (by omega) (by omega) (by omega)⟩)
/-- its rows that count are the same -/
theorem KO_row (W : WF t 0 m0 r0) (f : fw t t') (Q : KO t m0 G j) (e : ∀ g : Int, 0 ≤ g → g < 39 → g ≠ 3 → wg t' 1 j g = wg t 1 j g) (h5 : wg t 1 j 5 ≤ 8) (h30 : wg t 1 j 30 ≤ 4) (e3 : wg t' 1 j 3 = 0 ∨ wg t' 1 j 3 = 1) : KO t' m0 G j :=
  KO_map W f Q (e 0 (by omega) (by omega) (by omega)) (e 2 (by omega) (by omega) (by omega)) e3 (e 4 (by omega) (by omega) (by omega)) id id (fun _ _ z => z) (fun _ _ z => z) (fun i hi => by
    rw [e 5 (by omega) (by omega) (by omega)] at hi
    exact ⟨hi, e _ (by omega) (by omega) (by omega), e _ (by omega) (by omega) (by omega)⟩) (fun i hi => by
    rw [e 30 (by omega) (by omega) (by omega)] at hi
    exact ⟨hi, e _ (by omega) (by omega) (by omega)⟩)
theorem KO_addF {F : Nat} (W : WF t 0 m0 r0) (f : fw t t') (Q : KO t m0 G j) (j0 : 0 ≤ j) (j1 : j < 12) (hF : wg t 1 j 5 = (F : Int)) (F8 : F < 8) (h30 : wg t 1 j 30 ≤ 4) (q : hOw t 1 j n = false) (e : ∀ u g : Int, 0 ≤ u → u < 12 → 0 ≤ g → g < 64 → wg t' 1 u g = if u = j ∧ g = 22 + F then -1 else if u = j ∧ g = 14 + F then v else if u = j ∧ g = 6 + F then n else if u = j ∧ g = 5 then ((F + 1 : Nat) : Int) else wg t 1 u g) : KO t' m0 G j := by
  obtain ⟨o1, o2, o3, o4, o5, o6, o7, o8⟩ := Q
  obtain ⟨n1, n2⟩ := hOw_no q
  have e5 : wg t' 1 j 5 = ((F + 1 : Nat) : Int) := by rw [e j 5 j0 j1 (by omega) (by omega), if_neg (by omega), if_neg (by omega), if_neg (by omega), if_pos ⟨rfl, rfl⟩]
  have eo : ∀ g : Int, 0 ≤ g → g < 64 → g ≠ 22 + F → g ≠ 14 + F → g ≠ 6 + F → g ≠ 5 → wg t' 1 j g = wg t 1 j g := fun g g0 g1 h1 h2 h3 h4 => by rw [e j g j0 j1 g0 g1, if_neg (by omega), if_neg (by omega), if_neg (by omega), if_neg (by omega)]
  have e6 : ∀ a : Nat, a ≤ F → wg t' 1 j (6 + a) = if a = F then n else wg t 1 j (6 + a) := fun a ha => by
    by_cases c : a = F
    · subst c
      rw [e j _ j0 j1 (by omega) (by omega), if_neg (by omega), if_neg (by omega), if_pos ⟨rfl, rfl⟩, if_pos rfl]
    · rw [if_neg c, eo _ (by omega) (by omega) (by omega) (by omega) (by omega) (by omega)]
  have e22 : ∀ a : Nat, a ≤ F → wg t' 1 j (22 + a) = if a = F then -1 else wg t 1 j (22 + a) := fun a ha => by
    by_cases c : a = F
    · subst c
      rw [e j _ j0 j1 (by omega) (by omega), if_pos ⟨rfl, rfl⟩, if_pos rfl]
    · rw [if_neg c, eo _ (by omega) (by omega) (by omega) (by omega) (by omega) (by omega)]
  have e30 : wg t' 1 j 30 = wg t 1 j 30 := eo 30 (by omega) (by omega) (by omega) (by omega) (by omega) (by omega)
  have e31 : ∀ b : Nat, (b : Int) < wg t 1 j 30 → wg t' 1 j (31 + b) = wg t 1 j (31 + b) := fun b hb => eo _ (by omega) (by omega) (by omega) (by omega) (by omega) (by omega)
  rw [hF] at o4 o6 o7 o8 n1
  unfold KO
  rw [e5, e30, eo 0 (by omega) (by omega) (by omega) (by omega) (by omega) (by omega), eo 2 (by omega) (by omega) (by omega) (by omega) (by omega) (by omega), eo 3 (by omega) (by omega) (by omega) (by omega) (by omega) (by omega), eo 4 (by omega) (by omega) (by omega) (by omega) (by omega) (by omega), nm0_f W f]
  refine ⟨o1, o2, o3, fun a b ha hb z => ?_, fun a b ha hb z => ?_, fun a b ha hb => ?_, fun a ha => ?_, fun a b ha hb z hne => ?_⟩
  · rw [e6 a (by omega), e6 b (by omega)] at z
    by_cases ca : a = F
    · by_cases cb : b = F
      · omega
      · rw [if_pos ca, if_neg cb] at z
        exact absurd z.symm (n1 b (by omega))
    · by_cases cb : b = F
      · rw [if_neg ca, if_pos cb] at z
        exact absurd z (n1 a (by omega))
      · rw [if_neg ca, if_neg cb] at z
        exact o4 a b (by omega) (by omega) z
  · rw [e31 a ha, e31 b hb] at z
    exact o5 a b ha hb z
  · rw [e6 a (by omega), e31 b hb]
    by_cases ca : a = F
    · rw [if_pos ca]
      exact fun z => n2 b hb z.symm
    · rw [if_neg ca]
      exact o6 a b (by omega) hb
  · rw [e22 a (by omega)]
    by_cases ca : a = F
    · rw [if_pos ca]; exact .inl rfl
    · rw [if_neg ca]
      rcases o7 a (by omega) with z | ⟨z1, z2⟩
      · exact .inl z
      · refine .inr ⟨z1, ?_⟩
        rcases nm0_b t m0 (wg t 1 j 0) with y | ⟨y1, y2, -⟩
        · exact absurd (o1.trans y) z1
        · rw [fIx_x (fw_x W f) W (by rw [o1]; exact y1) (by rw [o1]; exact y2)]
          exact z2
  · rw [e22 a (by omega)] at z hne
    rw [e22 b (by omega)] at z
    by_cases ca : a = F
    · rw [if_pos ca] at hne
      exact absurd rfl hne
    · rw [if_neg ca] at z hne
      by_cases cb : b = F
      · rw [if_pos cb] at z
        exact absurd z hne
      · rw [if_neg cb] at z
        exact o8 a b (by omega) (by omega) z hne
theorem KO_addS {F : Nat} (W : WF t 0 m0 r0) (f : fw t t') (Q : KO t m0 G j) (j0 : 0 ≤ j) (j1 : j < 12) (hF : wg t 1 j 30 = (F : Int)) (F8 : F < 4) (h5 : wg t 1 j 5 ≤ 8) (q : hOw t 1 j n = false) (e : ∀ u g : Int, 0 ≤ u → u < 12 → 0 ≤ g → g < 64 → wg t' 1 u g = if u = j ∧ g = 35 + F then v else if u = j ∧ g = 31 + F then n else if u = j ∧ g = 30 then ((F + 1 : Nat) : Int) else wg t 1 u g) : KO t' m0 G j := by
  obtain ⟨o1, o2, o3, o4, o5, o6, o7, o8⟩ := Q
  obtain ⟨n1, n2⟩ := hOw_no q
  have e30 : wg t' 1 j 30 = ((F + 1 : Nat) : Int) := by rw [e j 30 j0 j1 (by omega) (by omega), if_neg (by omega), if_neg (by omega), if_pos ⟨rfl, rfl⟩]
  have eo : ∀ g : Int, 0 ≤ g → g < 30 → wg t' 1 j g = wg t 1 j g := fun g g0 g1 => by rw [e j g j0 j1 g0 (by omega), if_neg (by omega), if_neg (by omega), if_neg (by omega)]
  have e31 : ∀ a : Nat, a ≤ F → wg t' 1 j (31 + a) = if a = F then n else wg t 1 j (31 + a) := fun a ha => by
    by_cases c : a = F
    · subst c
      rw [e j _ j0 j1 (by omega) (by omega), if_neg (by omega), if_pos ⟨rfl, rfl⟩, if_pos rfl]
    · rw [if_neg c, e j _ j0 j1 (by omega) (by omega), if_neg (by omega), if_neg (by omega), if_neg (by omega)]
  rw [hF] at o5 o6 n2
  unfold KO
  rw [e30, eo 0 (by omega) (by omega), eo 2 (by omega) (by omega), eo 3 (by omega) (by omega), eo 4 (by omega) (by omega), eo 5 (by omega) (by omega), nm0_f W f]
  refine ⟨o1, o2, o3, fun a b ha hb z => ?_, fun a b ha hb z => ?_, fun a b ha hb => ?_, fun a ha => ?_, fun a b ha hb z hne => ?_⟩
  · rw [eo _ (by omega) (by omega), eo _ (by omega) (by omega)] at z
    exact o4 a b ha hb z
  · rw [e31 a (by omega), e31 b (by omega)] at z
    by_cases ca : a = F
    · by_cases cb : b = F
      · omega
      · rw [if_pos ca, if_neg cb] at z
        exact absurd z.symm (n2 b (by omega))
    · by_cases cb : b = F
      · rw [if_neg ca, if_pos cb] at z
        exact absurd z (n2 a (by omega))
      · rw [if_neg ca, if_neg cb] at z
        exact o5 a b (by omega) (by omega) z
  · rw [e31 b (by omega), eo _ (by omega) (by omega)]
    by_cases cb : b = F
    · rw [if_pos cb]
      exact n1 a ha
    · rw [if_neg cb]
      exact o6 a b ha (by omega)
  · rw [eo _ (by omega) (by omega)]
    rcases o7 a ha with z | ⟨z1, z2⟩
    · exact .inl z
    · refine .inr ⟨z1, ?_⟩
      rcases nm0_b t m0 (wg t 1 j 0) with y | ⟨y1, y2, -⟩
      · exact absurd (o1.trans y) z1
      · rw [fIx_x (fw_x W f) W (by rw [o1]; exact y1) (by rw [o1]; exact y2)]
        exact z2
  · rw [eo _ (by omega) (by omega)] at z hne
    rw [eo _ (by omega) (by omega)] at z
    exact o8 a b ha hb z hne
/-- a field is renamed -/
theorem KO_ren {i : Nat} (W : WF t 0 m0 r0) (f : fw t t') (Q : KO t m0 G j) (j0 : 0 ≤ j) (j1 : j < 12) (h5 : wg t 1 j 5 ≤ 8) (h30 : wg t 1 j 30 ≤ 4) (hi : (i : Int) < wg t 1 j 5) (q : hOw t 1 j n = false) (e : ∀ g : Int, 0 ≤ g → g < 64 → wg t' 1 j g = if g = 6 + i then n else wg t 1 j g) : KO t' m0 G j := by
  obtain ⟨o1, o2, o3, o4, o5, o6, o7, o8⟩ := Q
  obtain ⟨n1, n2⟩ := hOw_no q
  have eo : ∀ g : Int, 0 ≤ g → g < 64 → g ≠ 6 + i → wg t' 1 j g = wg t 1 j g := fun g g0 g1 h1 => by rw [e g g0 g1, if_neg h1]
  have e6 : ∀ a : Nat, a < 8 → wg t' 1 j (6 + a) = if a = i then n else wg t 1 j (6 + a) := fun a ha => by
    rw [e _ (by omega) (by omega)]
    by_cases c : a = i
    · rw [if_pos (by omega), if_pos c]
    · rw [if_neg (by omega), if_neg c]
  unfold KO
  rw [eo 0 (by omega) (by omega) (by omega), eo 2 (by omega) (by omega) (by omega), eo 3 (by omega) (by omega) (by omega), eo 4 (by omega) (by omega) (by omega), eo 5 (by omega) (by omega) (by omega), eo 30 (by omega) (by omega) (by omega), nm0_f W f]
  refine ⟨o1, o2, o3, fun a b ha hb z => ?_, fun a b ha hb z => ?_, fun a b ha hb => ?_, fun a ha => ?_, fun a b ha hb z hne => ?_⟩
  · rw [e6 a (by omega), e6 b (by omega)] at z
    by_cases ca : a = i
    · by_cases cb : b = i
      · omega
      · rw [if_pos ca, if_neg cb] at z
        exact absurd z.symm (n1 b hb)
    · by_cases cb : b = i
      · rw [if_neg ca, if_pos cb] at z
        exact absurd z (n1 a ha)
      · rw [if_neg ca, if_neg cb] at z
        exact o4 a b ha hb z
  · rw [eo _ (by omega) (by omega) (by omega), eo _ (by omega) (by omega) (by omega)] at z
    exact o5 a b ha hb z
  · rw [e6 a (by omega), eo _ (by omega) (by omega) (by omega)]
    by_cases ca : a = i
    · rw [if_pos ca]
      exact fun z => n2 b hb z.symm
    · rw [if_neg ca]
      exact o6 a b ha hb
  · rw [eo _ (by omega) (by omega) (by omega)]
    rcases o7 a ha with z | ⟨z1, z2⟩
    · exact .inl z
    · refine .inr ⟨z1, ?_⟩
      rcases nm0_b t m0 (wg t 1 j 0) with y | ⟨y1, y2, -⟩
      · exact absurd (o1.trans y) z1
      · rw [fIx_x (fw_x W f) W (by rw [o1]; exact y1) (by rw [o1]; exact y2)]
        exact z2
  · rw [eo _ (by omega) (by omega) (by omega)] at z hne
    rw [eo _ (by omega) (by omega) (by omega)] at z
    exact o8 a b ha hb z hne
end KOS
