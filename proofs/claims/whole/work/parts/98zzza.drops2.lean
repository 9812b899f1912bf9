/-! a patch is made: members are dropped, renamed (2) -/
section DRQ
variable {h h' h0 h1 t t' : hS} {k m m0 p : Nat} {w G j n v : Int} {r r0 : Int → Nat} {K : Nat → Int → Prop}
/-- a static goes -/
theorem drS {g : Nat} (B : BW h t K p m r) (j0 : 0 ≤ j) (j1 : j < m) (W0 : WF t 0 m0 r0) (O : KO t m0 G j) (hf : fIx t 1 j n = -1) (hg : sIx t 1 j n = (g : Int)) : ∃ h' t', c79 (kd h p j) n h = some (0, h') ∧ c281 j 31 (g : Int) 30 2 t = some t' ∧ BW h' t' K p m r ∧ kf (kd h p j) h h' ∧ fw t t' ∧ KO t' m0 G j ∧ (∀ v g : Int, 0 ≤ v → v < 12 → 0 ≤ g → g < 64 → v ≠ j ∨ g ≤ 4 → wg t' 1 v g = wg t 1 v g) := by
  obtain ⟨k, hk⟩ : ∃ k, kd h p j = k := ⟨_, rfl⟩
  obtain ⟨⟨Q, q3⟩, ⟨a1, a2, a3⟩, ⟨s1, s2, s3⟩, ⟨u1, u2, u3⟩⟩ := BW_at B j0 j1 hk
  have W := B.1.1
  have hm := W.2.1
  obtain ⟨-, gF, -⟩ := sIx_lt W j0 j1 (show sIx t 1 j n ≠ -1 by omega)
  rw [hg] at gF
  obtain ⟨F, hF⟩ : ∃ F : Nat, wg t 1 j 30 = (F : Int) := ⟨(wg t 1 j 30).toNat, by omega⟩
  obtain ⟨t', b1, b2, b3, b4, b5, b6⟩ := c281_e (h := t) (u := j) (base := 31) (many := 30) (wd := 4) (n := F) (i := g) (rows := 2) j0 (by omega) (.inr (.inl ⟨rfl, rfl, rfl, rfl⟩)) hF (by omega) (by omega)
  have k448 := Q.1
  obtain ⟨d5, d5t, d5l⟩ := KD9 Q
  obtain ⟨d6, d6t, d6l⟩ := KD10 Q
  have T := Q.2.2.1
  obtain ⟨hA, eA⟩ : ∃ hA, hA = sCI h (k + 4) (g + 1) (k + 4) g (F - 1 - g) := ⟨_, rfl⟩
  obtain ⟨hB, eB⟩ : ∃ hB, hB = sCI hA (k + 5) (g + 1) (k + 5) g (F - 1 - g) := ⟨_, rfl⟩
  obtain ⟨hD, eD⟩ : ∃ hD, hD = sI hB k 8 ((F : Int) - 1) := ⟨_, rfl⟩
  have fA : kf k h hA := by rw [eA]; exact kf_CI (by omega)
  have fB : kf k h hB := kf_tr fA (by rw [eB]; exact kf_CI (by omega))
  have fD : kf k h hD := kf_tr fB (by rw [eD]; exact kf_s0)
  have rA : ∀ x q, hR hA x q = hR h x q := fun x q => by rw [eA]; rfl
  have rB : ∀ x q, hR hB x q = hR h x q := fun x q => by rw [eB]; exact rA x q
  have rD : ∀ x q, hR hD x q = hR h x q := fun x q => by rw [eD, hR_sI]; exact rB x q
  have kA : ∀ x i, x ≠ k + 4 → hI hA x i = hI h x i := fun x i hx => by rw [eA, gap_o hx]
  have kB : ∀ x i, x ≠ k + 4 → x ≠ k + 5 → hI hB x i = hI h x i := fun x i h1 h2 => by rw [eB, gap_o h2, kA x i h1]
  have kD : ∀ x i, x ≠ k + 4 → x ≠ k + 5 → ¬ (x = k ∧ i = 8) → hI hD x i = hI h x i := fun x i h1 h2 h4 => by rw [eD, hI_sI, if_neg h4, kB x i h1 h2]
  have v1 : ∀ i, i + 1 < F → hI hD (k + 4) i = hI h (k + 4) (phi g i) := fun i hi => by
    rw [eD, hI_sI, if_neg (by omega), eB, gap_o (by omega), eA, gap_I hi (by omega)]
  have v2 : ∀ i, i + 1 < F → hI hD (k + 5) i = hI h (k + 5) (phi g i) := fun i hi => by
    rw [eD, hI_sI, if_neg (by omega), eB, gap_I hi (by omega), kA _ _ (by omega)]
  have ph : ∀ i, i + 1 < F → phi g i < F := fun i hi => by unfold phi; split <;> omega
  have row : ∀ (b : Int) (r : Nat) (i : Nat), r < 2 → b = 31 + 4 * (r : Int) → i + 1 < F → wg t' 1 j (b + i) = wg t 1 j (b + phi g i) := fun b r i hr hb hi => by
    unfold phi
    by_cases c : g ≤ i
    · rw [if_pos c, b5 r (b + i) hr (by omega) (by omega)]
      congr 1
      omega
    · rw [if_neg c]
      refine b6 j _ j0 (by omega) (by omega) (by omega) (fun z => ?_)
      obtain ⟨-, z | ⟨s, s1, s2, s3⟩⟩ := z
      · omega
      · omega
  have oth : ∀ f : Int, 0 ≤ f → f < 64 → f < 30 ∨ 39 ≤ f → wg t' 1 j f = wg t 1 j f := fun f f0 f1 hf => b6 j f j0 (by omega) f0 f1 (fun z => by
    obtain ⟨-, z | ⟨s, s1, s2, s3⟩⟩ := z <;> omega)
  have ew : ∀ v g : Int, 0 ≤ v → v < 12 → 0 ≤ g → g < 64 → v ≠ j → wg t' 1 v g = wg t 1 v g := fun v g v0 v1 g0 g1 hv => b6 v g v0 v1 g0 g1 (fun z => hv z.1)
  rw [hk]
  refine ⟨hD, t', ?_, b1, BW_m B j0 j1 hk fD b2 b3 ew (fun f f0 f1 => oth f f0 (by omega) (by omega)) ⟨kD k 0 (by omega) (by omega) (by omega), kD k 2 (by omega) (by omega) (by omega)⟩ (fun q => rD k q) (by rw [kD k 3 (by omega) (by omega) (by omega), oth 3 (by omega) (by omega) (by omega)]; exact q3) ⟨by rw [kD k 4 (by omega) (by omega) (by omega), oth 5 (by omega) (by omega) (by omega)]; exact a1, by rw [oth 5 (by omega) (by omega) (by omega)]; exact a2, fun i hi => ?_⟩ ⟨by rw [b4, eD, hI_sI, if_pos ⟨rfl, rfl⟩], by omega, fun i hi => ?_⟩ ⟨by rw [kD k 11 (by omega) (by omega) (by omega), oth 39 (by omega) (by omega) (by omega)]; exact u1, by rw [oth 39 (by omega) (by omega) (by omega)]; exact u2, fun i hi => ?_⟩, fD, b2, KO_map W0 b2 O (oth 0 (by omega) (by omega) (by omega)) (oth 2 (by omega) (by omega) (by omega)) (by rw [oth 3 (by omega) (by omega) (by omega)]; exact O.2.1) (oth 4 (by omega) (by omega) (by omega)) id (phi g) (fun _ _ z => z) phi_i (fun i hi => ?_) (fun i hi => ?_), fun v f v0 v1 f0 f1 hv => by
    by_cases z : v = j
    · rw [z]; first | exact oth f f0 (by omega) | exact oth f f0 (by omega) (by omega)
    · exact ew v f v0 v1 f0 f1 z⟩
  · unfold c79
    refine bnd (kT_s T) ?_
    refine bnd (by have := c80_w (n := n) B.1 j0 j1; rw [hk] at this; exact this) ?_
    refine bnd (kT_s T) ?_
    refine bnd (by have := c81_w (n := n) B.1 j0 j1; rw [hk] at this; exact this) ?_
    refine bnd (gR_s T) ?_
    refine bnd (gI_s T) ?_
    rw [(KD12 Q).1]
    refine bnd (by have := c29_a (n := n) B.1 j0 j1; rw [hk] at this; exact this) ?_
    rw [hf, if_pos rfl, hg, if_neg (by omega)]
    refine bnd (gR_s T) ?_
    refine bnd (gI_s T) ?_
    rw [d5]
    refine bnd ((c82_e (F := F) (g := g) d5t (by omega) (by omega) (by omega) (by omega) (by rw [s1, hF]) rfl).trans (congrArg some eA.symm)) ?_
    have TA : hT hA k = 24 := by rw [fA.2.2.1]; exact T
    refine bnd (gR_s TA) ?_
    refine bnd (gI_s TA) ?_
    rw [rA, d6, kA k 8 (by omega)]
    refine bnd ((c82_e (F := F) (g := g) (by rw [fA.2.2.1]; exact d6t) (by omega) (by rw [fA.2.2.2.1]; omega) (by omega) (by omega) (by rw [s1, hF]) rfl).trans (congrArg some eB.symm)) ?_
    have TB' : hT hB k = 24 := by rw [fB.2.2.1]; exact T
    refine bnd (gI_s TB') ?_
    rw [kB k 8 (by omega) (by omega), s1, hF, wsub_e (by omega) (by omega)]
    refine bnd ((pI_s TB').trans (congrArg some eD.symm)) rfl
  · rw [oth 5 (by omega) (by omega) (by omega)] at hi
    rw [kD _ _ (by omega) (by omega) (by omega), kD _ _ (by omega) (by omega) (by omega), kD _ _ (by omega) (by omega) (by omega), oth _ (by omega) (by omega) (by omega), oth _ (by omega) (by omega) (by omega), oth _ (by omega) (by omega) (by omega)]
    exact a3 i hi
  · rw [b4] at hi
    obtain ⟨y1, y2, y3, y4⟩ := s3 (phi g i) (by have := ph i (by omega); omega)
    rw [v1 i (by omega), v2 i (by omega), row 31 0 i (by omega) (by omega) (by omega), row 35 1 i (by omega) (by omega) (by omega)]
    exact ⟨y1, y2, y3, y4⟩
  · rw [oth 39 (by omega) (by omega) (by omega)] at hi
    rw [kD _ _ (by omega) (by omega) (by omega), rD, oth _ (by omega) (by omega) (by omega), oth _ (by omega) (by omega) (by omega)]
    exact u3 i hi
  · rw [oth 5 (by omega) (by omega) (by omega)] at hi
    exact ⟨hi, oth _ (by omega) (by omega) (by omega), oth _ (by omega) (by omega) (by omega)⟩
  · rw [b4] at hi
    exact ⟨by have := ph i (by omega); omega, row 31 0 i (by omega) (by omega) (by omega)⟩
/-- an act goes -/
theorem drA {g : Nat} (B : BW h t K p m r) (j0 : 0 ≤ j) (j1 : j < m) (W0 : WF t 0 m0 r0) (O : KO t m0 G j) (hK : ∀ x v, K x v → hT h x = 1) (hf : fIx t 1 j n = -1) (hs : sIx t 1 j n = -1) (hg : aIx t 1 j n = (g : Int)) : ∃ h' t', c79 (kd h p j) n h = some (0, h') ∧ c281 j 40 (g : Int) 39 2 t = some t' ∧ BW h' t' K p m r ∧ kf (kd h p j) h h' ∧ fw t t' ∧ KO t' m0 G j ∧ (∀ v g : Int, 0 ≤ v → v < 12 → 0 ≤ g → g < 64 → v ≠ j ∨ g ≤ 4 → wg t' 1 v g = wg t 1 v g) := by
  obtain ⟨k, hk⟩ : ∃ k, kd h p j = k := ⟨_, rfl⟩
  obtain ⟨⟨Q, q3⟩, ⟨a1, a2, a3⟩, ⟨s1, s2, s3⟩, ⟨u1, u2, u3⟩⟩ := BW_at B j0 j1 hk
  have W := B.1.1
  have hm := W.2.1
  obtain ⟨-, gF, -⟩ := aIx_lt W j0 j1 (show aIx t 1 j n ≠ -1 by omega)
  rw [hg] at gF
  obtain ⟨F, hF⟩ : ∃ F : Nat, wg t 1 j 39 = (F : Int) := ⟨(wg t 1 j 39).toNat, by omega⟩
  obtain ⟨t', b1, b2, b3, b4, b5, b6⟩ := c281_e (h := t) (u := j) (base := 40) (many := 39) (wd := 8) (n := F) (i := g) (rows := 2) j0 (by omega) (.inr (.inr ⟨rfl, rfl, rfl, rfl⟩)) hF (by omega) (by omega)
  have k448 := Q.1
  obtain ⟨d5, d5t, d5l⟩ := KD12 Q
  obtain ⟨d6, d6t, d6l⟩ := KD13 Q
  have T := Q.2.2.1
  obtain ⟨hA, eA⟩ : ∃ hA, hA = sCI h (k + 6) (g + 1) (k + 6) g (F - 1 - g) := ⟨_, rfl⟩
  obtain ⟨hB, eB⟩ : ∃ hB, hB = sCR hA (k + 7) (g + 1) (k + 7) g (F - 1 - g) := ⟨_, rfl⟩
  obtain ⟨hD, eD⟩ : ∃ hD, hD = sI hB k 11 ((F : Int) - 1) := ⟨_, rfl⟩
  have fA : kf k h hA := by rw [eA]; exact kf_CI (by omega)
  have fB : kf k h hB := kf_tr fA (by rw [eB]; exact kf_CR (by omega))
  have fD : kf k h hD := kf_tr fB (by rw [eD]; exact kf_s0)
  have rA : ∀ x q, hR hA x q = hR h x q := fun x q => by rw [eA]; rfl
  have rB : ∀ x q, x ≠ k + 7 → hR hB x q = hR h x q := fun x q hx => by rw [eB, hR_sCR, if_neg (by omega)]; exact rA x q
  have rD : ∀ x q, x ≠ k + 7 → hR hD x q = hR h x q := fun x q hx => by rw [eD, hR_sI]; exact rB x q hx
  have kA : ∀ x i, x ≠ k + 6 → hI hA x i = hI h x i := fun x i hx => by rw [eA, gap_o hx]
  have kB : ∀ x i, x ≠ k + 6 → hI hB x i = hI h x i := fun x i h1 => by rw [eB]; exact kA x i h1
  have kD : ∀ x i, x ≠ k + 6 → ¬ (x = k ∧ i = 11) → hI hD x i = hI h x i := fun x i h1 h4 => by rw [eD, hI_sI, if_neg h4, kB x i h1]
  have v1 : ∀ i, i + 1 < F → hI hD (k + 6) i = hI h (k + 6) (phi g i) := fun i hi => by
    rw [eD, hI_sI, if_neg (by omega), eB]
    show hI hA (k + 6) i = _
    rw [eA, gap_I hi (by omega)]
  have v2 : ∀ i, i + 1 < F → hR hD (k + 7) i = hR h (k + 7) (phi g i) := fun i hi => by
    rw [eD, hR_sI, eB, hR_sCR]
    unfold phi
    by_cases c : g ≤ i
    · rw [if_pos ⟨rfl, c, by omega⟩, if_pos c, rA]
      congr 1
      omega
    · rw [if_neg (by omega), if_neg c, rA]
  have ph : ∀ i, i + 1 < F → phi g i < F := fun i hi => by unfold phi; split <;> omega
  have row : ∀ (b : Int) (r : Nat) (i : Nat), r < 2 → b = 40 + 8 * (r : Int) → i + 1 < F → wg t' 1 j (b + i) = wg t 1 j (b + phi g i) := fun b r i hr hb hi => by
    unfold phi
    by_cases c : g ≤ i
    · rw [if_pos c, b5 r (b + i) hr (by omega) (by omega)]
      congr 1
      omega
    · rw [if_neg c]
      refine b6 j _ j0 (by omega) (by omega) (by omega) (fun z => ?_)
      obtain ⟨-, z | ⟨s, s1, s2, s3⟩⟩ := z
      · omega
      · omega
  have oth : ∀ f : Int, 0 ≤ f → f < 39 → wg t' 1 j f = wg t 1 j f := fun f f0 f1 => b6 j f j0 (by omega) f0 (by omega) (fun z => by
    obtain ⟨-, z | ⟨s, s1, s2, s3⟩⟩ := z <;> omega)
  have ew : ∀ v g : Int, 0 ≤ v → v < 12 → 0 ≤ g → g < 64 → v ≠ j → wg t' 1 v g = wg t 1 v g := fun v g v0 v1 g0 g1 hv => b6 v g v0 v1 g0 g1 (fun z => hv z.1)
  rw [hk]
  refine ⟨hD, t', ?_, b1, BW_m B j0 j1 hk fD b2 b3 ew (fun f f0 f1 => oth f f0 (by omega)) ⟨kD k 0 (by omega) (by omega), kD k 2 (by omega) (by omega)⟩ (fun q => rD k q (by omega)) (by rw [kD k 3 (by omega) (by omega), oth 3 (by omega) (by omega)]; exact q3) ⟨by rw [kD k 4 (by omega) (by omega), oth 5 (by omega) (by omega)]; exact a1, by rw [oth 5 (by omega) (by omega)]; exact a2, fun i hi => ?_⟩ ⟨by rw [kD k 8 (by omega) (by omega), oth 30 (by omega) (by omega)]; exact s1, by rw [oth 30 (by omega) (by omega)]; exact s2, fun i hi => ?_⟩ ⟨by rw [b4, eD, hI_sI, if_pos ⟨rfl, rfl⟩], by omega, fun i hi => ?_⟩, fD, b2, KO_row W0 b2 O (fun g g0 g1 _ => oth g g0 g1) (by omega) (by omega) (by rw [oth 3 (by omega) (by omega)]; exact O.2.1), fun v f v0 v1 f0 f1 hv => by
    by_cases z : v = j
    · rw [z]; first | exact oth f f0 (by omega) | exact oth f f0 (by omega) (by omega)
    · exact ew v f v0 v1 f0 f1 z⟩
  · unfold c79
    refine bnd (kT_s T) ?_
    refine bnd (by have := c80_w (n := n) B.1 j0 j1; rw [hk] at this; exact this) ?_
    refine bnd (kT_s T) ?_
    refine bnd (by have := c81_w (n := n) B.1 j0 j1; rw [hk] at this; exact this) ?_
    refine bnd (gR_s T) ?_
    refine bnd (gI_s T) ?_
    rw [(KD12 Q).1]
    refine bnd (by have := c29_a (n := n) B.1 j0 j1; rw [hk] at this; exact this) ?_
    rw [hf, if_pos rfl, hs, if_pos rfl, hg, if_neg (by omega)]
    refine bnd (gR_s T) ?_
    refine bnd (gI_s T) ?_
    rw [d5]
    refine bnd ((c82_e (F := F) (g := g) d5t (by omega) (by omega) (by omega) (by omega) (by rw [u1, hF]) rfl).trans (congrArg some eA.symm)) ?_
    have TA : hT hA k = 24 := by rw [fA.2.2.1]; exact T
    refine bnd (gR_s TA) ?_
    refine bnd (gR_s TA) ?_
    refine bnd (gI_s TA) ?_
    rw [rA, d6, kA k 11 (by omega), u1, hF, wadd_e (by omega) (by omega), wsub_e (x := (F : Int)) (by omega) (by omega), wsub_e (by omega) (by omega)]
    refine bnd ((cpR_n (g + 1) g (F - 1 - g) (by rw [fA.2.2.1]; exact d6t) (by rw [fA.2.2.1]; exact d6t) (by omega) (by omega) rfl (by omega) (by omega) (by rw [fA.2.2.2.1]; omega) (by rw [fA.2.2.2.1]; omega) (fun i hi => .inr ?_)).trans (congrArg some eB.symm)) ?_
    · rw [rA, fA.2.2.1]
      obtain ⟨-, y2, -⟩ := u3 (g + 1 + i) (by omega)
      exact hK _ _ y2
    have TB' : hT hB k = 24 := by rw [fB.2.2.1]; exact T
    refine bnd (gI_s TB') ?_
    rw [kB k 11 (by omega), u1, hF, wsub_e (by omega) (by omega)]
    refine bnd ((pI_s TB').trans (congrArg some eD.symm)) rfl
  · rw [oth 5 (by omega) (by omega)] at hi
    rw [kD _ _ (by omega) (by omega), kD _ _ (by omega) (by omega), kD _ _ (by omega) (by omega), oth _ (by omega) (by omega), oth _ (by omega) (by omega), oth _ (by omega) (by omega)]
    exact a3 i hi
  · rw [oth 30 (by omega) (by omega)] at hi
    rw [kD _ _ (by omega) (by omega), kD _ _ (by omega) (by omega), oth _ (by omega) (by omega), oth _ (by omega) (by omega)]
    exact s3 i hi
  · rw [b4] at hi
    obtain ⟨y1, y2, y3⟩ := u3 (phi g i) (by have := ph i (by omega); omega)
    rw [v1 i (by omega), v2 i (by omega), row 40 0 i (by omega) (by omega) (by omega), row 48 1 i (by omega) (by omega) (by omega)]
    exact ⟨y1, y2, y3⟩
/-- a field is renamed by both -/
theorem reN {g : Nat} {o : Int} (B : BW h t K p m r) (j0 : 0 ≤ j) (j1 : j < m) (W0 : WF t 0 m0 r0) (O : KO t m0 G j) (o0 : 0 ≤ o ∧ o < 40) (hg : fIx t 1 j n = (g : Int)) (q : hOw t 1 j o = false) (hk : kd h p j = k) : ∃ h' t', wI h (k + 1) 1 (g : Int) o = some h' ∧ c201 1 j (wadd 6 (g : Int)) o t = some t' ∧ BW h' t' K p m r ∧ kf k h h' ∧ fw t t' ∧ KO t' m0 G j ∧ (∀ v g : Int, 0 ≤ v → v < 12 → 0 ≤ g → g < 64 → v ≠ j ∨ g ≤ 4 → wg t' 1 v g = wg t 1 v g) := by
  obtain ⟨⟨Q, q3⟩, ⟨a1, a2, a3⟩, ⟨s1, s2, s3⟩, ⟨u1, u2, u3⟩⟩ := BW_at B j0 j1 hk
  have W := B.1.1
  have hm := W.2.1
  obtain ⟨-, gF, -⟩ := fIx_lt W j0 j1 (show fIx t 1 j n ≠ -1 by omega)
  rw [hg] at gF
  obtain ⟨d5, d5t, d5l⟩ := KD5 Q
  obtain ⟨hD, eD⟩ : ∃ hD, hD = sI h (k + 1) g o := ⟨_, rfl⟩
  obtain ⟨t', et⟩ : ∃ t', t' = wset t 1 j (6 + (g : Int)) o := ⟨_, rfl⟩
  have fD : kf k h hD := by rw [eD]; exact kf_sI (by omega)
  have b2 : fw t t' := by rw [et]; exact fw_set j0 (by omega) (by omega) (by omega)
  have b3 : wm t' 1 = wm t 1 := by rw [et, wms j0 (by omega) (by omega) (by omega)]
  have w1 : ∀ v f : Int, 0 ≤ v → v < 12 → 0 ≤ f → f < 64 → wg t' 1 v f = if v = j ∧ f = 6 + (g : Int) then o else wg t 1 v f := fun v f v0 v1 f0 f1 => by rw [et, wgs j0 (by omega) (by omega) (by omega) v0 v1 f0 f1]
  have oth : ∀ f : Int, 0 ≤ f → f < 64 → f ≠ 6 + (g : Int) → wg t' 1 j f = wg t 1 j f := fun f f0 f1 hf => by rw [w1 j f j0 (by omega) f0 f1, if_neg (by omega)]
  have ew : ∀ v g : Int, 0 ≤ v → v < 12 → 0 ≤ g → g < 64 → v ≠ j → wg t' 1 v g = wg t 1 v g := fun v f v0 v1 g0 g1 hv => by rw [w1 v f v0 v1 g0 g1, if_neg (by omega)]
  have kD : ∀ x i, ¬ (x = k + 1 ∧ i = g) → hI hD x i = hI h x i := fun x i h1 => by rw [eD, hI_sI, if_neg h1]
  have rD : ∀ x q, hR hD x q = hR h x q := fun x q => by rw [eD, hR_sI]
  refine ⟨hD, t', ?_, ?_, BW_m B j0 j1 hk fD b2 b3 ew (fun f f0 f1 => oth f f0 (by omega) (by omega)) ⟨kD k 0 (by omega), kD k 2 (by omega)⟩ (fun q => rD k q) (by rw [kD k 3 (by omega), oth 3 (by omega) (by omega) (by omega)]; exact q3) ⟨by rw [kD k 4 (by omega), oth 5 (by omega) (by omega) (by omega)]; exact a1, by rw [oth 5 (by omega) (by omega) (by omega)]; exact a2, fun i hi => ?_⟩ ⟨by rw [kD k 8 (by omega), oth 30 (by omega) (by omega) (by omega)]; exact s1, by rw [oth 30 (by omega) (by omega) (by omega)]; exact s2, fun i hi => ?_⟩ ⟨by rw [kD k 11 (by omega), oth 39 (by omega) (by omega) (by omega)]; exact u1, by rw [oth 39 (by omega) (by omega) (by omega)]; exact u2, fun i hi => ?_⟩, fD, b2, KO_ren W0 b2 O j0 (by omega) (by omega) (by omega) gF q (fun f f0 f1 => by
    rw [w1 j f j0 (by omega) f0 f1]
    by_cases c : f = 6 + (g : Int)
    · rw [if_pos ⟨rfl, c⟩, if_pos c]
    · rw [if_neg (by omega), if_neg c]), fun v f v0 v1 f0 f1 hv => by
    by_cases z : v = j
    · rw [z]; first | exact oth f f0 (by omega) | exact oth f f0 (by omega) (by omega)
    · exact ew v f v0 v1 f0 f1 z⟩
  · rw [wI_s d5t (by omega) (by omega), Int.toNat_natCast, ← eD]
  · rw [wadd_e (by omega) (by omega), c201_e (by omega) (by omega) j0 (by omega) (by omega) (by omega), ← et]
  · rw [oth 5 (by omega) (by omega) (by omega)] at hi
    obtain ⟨y1, y2, y3, y4, y5⟩ := a3 i hi
    rw [kD (k + 2) i (by omega), kD (k + 3) i (by omega), oth (14 + i) (by omega) (by omega) (by omega), oth (22 + i) (by omega) (by omega) (by omega)]
    by_cases c : i = g
    · subst c
      rw [eD, hI_sI, if_pos ⟨rfl, rfl⟩, w1 j _ j0 (by omega) (by omega) (by omega), if_pos ⟨rfl, rfl⟩]
      exact ⟨rfl, y2, y3, o0.1, o0.2⟩
    · rw [kD (k + 1) i (by omega), oth (6 + i) (by omega) (by omega) (by omega)]
      exact ⟨y1, y2, y3, y4, y5⟩
  · rw [oth 30 (by omega) (by omega) (by omega)] at hi
    rw [kD _ _ (by omega), kD _ _ (by omega), oth _ (by omega) (by omega) (by omega), oth _ (by omega) (by omega) (by omega)]
    exact s3 i hi
  · rw [oth 39 (by omega) (by omega) (by omega)] at hi
    rw [kD _ _ (by omega), rD, oth _ (by omega) (by omega) (by omega), oth _ (by omega) (by omega) (by omega)]
    exact u3 i hi
/-- a kind is touched -/
theorem toU (B : BW h t K p m r) (j0 : 0 ≤ j) (j1 : j < m) (W0 : WF t 0 m0 r0) (O : KO t m0 G j) (hk : kd h p j = k) : ∃ h' t', pI h k 24 3 1 = some h' ∧ c201 1 j 3 1 t = some t' ∧ BW h' t' K p m r ∧ kf k h h' ∧ fw t t' ∧ KO t' m0 G j ∧ (∀ v g : Int, 0 ≤ v → v < 12 → 0 ≤ g → g < 64 → wg t' 1 v g = if v = j ∧ g = 3 then 1 else wg t 1 v g) := by
  obtain ⟨⟨Q, q3⟩, ⟨a1, a2, a3⟩, ⟨s1, s2, s3⟩, ⟨u1, u2, u3⟩⟩ := BW_at B j0 j1 hk
  have W := B.1.1
  have hm := W.2.1
  obtain ⟨hD, eD⟩ : ∃ hD, hD = sI h k 3 1 := ⟨_, rfl⟩
  obtain ⟨t', et⟩ : ∃ t', t' = wset t 1 j 3 1 := ⟨_, rfl⟩
  have fD : kf k h hD := by rw [eD]; exact kf_s0
  have b2 : fw t t' := by rw [et]; exact fw_set j0 (by omega) (by omega) (by omega)
  have b3 : wm t' 1 = wm t 1 := by rw [et, wms j0 (by omega) (by omega) (by omega)]
  have w1 : ∀ v f : Int, 0 ≤ v → v < 12 → 0 ≤ f → f < 64 → wg t' 1 v f = if v = j ∧ f = 3 then 1 else wg t 1 v f := fun v f v0 v1 f0 f1 => by rw [et, wgs j0 (by omega) (by omega) (by omega) v0 v1 f0 f1]
  have oth : ∀ f : Int, 0 ≤ f → f < 64 → f ≠ 3 → wg t' 1 j f = wg t 1 j f := fun f f0 f1 hf => by rw [w1 j f j0 (by omega) f0 f1, if_neg (by omega)]
  have ew : ∀ v g : Int, 0 ≤ v → v < 12 → 0 ≤ g → g < 64 → v ≠ j → wg t' 1 v g = wg t 1 v g := fun v f v0 v1 g0 g1 hv => by rw [w1 v f v0 v1 g0 g1, if_neg (by omega)]
  have kD : ∀ x i, ¬ (x = k ∧ i = 3) → hI hD x i = hI h x i := fun x i h1 => by rw [eD, hI_sI, if_neg h1]
  have rD : ∀ x q, hR hD x q = hR h x q := fun x q => by rw [eD, hR_sI]
  have n3 : wg t' 1 j 3 = 1 := by rw [w1 j 3 j0 (by omega) (by omega) (by omega), if_pos ⟨rfl, rfl⟩]
  refine ⟨hD, t', ?_, ?_, BW_m B j0 j1 hk fD b2 b3 ew (fun f f0 f1 => oth f f0 (by omega) (by omega)) ⟨kD k 0 (by omega), kD k 2 (by omega)⟩ (fun q => rD k q) (by rw [n3, eD, hI_sI, if_pos ⟨rfl, rfl⟩]) ⟨by rw [kD k 4 (by omega), oth 5 (by omega) (by omega) (by omega)]; exact a1, by rw [oth 5 (by omega) (by omega) (by omega)]; exact a2, fun i hi => ?_⟩ ⟨by rw [kD k 8 (by omega), oth 30 (by omega) (by omega) (by omega)]; exact s1, by rw [oth 30 (by omega) (by omega) (by omega)]; exact s2, fun i hi => ?_⟩ ⟨by rw [kD k 11 (by omega), oth 39 (by omega) (by omega) (by omega)]; exact u1, by rw [oth 39 (by omega) (by omega) (by omega)]; exact u2, fun i hi => ?_⟩, fD, b2, KO_row W0 b2 O (fun g g0 g1 g3 => oth g g0 (by omega) g3) (by omega) (by omega) (.inr n3), w1⟩
  · rw [pI_s Q.2.2.1, ← eD]
  · rw [c201_e (by omega) (by omega) j0 (by omega) (by omega) (by omega), ← et]
  · rw [oth 5 (by omega) (by omega) (by omega)] at hi
    rw [kD _ _ (by omega), kD _ _ (by omega), kD _ _ (by omega), oth _ (by omega) (by omega) (by omega), oth _ (by omega) (by omega) (by omega), oth _ (by omega) (by omega) (by omega)]
    exact a3 i hi
  · rw [oth 30 (by omega) (by omega) (by omega)] at hi
    rw [kD _ _ (by omega), kD _ _ (by omega), oth _ (by omega) (by omega) (by omega), oth _ (by omega) (by omega) (by omega)]
    exact s3 i hi
  · rw [oth 39 (by omega) (by omega) (by omega)] at hi
    rw [kD _ _ (by omega), rD, oth _ (by omega) (by omega) (by omega), oth _ (by omega) (by omega) (by omega)]
    exact u3 i hi
end DRQ
