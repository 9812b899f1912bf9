/-! a patch is made: members are dropped, renamed -/
def phi (g i : Nat) : Nat := if g ≤ i then i + 1 else i
theorem phi_i {g : Nat} : ∀ a b, phi g a = phi g b → a = b := fun a b e => by
  unfold phi at e
  split at e <;> split at e <;> omega
section DRP
variable {h h' h0 h1 t t' : hS} {k m m0 p : Nat} {w G j n v : Int} {r r0 : Int → Nat} {K : Nat → Int → Prop}
theorem c82_e {x F g : Nat} {z1 z2 : Int} (T : hT h x = 1) (x8 : 8 ≤ x) (L : F ≤ hL h x) (hg : g < F) (F8 : F ≤ 100) (e1 : z1 = (F : Int)) (e2 : z2 = (g : Int)) : c82 x z1 z2 h = some (sCI h x (g + 1) x g (F - 1 - g)) := by
  subst e1 e2
  unfold c82
  rw [wadd_e (by omega) (by omega), wsub_e (x := (F : Int)) (by omega) (by omega), wsub_e (by omega) (by omega)]
  exact bnd (cpI_n (g + 1) g (F - 1 - g) T T x8 x8 (by omega) rfl (by omega) (by omega) (by omega) (.inl rfl)) rfl
theorem gap_I {x F g i : Nat} (hi : i + 1 < F) (hg : g < F) : hI (sCI h x (g + 1) x g (F - 1 - g)) x i = hI h x (phi g i) := by
  rw [hI_sCI]
  unfold phi
  by_cases c : g ≤ i
  · rw [if_pos ⟨rfl, c, by omega⟩, if_pos c]
    congr 1
    omega
  · rw [if_neg (by omega), if_neg c]
theorem gap_o {x F g y i : Nat} (hy : y ≠ x) : hI (sCI h x (g + 1) x g (F - 1 - g)) y i = hI h y i := by
  rw [hI_sCI, if_neg (by omega)]
/-- only the kind's own arrays and counts have changed -/
theorem BW_m (B : BW h t K p m r) (j0 : 0 ≤ j) (j1 : j < m) (hk : kd h p j = k) (c : kf k h h') (f : fw t t') (em : wm t' 1 = wm t 1) (ew : ∀ v g : Int, 0 ≤ v → v < 12 → 0 ≤ g → g < 64 → v ≠ j → wg t' 1 v g = wg t 1 v g) (e0 : ∀ g : Int, 0 ≤ g → g ≤ 2 → wg t' 1 j g = wg t 1 j g) (i0 : hI h' k 0 = hI h k 0 ∧ hI h' k 2 = hI h k 2) (rr : ∀ q, hR h' k q = hR h k q) (x3 : hI h' k 3 = wg t' 1 j 3)
    (x5 : hI h' k 4 = wg t' 1 j 5 ∧ (0 ≤ wg t' 1 j 5 ∧ wg t' 1 j 5 ≤ 8) ∧ ∀ i : Nat, (i : Int) < wg t' 1 j 5 → hI h' (k + 1) i = wg t' 1 j (6 + i) ∧ hI h' (k + 2) i = wg t' 1 j (14 + i) ∧ hI h' (k + 3) i = wg t' 1 j (22 + i) ∧ 0 ≤ wg t' 1 j (6 + i) ∧ wg t' 1 j (6 + i) < 40)
    (x30 : hI h' k 8 = wg t' 1 j 30 ∧ (0 ≤ wg t' 1 j 30 ∧ wg t' 1 j 30 ≤ 4) ∧ ∀ i : Nat, (i : Int) < wg t' 1 j 30 → hI h' (k + 4) i = wg t' 1 j (31 + i) ∧ hI h' (k + 5) i = wg t' 1 j (35 + i) ∧ 0 ≤ wg t' 1 j (31 + i) ∧ wg t' 1 j (31 + i) < 40)
    (x39 : hI h' k 11 = wg t' 1 j 39 ∧ (0 ≤ wg t' 1 j 39 ∧ wg t' 1 j 39 ≤ 8) ∧ ∀ i : Nat, (i : Int) < wg t' 1 j 39 → hI h' (k + 6) i = wg t' 1 j (40 + i) ∧ K (hR h' (k + 7) i) (wg t' 1 j (48 + i)) ∧ 0 ≤ wg t' 1 j (40 + i) ∧ wg t' 1 j (40 + i) < 40) : BW h' t' K p m r := by
  obtain ⟨⟨W, P2, P3, P4⟩, b1, b2, b3, b4⟩ := id B
  obtain ⟨c1, c2, c3, c4, c5⟩ := c
  have hm := W.2.1
  refine BW_j B j0 j1 (fun x hx _ => c5 x (by rw [hk] at hx; omega)) (by omega) (fun v g v0 v1 g0 g1 hv => ew v g v0 v1 g0 g1 hv) (e0 0 (by omega) (by omega)) (e0 1 (by omega) (by omega)) em (fun _ _ z => z) (fun x v hx => by rw [c1]; exact b3 x v hx) (fun hkk => ?_) ⟨x5.2.1, x30.2.1, x39.2.1⟩
  obtain ⟨Q, ⟨k1, k2, k3⟩, k4, k5, -⟩ := P3 j j0 j1
  have ek : kd h' p j = k := by rw [hkk, hk]
  rw [hk] at Q k1 k4 k5
  unfold KR XR
  rw [ek, e0 0 (by omega) (by omega), e0 1 (by omega) (by omega), e0 2 (by omega) (by omega), hkk]
  refine ⟨⟨⟨Q.1, by rw [c1]; exact Q.2.1, by rw [c3]; exact Q.2.2.1, fun e he => ?_⟩, ⟨by rw [i0.1]; exact k1, k2, k3⟩, by rw [rr]; exact k4, by rw [i0.2]; exact k5, ⟨x5.1, fun i hi => ?_⟩, ⟨x30.1, fun i hi => x30.2.2 i hi⟩, ⟨x39.1, fun i hi => x39.2.2 i hi⟩⟩, x3, fun i hi => (x5.2.2 i hi).2.2.1⟩
  · obtain ⟨a1, a2, a3⟩ := Q.2.2.2 e he
    exact ⟨by rw [rr]; exact a1, by rw [c3]; exact a2, by rw [c4]; exact a3⟩
  · obtain ⟨y1, y2, -, y4⟩ := x5.2.2 i hi
    exact ⟨y1, y2, y4⟩
/-- the kind's rows, told of both -/
theorem BW_at (B : BW h t K p m r) (j0 : 0 ≤ j) (j1 : j < m) (hk : kd h p j = k) : (KD h k ∧ hI h k 3 = wg t 1 j 3) ∧ (hI h k 4 = wg t 1 j 5 ∧ (0 ≤ wg t 1 j 5 ∧ wg t 1 j 5 ≤ 8) ∧ ∀ i : Nat, (i : Int) < wg t 1 j 5 → hI h (k + 1) i = wg t 1 j (6 + i) ∧ hI h (k + 2) i = wg t 1 j (14 + i) ∧ hI h (k + 3) i = wg t 1 j (22 + i) ∧ 0 ≤ wg t 1 j (6 + i) ∧ wg t 1 j (6 + i) < 40) ∧ (hI h k 8 = wg t 1 j 30 ∧ (0 ≤ wg t 1 j 30 ∧ wg t 1 j 30 ≤ 4) ∧ ∀ i : Nat, (i : Int) < wg t 1 j 30 → hI h (k + 4) i = wg t 1 j (31 + i) ∧ hI h (k + 5) i = wg t 1 j (35 + i) ∧ 0 ≤ wg t 1 j (31 + i) ∧ wg t 1 j (31 + i) < 40) ∧ (hI h k 11 = wg t 1 j 39 ∧ (0 ≤ wg t 1 j 39 ∧ wg t 1 j 39 ≤ 8) ∧ ∀ i : Nat, (i : Int) < wg t 1 j 39 → hI h (k + 6) i = wg t 1 j (40 + i) ∧ K (hR h (k + 7) i) (wg t 1 j (48 + i)) ∧ 0 ≤ wg t 1 j (40 + i) ∧ wg t 1 j (40 + i) < 40) := by
  obtain ⟨⟨W, P2, P3, P4⟩, b1, b2, b3, b4⟩ := B
  obtain ⟨Q, -, -, -, k5, k6, k7⟩ := P3 j j0 j1
  obtain ⟨y1, y2⟩ := b4 j j0 j1
  obtain ⟨-, -, w3, w4, w5⟩ := W.2.2 j j0 j1
  rw [hk] at Q k5 k6 k7 y1 y2
  refine ⟨⟨Q, y1⟩, ⟨k5.1, w3, fun i hi => ?_⟩, ⟨k6.1, w4, fun i hi => ?_⟩, ⟨k7.1, w5, fun i hi => ?_⟩⟩
  · obtain ⟨z1, z2, z3⟩ := k5.2 i hi
    exact ⟨z1, z2, y2 i hi, z3⟩
  · exact k6.2 i hi
  · exact k7.2 i hi
theorem kf_CI {k o g s n : Nat} {x : Nat} (ho : o ≤ 7) : kf k h (sCI h x s (k + o) g n) := ⟨rfl, rfl, rfl, rfl, fun y hy => ⟨fun j => by rw [hI_sCI, if_neg (by omega)], fun _ => rfl, rfl, rfl⟩⟩
theorem kf_CR {k o g s n : Nat} {x : Nat} (ho : o ≤ 7) : kf k h (sCR h x s (k + o) g n) := ⟨rfl, rfl, rfl, rfl, fun y hy => ⟨fun _ => rfl, fun j => by rw [hR_sCR, if_neg (by omega)], rfl, rfl⟩⟩
/-- a field goes -/
theorem drF {g : Nat} (B : BW h t K p m r) (j0 : 0 ≤ j) (j1 : j < m) (W0 : WF t 0 m0 r0) (O : KO t m0 G j) (hg : fIx t 1 j n = (g : Int)) : ∃ h' t', c79 (kd h p j) n h = some (0, h') ∧ c281 j 6 (g : Int) 5 3 t = some t' ∧ BW h' t' K p m r ∧ kf (kd h p j) h h' ∧ fw t t' ∧ KO t' m0 G j ∧ (∀ v g : Int, 0 ≤ v → v < 12 → 0 ≤ g → g < 64 → v ≠ j ∨ g ≤ 4 → wg t' 1 v g = wg t 1 v g) := by
  obtain ⟨k, hk⟩ : ∃ k, kd h p j = k := ⟨_, rfl⟩
  obtain ⟨⟨Q, q3⟩, ⟨a1, a2, a3⟩, ⟨s1, s2, s3⟩, ⟨u1, u2, u3⟩⟩ := BW_at B j0 j1 hk
  have W := B.1.1
  have hm := W.2.1
  obtain ⟨-, gF, -⟩ := fIx_lt W j0 j1 (show fIx t 1 j n ≠ -1 by omega)
  rw [hg] at gF
  obtain ⟨F, hF⟩ : ∃ F : Nat, wg t 1 j 5 = (F : Int) := ⟨(wg t 1 j 5).toNat, by omega⟩
  obtain ⟨t', b1, b2, b3, b4, b5, b6⟩ := c281_e (h := t) (u := j) (base := 6) (many := 5) (wd := 8) (n := F) (i := g) (rows := 3) j0 (by omega) (.inl ⟨rfl, rfl, rfl, rfl⟩) hF (by omega) (by omega)
  have k448 := Q.1
  obtain ⟨d5, d5t, d5l⟩ := KD5 Q
  obtain ⟨d6, d6t, d6l⟩ := KD6 Q
  obtain ⟨d7, d7t, d7l⟩ := KD7 Q
  have T := Q.2.2.1
  obtain ⟨hA, eA⟩ : ∃ hA, hA = sCI h (k + 1) (g + 1) (k + 1) g (F - 1 - g) := ⟨_, rfl⟩
  obtain ⟨hB, eB⟩ : ∃ hB, hB = sCI hA (k + 2) (g + 1) (k + 2) g (F - 1 - g) := ⟨_, rfl⟩
  obtain ⟨hC, eC⟩ : ∃ hC, hC = sCI hB (k + 3) (g + 1) (k + 3) g (F - 1 - g) := ⟨_, rfl⟩
  obtain ⟨hD, eD⟩ : ∃ hD, hD = sI hC k 4 ((F : Int) - 1) := ⟨_, rfl⟩
  have fA : kf k h hA := by rw [eA]; exact kf_CI (by omega)
  have fB : kf k h hB := kf_tr fA (by rw [eB]; exact kf_CI (by omega))
  have fC : kf k h hC := kf_tr fB (by rw [eC]; exact kf_CI (by omega))
  have fD : kf k h hD := kf_tr fC (by rw [eD]; exact kf_s0)
  have rA : ∀ x q, hR hA x q = hR h x q := fun x q => by rw [eA]; rfl
  have rB : ∀ x q, hR hB x q = hR h x q := fun x q => by rw [eB]; exact rA x q
  have rC : ∀ x q, hR hC x q = hR h x q := fun x q => by rw [eC]; exact rB x q
  have rD : ∀ x q, hR hD x q = hR h x q := fun x q => by rw [eD, hR_sI]; exact rC x q
  have kA : ∀ x i, x ≠ k + 1 → hI hA x i = hI h x i := fun x i hx => by rw [eA, gap_o hx]
  have kB : ∀ x i, x ≠ k + 1 → x ≠ k + 2 → hI hB x i = hI h x i := fun x i h1 h2 => by rw [eB, gap_o h2, kA x i h1]
  have kC : ∀ x i, x ≠ k + 1 → x ≠ k + 2 → x ≠ k + 3 → hI hC x i = hI h x i := fun x i h1 h2 h3 => by rw [eC, gap_o h3, kB x i h1 h2]
  have kD : ∀ x i, x ≠ k + 1 → x ≠ k + 2 → x ≠ k + 3 → ¬ (x = k ∧ i = 4) → hI hD x i = hI h x i := fun x i h1 h2 h3 h4 => by rw [eD, hI_sI, if_neg h4, kC x i h1 h2 h3]
  have v1 : ∀ i, i + 1 < F → hI hD (k + 1) i = hI h (k + 1) (phi g i) := fun i hi => by
    rw [eD, hI_sI, if_neg (by omega), eC, gap_o (by omega), eB, gap_o (by omega), eA, gap_I hi (by omega)]
  have v2 : ∀ i, i + 1 < F → hI hD (k + 2) i = hI h (k + 2) (phi g i) := fun i hi => by
    rw [eD, hI_sI, if_neg (by omega), eC, gap_o (by omega), eB, gap_I hi (by omega), kA _ _ (by omega)]
  have v3 : ∀ i, i + 1 < F → hI hD (k + 3) i = hI h (k + 3) (phi g i) := fun i hi => by
    rw [eD, hI_sI, if_neg (by omega), eC, gap_I hi (by omega), kB _ _ (by omega) (by omega)]
  have ph : ∀ i, i + 1 < F → phi g i < F := fun i hi => by unfold phi; split <;> omega
  have row : ∀ (b : Int) (r : Nat) (i : Nat), r < 3 → b = 6 + 8 * (r : Int) → i + 1 < F → wg t' 1 j (b + i) = wg t 1 j (b + phi g i) := fun b r i hr hb hi => by
    unfold phi
    by_cases c : g ≤ i
    · rw [if_pos c, b5 r (b + i) hr (by omega) (by omega)]
      congr 1
      omega
    · rw [if_neg c]
      refine b6 j _ j0 (by omega) (by omega) (by omega) (fun z => ?_)
      obtain ⟨-, z | ⟨s, s1, s2, s3⟩⟩ := z
      · omega
      · omega
  have oth : ∀ f : Int, 0 ≤ f → f < 64 → f < 5 ∨ 30 ≤ f → wg t' 1 j f = wg t 1 j f := fun f f0 f1 hf => b6 j f j0 (by omega) f0 f1 (fun z => by
    obtain ⟨-, z | ⟨s, s1, s2, s3⟩⟩ := z <;> omega)
  have ew : ∀ v g : Int, 0 ≤ v → v < 12 → 0 ≤ g → g < 64 → v ≠ j → wg t' 1 v g = wg t 1 v g := fun v g v0 v1 g0 g1 hv => b6 v g v0 v1 g0 g1 (fun z => hv z.1)
  rw [hk]
  refine ⟨hD, t', ?_, b1, BW_m B j0 j1 hk fD b2 b3 ew (fun f f0 f1 => oth f f0 (by omega) (by omega)) ⟨kD k 0 (by omega) (by omega) (by omega) (by omega), kD k 2 (by omega) (by omega) (by omega) (by omega)⟩ (fun q => rD k q) (by rw [kD k 3 (by omega) (by omega) (by omega) (by omega), oth 3 (by omega) (by omega) (by omega)]; exact q3) ⟨by rw [b4, eD, hI_sI, if_pos ⟨rfl, rfl⟩], by omega, fun i hi => ?_⟩ ⟨by rw [kD k 8 (by omega) (by omega) (by omega) (by omega), oth 30 (by omega) (by omega) (by omega)]; exact s1, by rw [oth 30 (by omega) (by omega) (by omega)]; exact s2, fun i hi => ?_⟩ ⟨by rw [kD k 11 (by omega) (by omega) (by omega) (by omega), oth 39 (by omega) (by omega) (by omega)]; exact u1, by rw [oth 39 (by omega) (by omega) (by omega)]; exact u2, fun i hi => ?_⟩, fD, b2, KO_map W0 b2 O (oth 0 (by omega) (by omega) (by omega)) (oth 2 (by omega) (by omega) (by omega)) (by rw [oth 3 (by omega) (by omega) (by omega)]; exact O.2.1) (oth 4 (by omega) (by omega) (by omega)) (phi g) id phi_i (fun _ _ z => z) (fun i hi => ?_) (fun i hi => ?_), fun v f v0 v1 f0 f1 hv => by
    by_cases z : v = j
    · rw [z]; first | exact oth f f0 (by omega) | exact oth f f0 (by omega) (by omega)
    · exact ew v f v0 v1 f0 f1 z⟩
  · unfold c79
    refine bnd (kT_s T) ?_
    refine bnd (by have := c80_w (n := n) B.1 j0 j1; rw [hk] at this; exact this) ?_
    refine bnd (kT_s T) ?_
    refine bnd (by have := c81_w (n := n) B.1 j0 j1; rw [hk] at this; exact this) ?_
    refine bnd (gR_s T) ?_
    refine bnd (gI_s T) ?_
    rw [(KD12 Q).1]
    refine bnd (by have := c29_a (n := n) B.1 j0 j1; rw [hk] at this; exact this) ?_
    rw [hg, if_neg (by omega)]
    refine bnd (gR_s T) ?_
    refine bnd (gI_s T) ?_
    rw [d5]
    refine bnd ((c82_e (F := F) (g := g) d5t (by omega) (by omega) (by omega) (by omega) (by rw [a1, hF]) rfl).trans (congrArg some eA.symm)) ?_
    have TA : hT hA k = 24 := by rw [fA.2.2.1]; exact T
    refine bnd (gR_s TA) ?_
    refine bnd (gI_s TA) ?_
    rw [rA, d6, kA k 4 (by omega)]
    refine bnd ((c82_e (F := F) (g := g) (by rw [fA.2.2.1]; exact d6t) (by omega) (by rw [fA.2.2.2.1]; omega) (by omega) (by omega) (by rw [a1, hF]) rfl).trans (congrArg some eB.symm)) ?_
    have TB' : hT hB k = 24 := by rw [fB.2.2.1]; exact T
    refine bnd (gR_s TB') ?_
    refine bnd (gI_s TB') ?_
    rw [rB, d7, kB k 4 (by omega) (by omega)]
    refine bnd ((c82_e (F := F) (g := g) (by rw [fB.2.2.1]; exact d7t) (by omega) (by rw [fB.2.2.2.1]; omega) (by omega) (by omega) (by rw [a1, hF]) rfl).trans (congrArg some eC.symm)) ?_
    have TC : hT hC k = 24 := by rw [fC.2.2.1]; exact T
    refine bnd (gI_s TC) ?_
    rw [kC k 4 (by omega) (by omega) (by omega), a1, hF, wsub_e (by omega) (by omega)]
    refine bnd ((pI_s TC).trans (congrArg some eD.symm)) rfl
  · rw [b4] at hi
    obtain ⟨y1, y2, y3, y4, y5⟩ := a3 (phi g i) (by have := ph i (by omega); omega)
    rw [v1 i (by omega), v2 i (by omega), v3 i (by omega), row 6 0 i (by omega) (by omega) (by omega), row 14 1 i (by omega) (by omega) (by omega), row 22 2 i (by omega) (by omega) (by omega)]
    exact ⟨y1, y2, y3, y4, y5⟩
  · rw [oth 30 (by omega) (by omega) (by omega)] at hi
    rw [kD _ _ (by omega) (by omega) (by omega) (by omega), kD _ _ (by omega) (by omega) (by omega) (by omega), oth _ (by omega) (by omega) (by omega), oth _ (by omega) (by omega) (by omega)]
    exact s3 i hi
  · rw [oth 39 (by omega) (by omega) (by omega)] at hi
    rw [kD _ _ (by omega) (by omega) (by omega) (by omega), rD, oth _ (by omega) (by omega) (by omega), oth _ (by omega) (by omega) (by omega)]
    exact u3 i hi
  · rw [b4] at hi
    exact ⟨by have := ph i (by omega); omega, row 6 0 i (by omega) (by omega) (by omega), row 22 2 i (by omega) (by omega) (by omega)⟩
  · rw [oth 30 (by omega) (by omega) (by omega)] at hi
    exact ⟨hi, oth _ (by omega) (by omega) (by omega)⟩
end DRP
