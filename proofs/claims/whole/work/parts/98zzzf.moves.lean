/-! a patch is made: a kind is moved; the members of a change, one by one -/
/-- the steps are taken one by one; why, at which step -/
def tkR (P : Nat) : List Nat → hS → Int × Nat × hS → Prop
  | [], h, o => o = (0, 0, h)
  | x :: r, h, o => ∃ (why : Int) (h1 : hS), c147 P x h = some (why, h1) ∧ (∀ y, y < P → sm h h1 y) ∧ hT h1 P = 18 ∧ ((why = 0 ∧ tkR P r h1 o) ∨ (why ≠ 0 ∧ o = (why, x, h1)))
/-- what isn't changed is as it was -/
def UTq (t : hS) (m0 m : Nat) : Prop := ∀ j : Int, 0 ≤ j → j < m → wg t 1 j 3 = 0 → (0 ≤ wg t 1 j 4 ∧ wg t 1 j 4 < m0) ∧ (wg t 1 j 5 = wg t 0 (wg t 1 j 4) 5 ∧ ∀ i : Nat, (i : Int) < wg t 1 j 5 → wg t 1 j (6 + i) = wg t 0 (wg t 1 j 4) (6 + i)) ∧ ((wg t 1 j 1 = -1 ∧ wg t 0 (wg t 1 j 4) 1 = -1) ∨ (wg t 1 j 1 ≠ -1 ∧ wg t 1 (wg t 1 j 1) 4 = wg t 0 (wg t 1 j 4) 1))
def eL (F : Int → Int → Int → hS → Option (Int × hS)) (ch j : Int) (a : Int) (t : hS) : Option ((Int × hS) ⊕ (hS ⊕ (Int × hS))) := if a = (-1) then some (.inr (.inl t)) else (F a j ch t).bind (fun v => if v.1 = 0 then some (.inr (.inr (0, v.2))) else (c257 a 4 v.2).bind (fun w => some (.inl (w, v.2))))
section MVE
variable {h h' h0 h1 t t' t0 t1 : hS} {k m m0 P x cd tx i N0 lo : Nat} {w G j n v ch s o c kn u : Int} {r r0 : Int → Nat} {K : Nat → Int → Prop}
theorem WF0_f (W : WF t 0 m0 r0) (f : fw t t') : WF t' 0 m0 r0 := by
  obtain ⟨w1, w2, w3⟩ := W
  refine ⟨by rw [fw_m f (.inl rfl)]; exact w1, w2, fun k k0 k1 => ?_⟩
  rw [fw_w f (.inl rfl) k0 (by omega) (by omega) (by omega), fw_w f (.inl rfl) k0 (by omega) (by omega) (by omega), fw_w f (.inl rfl) k0 (by omega) (by omega) (by omega), fw_w f (.inl rfl) k0 (by omega) (by omega) (by omega)]
  exact w3 k k0 k1
theorem iU_cg {w w' : Int} (W : WF t w m r) (e : ∀ v : Int, 0 ≤ v → v < m → wg t' w' v 1 = wg t w v 1) (hu : u = -1 ∨ (0 ≤ u ∧ u < m)) : iU t' w' j u = iU t w j u := by
  unfold iU
  refine clb_eq (ok := fun v => 0 ≤ v ∧ v < m) (fun v hv => ⟨rfl, e v hv.1 hv.2, ?_⟩) 13 u hu
  rcases WF_ok W v hv with z | z
  · exact .inl z
  · exact .inr z.1
/-- a changed kind is edited -/
theorem UT_e (U : UTq t m0 m) (W : WF t 1 m r) (W0 : WF t 0 m0 r0) (f : fw t t') (hj : wg t' 1 j 3 = 1) (e : ∀ v g : Int, 0 ≤ v → v < 12 → 0 ≤ g → g < 39 → v ≠ j ∨ g = 4 → wg t' 1 v g = wg t 1 v g) : UTq t' m0 m := fun v v0 v1 h3 => by
  have hm := W.2.1
  have hm0 := W0.2.1
  have hv : v ≠ j := fun z => by rw [z] at h3; omega
  rw [e v 3 v0 (by omega) (by omega) (by omega) (.inl hv)] at h3
  obtain ⟨u1, ⟨u2, u3⟩, u4⟩ := U v v0 v1 h3
  obtain ⟨-, w2, w3, -, -⟩ := W.2.2 v v0 v1
  rw [e v 4 v0 (by omega) (by omega) (by omega) (.inl hv), e v 5 v0 (by omega) (by omega) (by omega) (.inl hv), e v 1 v0 (by omega) (by omega) (by omega) (.inl hv), fw_w f (.inl rfl) u1.1 (by omega) (by omega) (by omega), fw_w f (.inl rfl) u1.1 (by omega) (by omega) (by omega)]
  refine ⟨u1, ⟨u2, fun i hi => ?_⟩, ?_⟩
  · rw [e v _ v0 (by omega) (by omega) (by omega) (.inl hv), fw_w f (.inl rfl) u1.1 (by omega) (by omega) (by omega)]
    exact u3 i hi
  · rcases u4 with z | ⟨z1, z2⟩
    · exact .inl z
    · refine .inr ⟨z1, ?_⟩
      have : 0 ≤ wg t 1 v 1 ∧ wg t 1 v 1 < m := by
        rcases w2 with y | y
        · exact absurd y z1
        · exact ⟨y.1, y.2.1⟩
      rw [e _ 4 this.1 (by omega) (by omega) (by omega) (.inr rfl)]
      exact z2
/-- what is above it is another -/
theorem moV (B : B1 h t K P m r m0 G) (W0 : WF t 0 m0 r0) (j0 : 0 ≤ j) (j1 : j < m) (hu : u = -1 ∨ (0 ≤ u ∧ u < m)) (q : iU t 1 j u = -1) : ∃ t' r', c201 1 j 1 u t = some t' ∧ B1 (sR h (kd h P j) 1 (kd h P u)) t' K P m r' m0 G ∧ fw t t' := by
  obtain ⟨B0, Tz, Os⟩ := id B
  obtain ⟨⟨W, ⟨p1, p2, p3, p4, p5, p6, p7⟩, P3, P4⟩, b1, b2, b3, b4⟩ := id B0
  have hm := W.2.1
  obtain ⟨t', et⟩ : ∃ t', t' = wset t 1 j 1 u := ⟨_, rfl⟩
  have f : fw t t' := by rw [et]; exact fw_set j0 (by omega) (by omega) (by omega)
  have em : wm t' 1 = wm t 1 := by rw [et, wms j0 (by omega) (by omega) (by omega)]
  have w1 : ∀ v g : Int, 0 ≤ v → v < 12 → 0 ≤ g → g < 64 → wg t' 1 v g = if v = j ∧ g = 1 then u else wg t 1 v g := fun v g v0 v1 g0 g1 => by rw [et, wgs j0 (by omega) (by omega) (by omega) v0 v1 g0 g1]
  have wo : ∀ v g : Int, 0 ≤ v → v < 12 → 0 ≤ g → g < 64 → g ≠ 1 → wg t' 1 v g = wg t 1 v g := fun v g v0 v1 g0 g1 hg => by rw [w1 v g v0 v1 g0 g1, if_neg (by omega)]
  obtain ⟨k, hk⟩ : ∃ k, kd h P j = k := ⟨_, rfl⟩
  have kj := b1 j j0 j1
  rw [hk] at kj
  obtain ⟨U, hU⟩ : ∃ U, kd h P u = U := ⟨_, rfl⟩
  obtain ⟨h', eh⟩ : ∃ h', h' = sR h k 1 U := ⟨_, rfl⟩
  have rr : ∀ x i, ¬ (x = k ∧ i = 1) → hR h' x i = hR h x i := fun x i hx => by rw [eh, hR_sR, if_neg hx]
  have ii : ∀ x i, hI h' x i = hI h x i := fun x i => by rw [eh, hI_sR]
  have tt : hT h' = hT h := by rw [eh]; rfl
  have ll : hL h' = hL h := by rw [eh]; rfl
  have nn : hN h' = hN h := by rw [eh]; rfl
  have kk : ∀ v : Int, kd h' P v = kd h P v := fun v => by
    unfold kd
    split
    · rfl
    · exact rr _ _ (by omega)
  have up : ∀ v : Int, 0 ≤ v → v < m → v ≠ j → iU t 1 j v = iU t 1 j (wg t 1 v 1) := fun v v0 v1 hv => by rw [iU_st W v0 v1, if_neg hv]
  obtain ⟨r', hr'⟩ := RKx (m := m) hm (fun v => wg t' 1 v 1) (fun v => r v + if iU t 1 j v = -1 then 0 else 13) (fun v v0 v1 => by
    show wg t' 1 v 1 = -1 ∨ (0 ≤ wg t' 1 v 1 ∧ wg t' 1 v 1 < m ∧ (r (wg t' 1 v 1) + if iU t 1 j (wg t' 1 v 1) = -1 then 0 else 13) < r v + if iU t 1 j v = -1 then 0 else 13)
    rw [w1 v 1 v0 (by omega) (by omega) (by omega)]
    by_cases c : v = j
    · rw [if_pos ⟨c, rfl⟩]
      rcases hu with z | ⟨z0, z1⟩
      · exact .inl z
      · refine .inr ⟨z0, z1, ?_⟩
        have := (W.2.2 u z0 z1).1
        rw [if_pos q, c, iU_st W j0 j1, if_pos rfl, if_neg (by omega)]
        omega
    · rw [if_neg (by omega)]
      rcases WF_ok W v ⟨v0, v1⟩ with z | ⟨z0, z1⟩
      · exact .inl z
      · refine .inr ⟨z0.1, z0.2, ?_⟩
        rw [up v v0 v1 c]
        omega)
  rw [hk, hU, ← eh]
  refine ⟨t', r', by rw [c201_e (by omega) (by omega) j0 (by omega) (by omega) (by omega), ← et], ⟨⟨⟨⟨by rw [em]; exact W.1, hm, fun v v0 v1 => ?_⟩, ⟨p1, by rw [nn]; exact p2, by rw [tt]; exact p3, by rw [rr P 0 (by omega)]; exact p4, by rw [tt]; exact p5, by rw [ll]; exact p6, by rw [ii]; exact p7⟩, fun v v0 v1 => ?_, fun a b a0 a1 b0 b1' => ?_⟩, fun v v0 v1 => by rw [kk]; exact b1 v v0 v1, fun a b a0 ab b1' => by rw [kk, kk]; exact b2 a b a0 ab b1', fun x z hx => ?_, fun v v0 v1 => ?_⟩, fun v v0 v1 n hn => ?_, fun v v0 v1 => ?_⟩, f⟩
  · obtain ⟨-, -, w3, w4, w5⟩ := W.2.2 v v0 v1
    obtain ⟨x1, x2⟩ := hr' v v0 v1
    rw [wo v 5 v0 (by omega) (by omega) (by omega) (by omega), wo v 30 v0 (by omega) (by omega) (by omega) (by omega), wo v 39 v0 (by omega) (by omega) (by omega) (by omega)]
    exact ⟨x1, x2, w3, w4, w5⟩
  · obtain ⟨Q, k1, k2, k3, k4, k5, k6⟩ := P3 v v0 v1
    obtain ⟨-, -, w3, w4, w5⟩ := W.2.2 v v0 v1
    have kb := b1 v v0 v1
    unfold KR
    rw [kk, ii, ii, ii, ii, ii, wo v 0 v0 (by omega) (by omega) (by omega) (by omega), wo v 2 v0 (by omega) (by omega) (by omega) (by omega), wo v 5 v0 (by omega) (by omega) (by omega) (by omega), wo v 30 v0 (by omega) (by omega) (by omega) (by omega), wo v 39 v0 (by omega) (by omega) (by omega) (by omega), w1 v 1 v0 (by omega) (by omega) (by omega)]
    refine ⟨⟨Q.1, by rw [nn]; exact Q.2.1, by rw [tt]; exact Q.2.2.1, fun e he => ?_⟩, k1, ?_, k3, ⟨k4.1, fun i hi => ?_⟩, ⟨k5.1, fun i hi => ?_⟩, ⟨k6.1, fun i hi => ?_⟩⟩
    · have h5 : e.1 ≠ 1 := by
        have : ∀ e ∈ karL, e.1 ≠ 1 := by decide
        exact this e he
      obtain ⟨a1, a2, a3⟩ := Q.2.2.2 e he
      exact ⟨by rw [rr _ _ (by omega)]; exact a1, by rw [tt]; exact a2, by rw [ll]; exact a3⟩
    · by_cases c : v = j
      · rw [if_pos ⟨c, rfl⟩, c, hk, eh, hR_sR, if_pos ⟨rfl, rfl⟩, ← eh, kk, hU]
      · have ne : kd h P v ≠ k := fun z => c (kd_in B0 j0 j1 (.inr ⟨v0, v1⟩) (z.trans hk.symm))
        rw [if_neg (by omega), rr _ _ (fun z => ne z.1), kk]
        exact k2
    · rw [ii, ii, wo v _ v0 (by omega) (by omega) (by omega) (by omega), wo v _ v0 (by omega) (by omega) (by omega) (by omega)]
      exact k4.2 i hi
    · rw [ii, ii, wo v _ v0 (by omega) (by omega) (by omega) (by omega), wo v _ v0 (by omega) (by omega) (by omega) (by omega)]
      exact k5.2 i hi
    · have ne : ∀ o, o = 7 → ¬ (kd h P v + o = k ∧ i = 1) := fun o ho z => by
        by_cases c : v = j
        · subst c; omega
        · by_cases c2 : v < j
          · have := b2 v j v0 c2 j1; omega
          · have := b2 j v j0 (by omega) v1; omega
      rw [ii, rr _ _ (ne 7 rfl), wo v _ v0 (by omega) (by omega) (by omega) (by omega), wo v _ v0 (by omega) (by omega) (by omega) (by omega)]
      exact k6.2 i hi
  · rw [wo a 0 a0 (by omega) (by omega) (by omega) (by omega), wo b 0 b0 (by omega) (by omega) (by omega) (by omega)]
    exact P4 a b a0 a1 b0 b1'
  · obtain ⟨x1, x2, x3⟩ := b3 x z hx
    exact ⟨by rw [nn]; exact x1, x2, fun v v0 v1 => by rw [kk]; exact x3 v v0 v1⟩
  · obtain ⟨y1, y2⟩ := b4 v v0 v1
    obtain ⟨-, -, w3, -, -⟩ := W.2.2 v v0 v1
    unfold XR
    rw [kk, ii, wo v 3 v0 (by omega) (by omega) (by omega) (by omega), wo v 5 v0 (by omega) (by omega) (by omega) (by omega)]
    refine ⟨y1, fun i hi => ?_⟩
    rw [ii, wo v _ v0 (by omega) (by omega) (by omega) (by omega)]
    exact y2 i hi
  · have ne : ∀ o, o = 9 ∨ o = 11 → kd h P v + o ≠ k := fun o ho z => by
      by_cases c : v = j
      · subst c; omega
      · by_cases c2 : v < j
        · have := b2 v j v0 c2 j1; omega
        · have := b2 j v j0 (by omega) v1; omega
    have n9 := ne 9 (.inl rfl)
    have n11 := ne 11 (.inr rfl)
    rw [kk, ii, rr _ _ (fun z => n9 z.1), rr _ _ (fun z => n11 z.1)]
    exact Tz v v0 v1 n hn
  · obtain ⟨-, -, w3, w4, -⟩ := W.2.2 v v0 v1
    exact KO_mv W0 f (Os v v0 v1) (fun g g0 g1 hg => wo v g v0 (by omega) g0 (by omega) hg) w3.2 w4.2
theorem bs_o {o : Option (Int × hS)} : o.bind (fun v => some (v.1, v.2)) = o := by cases o <;> rfl
theorem nmx_at (B : BW h t K P m r) (j0 : 0 ≤ j) (j1 : j < m) (hn : wg t 1 j 0 = n) : nmx t m n = j := by
  rcases nmx_b (hr := t) (m := m) n with e | ⟨h0, h1, h2⟩
  · have := ix_none (show ix (fun j : Nat => wg t 1 (j : Int) 0) n m = -1 from e) j.toNat (by omega)
    rw [show ((j.toNat : Nat) : Int) = j by omega] at this
    exact absurd hn this
  · exact B.1.2.2.2 _ _ h0 h1 j0 j1 (by rw [h2, hn])
/-- a step of a member goes to its kind -/
theorem c147_m (B : BW h t K P m r) (S : SPc h x s c kn n o cd) (hs : s = 202 ∨ s = 203 ∨ s = 204 ∨ s = 205 ∨ s = 251 ∨ s = 219 ∨ s = 220) (j0 : 0 ≤ j) (j1 : j < m) (hn : wg t 1 j 0 = kn) : c147 P x h = c75 (kd h P j) x h := by
  obtain ⟨q22, s0, s1, s2, s3, s4, s5⟩ := S
  have p3 := B.1.2.1.2.2.1
  have k8 := kd_8 B.1 j0 j1
  have T := (B.1.2.2.1 j j0 j1).1.2.2.1
  have ej : c147_j97 x (kd h P j) h = c75 (kd h P j) x h := by
    unfold c147_j97
    refine (bnd (kT_s T) rfl).trans ?_
    exact bs_o
  unfold c147
  refine (bnd (gI_s q22) rfl).trans ?_
  rw [s0, if_neg (by omega)]
  refine (bnd (gI_s q22) rfl).trans ?_
  rw [s2]
  refine (bnd (kT_s p3) rfl).trans ?_
  refine (bnd (nmx_k B.1 kn) rfl).trans ?_
  rw [nmx_at B j0 j1 hn]
  refine (bnd (hnul_8 (by omega)) rfl).trans ?_
  rw [if_neg (by decide)]
  refine (bnd (gI_s q22) rfl).trans ?_
  rw [s0]
  rcases hs with e | e | e | e | e | e | e
  · rw [if_pos (by omega)]; exact ej
  · rw [if_pos (by omega)]; exact ej
  · rw [if_pos (by omega)]; exact ej
  · rw [if_pos (by omega)]; exact ej
  · rw [if_pos (by omega)]; exact ej
  · rw [if_neg (by omega), if_neg (by omega), if_neg (by omega), if_neg (by omega), if_pos e]; exact ej
  · rw [if_neg (by omega), if_neg (by omega), if_neg (by omega), if_neg (by omega), if_neg (by omega), if_pos e]; exact ej
theorem SPc_s (S : SPc h0 x s c kn n o cd) (e : sm h0 h x) : SPc h x s c kn n o cd := by
  obtain ⟨q22, s0, s1, s2, s3, s4, s5⟩ := S
  exact ⟨by rw [e.2.2.1]; exact q22, by rw [e.1]; exact s0, by rw [e.1]; exact s1, by rw [e.1]; exact s2, by rw [e.1]; exact s3, by rw [e.1]; exact s4, by rw [e.2.1]; exact s5⟩
theorem ntx_f {a b : Nat} (f : fw t t') : ntx t' tx a b = ntx t tx a b := f.2 399 _ (by omega)
/-- what the codes of a step are told as -/
def HKs (K : Nat → Int → Prop) (h0 t0 : hS) (P tx N0 : Nat) (y : Nat) : Prop := y < P ∧ ∀ (lo i : Nat) (f : Int), i ≤ 1200 → BDc (ntx t0 tx) h0 N0 lo i (hR h0 y 5) f → K (hR h0 y 5) (gf tx f)
/-- one member, one edit -/
theorem MEM_r {y : Nat} (M : MEm (ntx t0 tx) h0 N0 lo c kn i y) (hi : i < 1200) (ht : tx ≤ 6) (HK : HKs K h0 t0 P tx N0 y) (hK : ∀ x v, K x v → hT h x = 1) (f : fw t0 t) (Sm : ∀ x, x < P → sm h0 h x) (B : B1 h t K P m r m0 G) (W0 : WF t 0 m0 r0) (j0 : 0 ≤ j) (j1 : j < m) (hn : wg t 1 j 0 = kn) : EDr K P m r m0 G j ch h t (c147 P y h) (c280 (gn tx i) j ch t) ∧ (ntx t0 tx i 0 ≤ 32 → EDr K P m r m0 G j ch h t (c147 P y h) (c277 (gn tx i) j ch t)) := by
  obtain ⟨s, o, cd, S, nm, cs⟩ := M
  obtain ⟨yP, HK⟩ := HK
  have S' := SPc_s S (Sm y yP)
  have eN : ∀ a b, ntx t tx a b = ntx t0 tx a b := fun a b => ntx_f f
  have ecd : hR h0 y 5 = cd := S.2.2.2.2.2.2
  rw [← eN] at nm
  rw [← eN i 1] at S'
  have act : ∀ f : Int, BDc (ntx t0 tx) h0 N0 lo i cd f → f = ntx t0 tx i 2 → K cd (gf tx (ntx t tx i 2)) ∧ hT h cd = 1 ∧ (ntx t tx i 2 = -1 ∨ ∃ a : Nat, ntx t tx i 2 = (a : Int) ∧ a < 1200) := fun f Q e => by
    have kk := HK lo i f (by omega) (by rw [ecd]; exact Q)
    rw [ecd, e] at kk
    rw [eN]
    refine ⟨kk, hK _ _ kk, ?_⟩
    obtain ⟨-, -, -, C, Bk, -⟩ := Q
    obtain ⟨L, l1, l2, -⟩ := Bk
    rw [← e]
    exact LK_f l1 (fun a ha => by have := (l2 a ha).2; omega)
  constructor
  · rw [c147_m B.1 S' (by
      rcases cs with ⟨-, z, -⟩ | ⟨-, z, -⟩ | ⟨-, z, -⟩ | ⟨-, z⟩ | ⟨-, z, -⟩ | ⟨-, z, -⟩
      · rcases z with z | z
        · exact .inl z
        · exact .inr (.inl z)
      · exact .inr (.inr (.inl z))
      · exact .inr (.inr (.inr (.inl z)))
      · exact .inr (.inr (.inr (.inr (.inl z))))
      · exact .inr (.inr (.inr (.inr (.inr (.inl z)))))
      · exact .inr (.inr (.inr (.inr (.inr (.inr z)))))) j0 j1 hn]
    refine EDI_s B W0 hK j0 j1 ht hi S' nm ?_
    rw [eN i 0]
    rcases cs with ⟨a, b, e⟩ | ⟨a, b, e⟩ | ⟨a, b, e⟩ | ⟨a, b⟩ | ⟨a, b, e, e2⟩ | ⟨a, b, e⟩
    · exact .inl (.inl ⟨a, b, by rw [eN]; exact e⟩)
    · exact .inl (.inr (.inl ⟨a, b, by rw [eN]; exact e⟩))
    · obtain ⟨z1, z2, z3⟩ := act _ e rfl
      exact .inl (.inr (.inr ⟨a, b, z1, z2, z3⟩))
    · exact .inr (.inl ⟨a, b⟩)
    · exact .inr (.inr (.inl ⟨a, b, by rw [eN]; exact e, e2⟩))
    · exact .inr (.inr (.inr ⟨a, b⟩))
  · intro h32
    have cs' : (ntx t0 tx i 0 = 30 ∧ (s = 202 ∨ s = 203) ∧ o = ntx t0 tx i 2) ∨ (ntx t0 tx i 0 = 31 ∧ s = 204 ∧ o = ntx t0 tx i 2) ∨ (ntx t0 tx i 0 = 32 ∧ s = 205 ∧ BDc (ntx t0 tx) h0 N0 lo i cd (ntx t0 tx i 2)) := by
      rcases cs with a | a | a | ⟨a, -⟩ | ⟨a, -⟩ | ⟨a, -⟩
      · exact .inl a
      · exact .inr (.inl a)
      · exact .inr (.inr a)
      · omega
      · omega
      · omega
    rw [c147_m B.1 S' (by
      rcases cs' with ⟨-, z, -⟩ | ⟨-, z, -⟩ | ⟨-, z, -⟩
      · rcases z with z | z
        · exact .inl z
        · exact .inr (.inl z)
      · exact .inr (.inr (.inl z))
      · exact .inr (.inr (.inr (.inl z)))) j0 j1 hn]
    refine MEM_s B W0 j0 j1 ht hi S' nm ?_
    rw [eN i 0]
    rcases cs' with ⟨a, b, e⟩ | ⟨a, b, e⟩ | ⟨a, b, e⟩
    · exact .inl ⟨a, b, by rw [eN]; exact e⟩
    · exact .inr (.inl ⟨a, b, by rw [eN]; exact e⟩)
    · obtain ⟨z1, z2, z3⟩ := act _ e rfl
      exact .inr (.inr ⟨a, b, z1, z2, z3⟩)
/-- the members of a change -/
theorem EDL {F : Int → Int → Int → hS → Option (Int × hS)} {Q : Prop} (HF : F = c280 ∨ (F = c277 ∧ Q)) (ht : tx ≤ 6) (W00 : WF t0 0 m0 r0) (hK : ∀ x v, K x v → x < P ∧ hT h0 x = 1) (j0 : 0 ≤ j) (j1 : j < m) : ∀ (L ys : List Nat) (f : Int) (n : Nat) (h t : hS), L.length < n → LK (ntx t0 tx) L f → (∀ i ∈ L, i < 1200) → (Q → ∀ i ∈ L, ntx t0 tx i 0 ≤ 32) → MES (ntx t0 tx) h0 N0 lo c kn L ys → (∀ y ∈ ys, HKs K h0 t0 P tx N0 y) → B1 h t K P m r m0 G → (∀ x, x < P → sm h0 h x) → fw t0 t → wg t 1 j 0 = kn → wg t 1 j 3 = 1 → UTq t m0 m → ∃ (why : Int) (y : Nat) (h' t' : hS), tkR P ys h (why, y, h') ∧ (hN h' = hN h ∧ hM h' = hM h) ∧ (∀ x, x < P → sm h h' x) ∧ fw t t' ∧ ((why = 0 ∧ lp (fun s => eL F ch j s.1 s.2) n (gf tx f, t) = some (.inl t') ∧ B1 h' t' K P m r m0 G ∧ UTq t' m0 m) ∨ (why ≠ 0 ∧ y ∈ ys ∧ lp (fun s => eL F ch j s.1 s.2) n (gf tx f, t) = some (.inr (0, rfS why ch (-1) t'))))
  | [], ys, f, n, h, t, hn, hl, _, _, M, _, B, _, _, _, _, UT => by
    obtain ⟨n, rfl⟩ : ∃ a, n = a + 1 := ⟨n - 1, by omega⟩
    have M : ys = [] := M
    subst M
    have hl : f = -1 := hl
    subst hl
    refine ⟨0, 0, h, t, rfl, ⟨rfl, rfl⟩, fun _ _ => sm_rf, fp_rf, .inl ⟨rfl, ?_, B, UT⟩⟩
    refine lp_d ?_
    show eL F ch j (gf tx (-1)) t = _
    unfold eL
    rw [show gf tx (-1) = -1 from rfl, if_pos rfl]
  | i :: L, ys, f, n, h, t, hn, hl, h12, h32, M, HY, B, Sm, ff, hnm, hch, UT => by
    obtain ⟨n, rfl⟩ : ∃ a, n = a + 1 := ⟨n - 1, by omega⟩
    obtain ⟨y, zs, rfl, M1, M2⟩ : ∃ (y : Nat) (t : List Nat), ys = y :: t ∧ MEm (ntx t0 tx) h0 N0 lo c kn i y ∧ MES (ntx t0 tx) h0 N0 lo c kn L t := M
    obtain ⟨rfl, hl2⟩ : f = (i : Int) ∧ LK (ntx t0 tx) L (ntx t0 tx i 4) := hl
    have hi := h12 i List.mem_cons_self
    have W0 := WF0_f W00 ff
    have hm := B.1.1.1.2.1
    have hK' : ∀ x v, K x v → hT h x = 1 := fun x v hx => by
      obtain ⟨z1, z2⟩ := hK x v hx
      rw [(Sm x z1).2.2.1]; exact z2
    obtain ⟨R1, R2⟩ := MEM_r (ch := ch) M1 hi ht (HY y List.mem_cons_self) hK' ff Sm B W0 j0 j1 hnm
    have R : EDr K P m r m0 G j ch h t (c147 P y h) (F (gn tx i) j ch t) := by
      rcases HF with e | ⟨e, e2⟩
      · rw [e]; exact R1
      · rw [e]; exact R2 (h32 e2 i List.mem_cons_self)
    have eg : gf tx (i : Int) = gn tx i := by unfold gf; rw [if_neg (by omega), Int.toNat_natCast]
    have gne : gn tx i ≠ -1 := by unfold gn; omega
    have hl3 := LK_f hl2 (fun a ha => h12 a (List.mem_cons_of_mem _ ha))
    have Pk : P + 2 ≤ kd h P j := B.1.2.1 j j0 j1
    rcases R with ⟨h1, t1, a1, a2, a3, a4, a5, a6⟩ | ⟨why, a1, a2, a3⟩
    · have Sm1 : ∀ x, x < P → sm h h1 x := fun x hx => a4.2.2.2.2 x (by omega)
      obtain ⟨why, y2, h2, t2, b1, b2, b3, b4, b5⟩ := EDL HF ht W00 hK j0 j1 L zs (ntx t0 tx i 4) n h1 t1 (by have : (i :: L).length = L.length + 1 := rfl; omega) hl2 (fun a ha => h12 a (List.mem_cons_of_mem _ ha)) (fun e a ha => h32 e a (List.mem_cons_of_mem _ ha)) M2 (fun a ha => HY a (List.mem_cons_of_mem _ ha)) a3 (fun x hx => sm_tr (Sm x hx) (Sm1 x hx)) (fp_tr ff a5) (by rw [a6 j 0 j0 (by omega) (by omega) (by omega) (.inr (by omega))]; exact hnm) (by rw [a6 j 3 j0 (by omega) (by omega) (by omega) (.inr (by omega))]; exact hch) (UT_e UT B.1.1.1 W0 a5 (by rw [a6 j 3 j0 (by omega) (by omega) (by omega) (.inr (by omega))]; exact hch) (fun v g v0 v1 g0 g1 hv => a6 v g v0 v1 g0 g1 (hv.imp id (fun z => by omega))))
      have est : (fun s : Int × hS => eL F ch j s.1 s.2) (gf tx (i : Int), t) = some (.inl (gf tx (ntx t0 tx i 4), t1)) := by
        show eL F ch j (gf tx (i : Int)) t = _
        unfold eL
        rw [eg, if_neg gne]
        refine bnd a2 ?_
        rw [if_neg (by omega)]
        refine bnd (c257_f (f := ntx t0 tx i 4) (s := 4) ht hi (by omega) (by rw [ntx_f a5, ntx_f ff]) hl3) rfl
      refine ⟨why, y2, h2, t2, ⟨0, h1, a1, Sm1, a3.1.1.2.1.2.2.1, .inl ⟨rfl, b1⟩⟩, ⟨by rw [b2.1, a4.1], by rw [b2.2, a4.2.1]⟩, fun x hx => sm_tr (Sm1 x hx) (b3 x hx), fp_tr a5 b4, ?_⟩
      rcases b5 with ⟨c1, c2, c3⟩ | ⟨c1, c2, c3⟩
      · exact .inl ⟨c1, (lp_n est).trans c2, c3⟩
      · exact .inr ⟨c1, List.mem_cons_of_mem _ c2, (lp_n est).trans c3⟩
    · have w0 : why ≠ 0 := by omega
      refine ⟨why, y, h, t, ⟨why, h, a2, fun _ _ => sm_rf, B.1.1.2.1.2.2.1, .inr ⟨w0, rfl⟩⟩, ⟨rfl, rfl⟩, fun _ _ => sm_rf, fp_rf, .inr ⟨w0, List.mem_cons_self, ?_⟩⟩
      refine lp_d ?_
      show eL F ch j (gf tx (i : Int)) t = _
      unfold eL
      rw [eg, if_neg gne]
      refine bnd a3 ?_
      rfl
end MVE
