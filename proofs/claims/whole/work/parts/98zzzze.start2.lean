/-! a patch is made: how it begins -/
section ST2x
variable {h h' t tb : hS} {m P p : Nat} {r : Int → Nat} {G j : Int} {K : Nat → Int → Prop}
theorem ST_KO (W : WF t 0 m r) (C : CF t 0 m) (nA : ∀ i j : Int, 0 ≤ i → i < m → 0 ≤ j → j < m → wg t 0 i 0 = wg t 0 j 0 → i = j) (g : ∀ j : Int, 0 ≤ j → j < m → 0 ≤ wg t 0 j 2 ∧ wg t 0 j 2 ≤ G) (R : RS1 t tb m) (j0 : 0 ≤ j) (j1 : j < m) : KO tb m G j := by
  obtain ⟨f, em, H⟩ := R
  have hm := W.2.1
  obtain ⟨-, -, w3, w4, -⟩ := W.2.2 j j0 j1
  have e0 : ∀ b : Int, 0 ≤ b → b < 64 → b ≠ 3 → b ≠ 4 → ¬ (22 ≤ b ∧ b < 30) → wg tb 1 j b = wg t 0 j b := fun b b0 b1 h3 h4 h5 => by rw [H j b j0 j1 b0 b1, if_neg h3, if_neg h4, if_neg h5]
  have e4 : wg tb 1 j 4 = j := by rw [H j 4 j0 j1 (by omega) (by omega), if_neg (by omega), if_pos rfl]
  have e22 : ∀ i : Nat, i < 8 → wg tb 1 j (22 + i) = wg t 0 j (6 + i) := fun i hi => by
    rw [H j _ j0 j1 (by omega) (by omega), if_neg (by omega), if_neg (by omega), if_pos (by omega), show (22 : Int) + i - 16 = 6 + i by omega]
  obtain ⟨c1, c2, c3, c4⟩ := C j j0 j1
  have nm : nm0 tb m (wg tb 1 j 0) = j := by
    rw [nm0_f W f, e0 0 (by omega) (by omega) (by omega) (by omega) (by omega)]
    unfold nm0
    obtain ⟨J, rfl⟩ : ∃ J : Nat, j = (J : Int) := ⟨j.toNat, by omega⟩
    exact ix_at (g := fun k : Nat => wg t 0 (k : Int) 0) (u := J) (by omega) (fun a b a1 b1 e => by have := nA (a : Int) (b : Int) (by omega) (by omega) (by omega) (by omega) e; omega)
  have fx : ∀ i : Nat, (i : Int) < wg t 0 j 5 → fIx tb 0 j (wg t 0 j (6 + i)) ≠ -1 := fun i hi => by
    rw [fIx_x (fw_x W f) W j0 j1]
    intro z
    have := ix_none (show ix (fun i => wg t 0 j (6 + i)) (wg t 0 j (6 + i)) (wg t 0 j 5).toNat = -1 from z) i (by omega)
    exact this rfl
  unfold KO
  rw [nm, e4, e0 2 (by omega) (by omega) (by omega) (by omega) (by omega), e0 5 (by omega) (by omega) (by omega) (by omega) (by omega), e0 30 (by omega) (by omega) (by omega) (by omega) (by omega), H j 3 j0 j1 (by omega) (by omega), if_pos rfl]
  refine ⟨rfl, .inl rfl, g j j0 j1, fun a b ha hb => ?_, fun a b ha hb => ?_, fun a b ha hb => ?_, fun a ha => ?_, fun a b ha hb => ?_⟩
  · rw [e0 _ (by omega) (by omega) (by omega) (by omega) (by omega), e0 _ (by omega) (by omega) (by omega) (by omega) (by omega)]
    exact c1 a b ha hb
  · rw [e0 _ (by omega) (by omega) (by omega) (by omega) (by omega), e0 _ (by omega) (by omega) (by omega) (by omega) (by omega)]
    exact c2 a b ha hb
  · rw [e0 _ (by omega) (by omega) (by omega) (by omega) (by omega), e0 _ (by omega) (by omega) (by omega) (by omega) (by omega)]
    intro z
    have f1 : fIx t 0 j (wg t 0 j (6 + a)) ≠ -1 := fun w => ix_none (show ix (fun i => wg t 0 j (6 + i)) (wg t 0 j (6 + a)) (wg t 0 j 5).toNat = -1 from w) a (by omega) rfl
    have s1 := c3 _ f1
    rw [z] at s1
    exact ix_none (show ix (fun i => wg t 0 j (31 + i)) (wg t 0 j (31 + b)) (wg t 0 j 30).toNat = -1 from s1) b (by omega) rfl
  · rw [e22 a (by omega)]
    exact .inr ⟨by omega, fx a ha⟩
  · rw [e22 a (by omega), e22 b (by omega)]
    exact fun z _ => c1 a b ha hb z
theorem ST_UT (W : WF t 0 m r) (R : RS1 t tb m) : UTq tb m m := fun j j0 j1 _ => by
  obtain ⟨f, em, H⟩ := R
  have hm := W.2.1
  obtain ⟨-, w2, w3, w4, -⟩ := W.2.2 j j0 j1
  have e4 : wg tb 1 j 4 = j := by rw [H j 4 j0 j1 (by omega) (by omega), if_neg (by omega), if_pos rfl]
  have e0 : ∀ b : Int, 0 ≤ b → b < 22 → b ≠ 3 → b ≠ 4 → wg tb 1 j b = wg tb 0 j b := fun b b0 b1 h3 h4 => by rw [H j b j0 j1 b0 (by omega), if_neg h3, if_neg h4, if_neg (by omega), fw_w f (.inl rfl) j0 (by omega) b0 (by omega)]
  have e5 : wg tb 1 j 5 = wg t 0 j 5 := by rw [H j 5 j0 j1 (by omega) (by omega), if_neg (by omega), if_neg (by omega), if_neg (by omega)]
  have e1 : wg tb 1 j 1 = wg t 0 j 1 := by rw [H j 1 j0 j1 (by omega) (by omega), if_neg (by omega), if_neg (by omega), if_neg (by omega)]
  rw [e4]
  refine ⟨⟨j0, j1⟩, ⟨e0 5 (by omega) (by omega) (by omega) (by omega), fun i hi => e0 _ (by omega) (by omega) (by omega) (by omega)⟩, ?_⟩
  rw [← e0 1 (by omega) (by omega) (by omega) (by omega), e1]
  rcases w2 with z | ⟨z0, z1, -⟩
  · exact .inl ⟨z, z⟩
  · refine .inr ⟨by omega, ?_⟩
    rw [H _ 4 z0 z1 (by omega) (by omega), if_neg (by omega), if_pos rfl]
end ST2x
/-- what is scratch in the class, and on the other side -/
def scH (P : Nat) (h h' : hS) : Prop := (hN h ≤ hN h' ∧ hM h ≤ hM h') ∧ ∀ x, x < P → (hT h' x = hT h x ∧ hL h' x = hL h x) ∧ (∀ j, ¬ ((x = 24 ∧ (j = 0 ∨ j = 3)) ∨ x = 51 ∨ (53 ≤ x ∧ x < 213 ∧ j = 2 ∧ (x - 53) % 4 = 0)) → hR h' x j = hR h x j) ∧ ∀ j, ¬ ((x = 22 ∧ (j = 5 ∨ j = 7 ∨ j = 8 ∨ j = 9)) ∨ x = 25 ∨ (x = 24 ∧ (j = 4 ∨ j = 5 ∨ j = 6)) ∨ x = 52 ∨ (53 ≤ x ∧ x < 213 ∧ ¬ ((x - 53) % 4 = 0 ∧ j ≠ 1)) ∨ (x = 48 ∧ 10 ≤ j ∧ j ≤ 12)) → hI h' x j = hI h x j
def scT (t t' : hS) : Prop := fp (fun x j => (x = 395 ∧ (j = 39 ∨ j = 52 ∨ j = 54 ∨ j = 82 ∨ j = 83 ∨ j = 84)) ∨ x = 417 ∨ (438 ≤ x ∧ x ≤ 447) ∨ (408 ≤ x ∧ x ≤ 410 ∧ j = 0) ∨ (x = 400 ∧ 769 ≤ j ∧ j < 1538) ∨ (405 ≤ x ∧ x ≤ 407 ∧ 1600 ≤ j)) t t'
/-- a patch that waits, and what making it rests on -/
def PRq (h t : hS) (K : Nat → Int → Prop) (p m0 q : Nat) (r0 : Int → Nat) (G : Int) (k pt S A qq N0 : Nat) (us Lc : List Nat) (f : Nat) : Prop := RT h t K p m0 q r0 ∧ CF t 0 m0 ∧ ((hT h pt = 26 ∧ hR h pt 0 = S) ∧ (448 ≤ pt ∧ pt < hN h) ∧ LSt h N0 S us A qq ∧ 448 ≤ N0 ∧ A < hN h ∧ us.length ≤ 500 ∧ 7 * kc h 200 us + 6 * kc h 217 us ≤ 1001) ∧ (k < 6 ∧ hI t 401 k = 1200 * ((k : Int) + 1) + (f : Int) ∧ LK (ntx t (k + 1)) Lc (f : Int) ∧ (∀ i ∈ Lc, i < 1200) ∧ CHS (ntx t (k + 1)) h N0 0 Lc us ∧ ∀ y ∈ us, HKs K h t (hN h) (k + 1) N0 y) ∧ (0 ≤ G ∧ G ≤ 50000 ∧ hI h 48 9 = G ∧ hI t 395 27 = G ∧ ∀ j : Int, 0 ≤ j → j < m0 → 0 ≤ wg t 0 j 2 ∧ wg t 0 j 2 ≤ G) ∧ hI t 395 54 = 0 ∧ hT h 24 = 12 ∧ (hT h 52 = 1 ∧ hL h 52 = 40) ∧ (∀ c n, c < 40 → n < 40 → hI h (217 + 4 * c) n = 0 ∨ hI h (217 + 4 * c) n = 1) ∧ 448 ≤ hN h ∧ ∀ j, j < 1600 → hI t 407 j = 0 ∨ hI t 407 j = 1
section MKS
variable {h h' h0 hX hZ t t' tX tZ : hS} {K : Nat → Int → Prop} {p m0 q k pt S A qq N0 : Nat} {r0 : Int → Nat} {G : Int} {us Lc : List Nat} {f : Nat} {P : Nat}
theorem scH_sm (e : ∀ x, x < P → sm h h' x) (n : hN h ≤ hN h' ∧ hM h ≤ hM h') : scH P h h' := ⟨n, fun x hx => ⟨⟨(e x hx).2.2.1, (e x hx).2.2.2⟩, fun j _ => (e x hx).2.1 j, fun j _ => (e x hx).1 j⟩⟩
theorem scH_cy (a : cyL h h') : scH P h h' := ⟨⟨by rw [a.1.2.2.2.1]; exact Nat.le_refl _, by rw [a.1.2.2.2.2]; exact Nat.le_refl _⟩, fun x _ => ⟨⟨by rw [a.1.2.1], by rw [a.1.2.2.1]⟩, fun j z => a.2.1 x j z, fun j z => a.2.2 x j z⟩⟩
theorem scH_tr {h1 : hS} (a : scH P h h1) (b : scH P h1 h') : scH P h h' := ⟨⟨Nat.le_trans a.1.1 b.1.1, Nat.le_trans a.1.2 b.1.2⟩, fun x hx => by
  obtain ⟨⟨a1, a2⟩, a3, a4⟩ := a.2 x hx
  obtain ⟨⟨b1, b2⟩, b3, b4⟩ := b.2 x hx
  exact ⟨⟨b1.trans a1, b2.trans a2⟩, fun j z => (b3 j z).trans (a3 j z), fun j z => (b4 j z).trans (a4 j z)⟩⟩
theorem CHS_n {N : Nat → Nat → Int} : ∀ {Lc us : List Nat} {c : Nat}, CHS N h N0 c Lc us → Lc.length ≤ us.length
  | [], us, c, _ => Nat.zero_le _
  | i :: Lc, us, c, C => by
    obtain ⟨ys, zs, rfl, C1, C2⟩ : ∃ ys zs : List Nat, us = ys ++ zs ∧ CHg N h N0 0 (c : Int) i ys ∧ CHS N h N0 (c + 1) Lc zs := C
    obtain ⟨-, x0, xz, rfl, -⟩ := C1
    have a := CHS_n C2
    have l1 : (i :: Lc).length = Lc.length + 1 := rfl
    have l2 : ((x0 :: xz) ++ zs).length = (x0 :: xz).length + zs.length := List.length_append
    have l3 : (x0 :: xz).length = xz.length + 1 := rfl
    omega
/-- the steps are taken, the new pond is settled, in both; or both stop -/
theorem MK_1 (Q : PRq h t K p m0 q r0 G k pt S A qq N0 us Lc f) : ∃ (hX : hS) (ta tb : hS), c140 p h = some (hN h, hX) ∧ c226 0 1 t = some ta ∧ lp (fun s => c274_b8 s.1 s.2) hF0 (0, ta) = some tb ∧ fw t tb ∧ ((∃ hZ tc td te tZ m r, c142 pt p (hN h) hX = some (1, hZ) ∧ lp (fun s => c274_b82 s.1 s.2.1 s.2.2) hF0 (0, gn (k + 1) f, tb) = some (.inl tc) ∧ c282 tc = some (1, tc) ∧ lp (fun s => c274_b122 s.1 s.2) hF0 (0, tc) = some td ∧ lp (fun s => c274_b194 s.1 s.2) hF0 (0, td) = some tZ ∧ te = tZ ∧ NWq hZ tZ K (hN h) m r m0 (G + 1) ∧ (∀ x, x < hN h → sm h hZ x) ∧ fw t tZ ∧ (hN h ≤ hN hZ ∧ hM h ≤ hM hZ) ∧ hN hZ ≤ hN h + 1224 ∧ hM hZ ≤ hM h + 25112) ∨ (∃ h' t', c142 pt p (hN h) hX = some (0, h') ∧ scH (hN h) h h' ∧ scT t t' ∧ hI t' 395 54 = 0 ∧ (hI h' 48 10 = hI t' 395 82 ∧ hI h' 48 11 = hI t' 395 83 ∧ hI h' 48 12 = hI t' 395 84) ∧ (hN h' ≤ hN h + 1224 ∧ hM h' ≤ hM h + 25112) ∧ (lp (fun s => c274_b82 s.1 s.2.1 s.2.2) hF0 (0, gn (k + 1) f, tb) = some (.inr (0, t')) ∨ ∃ tc, lp (fun s => c274_b82 s.1 s.2.1 s.2.2) hF0 (0, gn (k + 1) f, tb) = some (.inl tc) ∧ c282 tc = some (0, t')))) := by
  obtain ⟨RT0, C0, ⟨⟨x1, x2⟩, ⟨x3, x4⟩, LL, N8, A8, l5, bnd1⟩, ⟨k6, e401, hl, h12, CH, HY⟩, ⟨G0, G1, eG, eG2, gens⟩, e54, T24, T52, BL, h448, -⟩ := Q
  obtain ⟨SH0, Pw0, TB0', CR0, hp, KD0⟩ := RT0
  have W0 := Pw0.1
  have hm0 := W0.2.1
  have pP : p + 1 < hN h := Pw0.2.1.2.1
  obtain ⟨P, hP⟩ : ∃ P, hN h = P := ⟨_, rfl⟩
  rw [hP] at x4 A8 HY pP h448
  have hK : ∀ x v, K x v → x < P ∧ hT h x = 1 := fun x v hx => by
    obtain ⟨⟨a, b, c⟩, -⟩ := KD0 x v hx
    exact ⟨by omega, c⟩
  obtain ⟨ta, tb, s1, s2, RS⟩ := RS_e hm0 W0.1
  obtain ⟨hX, y1, y2, y3, y4, y5, y6⟩ := c140_e Pw0 (fun x v hx => by have := hK x v hx; exact ⟨by omega, this.2⟩) hP pP h448 RS
  have fb := RS.1
  have B : B1 hX tb K P m0 r0 m0 G := ⟨y2, y3, fun j j0 j1 => ST_KO W0 C0 Pw0.2.2.2 gens RS j0 j1⟩
  have UT := ST_UT W0 RS
  have lc := CHS_n CH
  have eg : gf (k + 1) (f : Int) = gn (k + 1) f := by unfold gf; rw [if_neg (by omega), Int.toNat_natCast]
  obtain ⟨why, y, hA, tA, m', nk, nd, z1, ⟨z2, z3, z4, z5, z6, z7⟩, z8, z9, z10⟩ := CHAL (t0 := t) (h0 := h) (tx := k + 1) (N0 := N0) W0 h448 G0 (by omega) hK Lc us 0 (f : Int) hF0 hX tb m0 r0 CH hl h12 (by omega) (by omega) (hF0_lt (by omega)) HY B UT (by omega) y4 fb
  rw [eg] at z10
  have nk82 : nk ≤ 82 := by omega
  have tk := tk_l (h0 := h) (pt := pt) (S := S) (A := A) (us := us) (N0 := N0) ⟨x1, x2, x4⟩ LL (by omega) hP A8 (by omega) us [] 0 hF0 hX (why, y, hA) rfl rfl (hF0_lt (by omega)) y4 y2.1.2.1.2.2.1 z1
  have smA : ∀ x, x < P → sm h hA x := fun x hx => sm_tr (y4 x hx) (z8 x hx)
  have rN : hN h ≤ hN hA ∧ hM h ≤ hM hA := ⟨by omega, by omega⟩
  have fwT : ∀ {t1 t2 : hS}, fw t1 t2 → scT t1 t2 := fun {t1 t2} a => ⟨a.1, fun x j z => a.2 x j (by omega)⟩
  have cfs : ∀ {g : hS} {a b d : Int}, scH P g (cfS a b d g) := fun {g a b d} => scH_cy cyL_rf
  have rfs : ∀ {s : hS} {a b d : Int}, scT s (rfS a b d s) := fun {s a b d} => by
    unfold rfS
    refine ⟨rfl, fun x j hx => ?_⟩
    rw [hI_sI, if_neg (by omega), hI_sI, if_neg (by omega), hI_sI, if_neg (by omega)]
  refine ⟨hX, ta, tb, by rw [hP]; exact y1, s1, s2, fb, ?_⟩
  rw [hP]
  rcases z10 with ⟨w0, w1, UA, r', BA⟩ | ⟨w0, w1, w2⟩
  · subst w0
    rw [if_pos rfl] at tk
    have T18 : hT hA P = 18 := BA.1.1.2.1.2.2.1
    by_cases cl : ∀ i : Nat, i < m' → clq tA i
    · have Pw0A : PW hA tA K p 0 m0 r0 := PW_lt Pw0 pP (fun v v0 v1 => by have := (Pw0.2.2.1 v v0 v1).1.2.1; omega) smA (by omega) (fun v g v0 v1 g0 g1 => fw_w (fp_tr fb z9) (.inl rfl) v0 (by omega) g0 g1) (fw_m (fp_tr fb z9) (.inl rfl))
      have kdA : ∀ u : Int, kd hA p u = kd h p u := fun u => by
        unfold kd
        split
        · rfl
        · exact (smA (p + 1) pP).2.1 _
      have e48 : hI hA 48 9 = G := by rw [(smA 48 (by omega)).1]; exact eG
      obtain ⟨hZ, td, tZ, a1, a2, a3, NW, ⟨a4, a5⟩, a6, a7⟩ := SETT BA UA cl Pw0A h448 pP (fun v v0 v1 => by rw [kdA]; have := (Pw0.2.2.1 v v0 v1).1.2.1; omega) ⟨G0, by omega⟩ (by rw [(fp_tr fb z9).2 395 27 (by omega)]; exact eG2)
      have e152 := (c152_e BA.1 h448).1 cl
      have e282 := (c282_e BA.1.1.1).1 cl
      refine .inl ⟨hZ, tA, td, tZ, tZ, m', r', ?_, w1, e282, a2, a3, rfl, NW, fun x hx => sm_tr (smA x hx) (a6 x hx), fp_tr (fp_tr fb z9) a7, ⟨by omega, by omega⟩, by omega, by omega⟩
      unfold c142
      refine bnd tk ?_
      rw [xs_il]
      refine bnd (kT_s T18) ?_
      refine bnd e152 ?_
      rw [if_pos rfl]
      refine bnd (kT_s T18) ?_
      rw [e48, wadd_e (by omega) (by omega)]
      refine bnd a1 ?_
      rfl
    · have ex : ∃ i : Nat, i < m' ∧ ¬ clq tA i := by
        by_cases w : ∃ i : Nat, i < m' ∧ ¬ clq tA i
        · exact w
        · exact absurd (fun i hi => by
            by_cases v : clq tA i
            · exact v
            · exact absurd ⟨i, hi, v⟩ w) cl
      have e152 := (c152_e BA.1 h448).2 ex
      have e282 := (c282_e BA.1.1.1).2 ex
      refine .inr ⟨cfS 8 (-1) (-1) hA, rfS 8 (-1) (-1) tA, ?_, scH_tr (scH_sm smA rN) cfs, fp_tr (fwT (fp_tr fb z9)) rfs, ?_, ⟨rfl, rfl, rfl⟩, ⟨by show hN hA ≤ _; omega, by show hM hA ≤ _; omega⟩, .inr ⟨tA, w1, e282⟩⟩
      · unfold c142
        refine bnd tk ?_
        rw [xs_il]
        refine bnd (kT_s T18) ?_
        refine bnd e152 ?_
        rw [if_neg (by omega)]
        rfl
      · unfold rfS
        rw [hI_sI, if_neg (by omega), hI_sI, if_neg (by omega), hI_sI, if_neg (by omega), (fp_tr fb z9).2 395 54 (by omega)]
        exact e54
  · rw [if_neg (show ¬ (why = 0) from w0)] at tk
    refine .inr ⟨cfS why (hI h y 1) (-1) hA, rfS why (hI h y 1) (-1) tA, ?_, scH_tr (scH_sm smA rN) cfs, fp_tr (fwT (fp_tr fb z9)) rfs, ?_, ⟨rfl, rfl, rfl⟩, ⟨by show hN hA ≤ _; omega, by show hM hA ≤ _; omega⟩, .inl w2⟩
    · unfold c142
      refine bnd tk ?_
      rw [xs_ir]
    · unfold rfS
      rw [hI_sI, if_neg (by omega), hI_sI, if_neg (by omega), hI_sI, if_neg (by omega), (fp_tr fb z9).2 395 54 (by omega)]
      exact e54
end MKS
