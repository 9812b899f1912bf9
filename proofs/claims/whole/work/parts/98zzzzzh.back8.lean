/-! call 27: back: the patch made last is taken back -/
section BK8
variable {h h' h3 t t' : hS} {K : Nat → Int → Prop} {p P m m0 q κ l : Nat} {r r0 : Int → Nat} {G : Int} {R0 R1 : Nat → Nat}
theorem BK_e (I : INq K P m q r κ G R0 R1 h t) (h448 : 448 ≤ hN h) (hl : l < κ) (e29 : hI t 395 29 = (l : Int)) (e7 : hR h 48 7 = hR h 50 l) (e8 : hR h 48 8 = p) (Q : BKq h t K P m p m0 r0 G) (dj : ∀ k, k < κ → ∀ j : Int, 0 ≤ j → j < m0 → kd h p j + 13 ≤ R0 k ∨ R1 k ≤ kd h p j) (w28 : hI t 395 28 = -1) (w5 : hR h 48 5 = 0) : ∃ h' t', c177 h = some (1, h') ∧ c299 t = some (1, t') ∧ INq K p m0 q r0 κ G R0 R1 h' t' ∧ QPc h h' ∧ QPt t t' ∧ hN h' = hN h ∧ hM h' = hM h := by
  obtain ⟨⟨R, CT0, hk6, fr, rn, n11, e54⟩, -, PTh, Pk, ⟨Gc, G0, Gh, Gt, Gg⟩, ⟨x1, x2, x3⟩, rf, e87, -⟩ := id I
  obtain ⟨S, Pw, T, C, hP, D⟩ := id R
  obtain ⟨Pw2, T2, C2, hp2, FF, KO0, ⟨pP, k1, k2⟩, kk⟩ := id Q
  have hm := Pw.1.2.1
  have hm0 := Pw2.1.2.1
  have p213 := Pw2.2.1.1
  have Q0 : ∀ v : Int, 0 ≤ v → v < m0 → KD h (kd h p v) := fun v v0 v1 => (Pw2.2.2.1 v v0 v1).1
  obtain ⟨pt, hpt⟩ : ∃ pt, hR h 50 l = pt := ⟨_, rfl⟩
  have p4 := (PTh.2.2.2.1 l hl).1
  have l6 : l < 6 := by have := PTh.2.2.1; omega
  rw [hpt] at p4 e7
  -- the other side: the third world into the second
  obtain ⟨tA, a1, a2, a3, a4⟩ := c226_e (w1 := 2) (w2 := 1) (h := t) (by omega) (by omega) (by omega)
  have fA : fw t tA := ⟨a2.1, fun x j hx => a2.2 x j (by omega)⟩
  have Pa : PW h tA K p 1 m0 r0 := PW_l2 Pw2 sm_rf sm_rf (fun _ _ _ _ _ => sm_rf) (Nat.le_refl _) (fun v g v0 v1 g0 g1 => a4 v g v0 (by omega) g0 g1) a3
  have Pb : PW h tA K P 0 m r := PW_l2 Pw sm_rf sm_rf (fun _ _ _ _ _ => sm_rf) (Nat.le_refl _) (fun v g v0 v1 g0 g1 => fw_w fA (.inl rfl) v0 (by omega) g0 g1) (fw_m fA (.inl rfl))
  -- the statics
  obtain ⟨hB, tB, b1, b2, PaB, b4, b5, fB, wB⟩ := ST_e (h := h) Pa Pb pP (fun v v0 v1 => (k1 v v0 v1).1) k2
  have ftB : fw t tB := fw_tr fA fB
  have TB' : hT hB = hT h := by funext x; exact h2_T b4 x
  have LB' : hL hB = hL h := by funext x; exact h2_L b4 x
  have svB : svH p m0 h hB := ⟨⟨h2_J b4, TB', LB', h2_N b4, h2_M b4⟩, fun x j _ => h2_R b4 x j, b5⟩
  have svt : svT t tB := ⟨ftB.1, fun x j hx => ftB.2 x j (by omega)⟩
  have RB := SV_RT R Q svB svt
  have w1 : ∀ v g : Int, 0 ≤ v → v < m0 → 0 ≤ g → g < 64 → ¬ (35 ≤ g ∧ g < 39) → wg tB 1 v g = wg t 2 v g := fun v g v0 v1 g0 g1 hg => by rw [wB v g v0 v1 g0 g1 hg]; exact a4 v g v0 (by omega) g0 g1
  have w2 : ∀ v g : Int, 0 ≤ v → v < 12 → 0 ≤ g → g < 64 → wg tB 2 v g = wg t 2 v g := fun v g v0 v1 g0 g1 => fw_w ftB (.inr rfl) v0 v1 g0 g1
  have w0 : ∀ v g : Int, 0 ≤ v → v < 12 → 0 ≤ g → g < 64 → wg tB 0 v g = wg t 0 v g := fun v g v0 v1 g0 g1 => fw_w ftB (.inl rfl) v0 v1 g0 g1
  have ax21 : agx 2 1 m0 t tB := fun k f k0 k1 f0 f1 hf => w1 k f k0 k1 f0 f1 (by omega)
  have ax00 : agx 0 0 m t tB := fun k f k0 k1 f0 f1 _ => w0 k f k0 (by omega) f0 f1
  have W2B : WF tB 2 m0 r0 := WF_l2 Pw2.1 (fun v g v0 v1 g0 g1 => w2 v g v0 (by omega) g0 g1) (fw_m ftB (.inr rfl))
  have CB0 : CF tB 0 m := CF_x ax00 Pw.1 Gc
  have CB1 : CF tB 1 m0 := CF_x ax21 Pw2.1 C2
  have b4i : ∀ j : Int, 0 ≤ j → j < m → wg t 0 j 4 = -1 ∨ (0 ≤ wg t 0 j 4 ∧ wg t 0 j 4 < m0) := fun j j0 j1 => by
    rw [(KO0 j j0 j1).1.1]
    rcases ix_b (fun k : Nat => wg t 2 (k : Int) 0) (wg t 0 j 0) m0 with y | ⟨y, y1, y2, -⟩
    · exact .inl y
    · rw [y1]; exact .inr ⟨by omega, by omega⟩
  have kB : ∀ q u, kd hB q u = kd h q u := fun q u => kd_2 b4 u
  have KO1 : ∀ j : Int, 0 ≤ j → j < m → KOg tB 0 1 m0 j := fun j j0 j1 => KOg_x Pw2.1 (KO0 j j0 j1).1 j0 (Pw.1.2.2 j j0 j1).2.2.1.2 hm0 (fun g g0 g1 => w0 j g j0 (by omega) g0 (by omega)) ax21
  have BSB : BSq hB tB K p P m m0 r r0 := ⟨RB.2.1, PaB, CB0, CB1, fun j j0 j1 i hi => by
    have k8 := k2 j j0 j1
    have w5' := (Pw.1.2.2 j j0 j1).2.2.1
    rw [w0 j 5 j0 (by omega) (by omega) (by omega)] at hi
    rw [kB, b5 _ i (fun v v0 v1 z => by have := (k1 v v0 v1).1; omega), w0 j _ j0 (by omega) (by omega) (by omega)]
    exact FF j j0 j1 i hi, KO1, hP, hp2⟩
  have BB : BKB hB tB K p P m m0 q r r0 G := ⟨BSB, RB.1, RB.2.2.2.1, ⟨W2B, fun v g v0 v1 g0 g1 hg => by rw [w1 v g v0 v1 g0 g1 hg, w2 v g v0 (by omega) g0 g1]⟩, fun j j0 j1 => by
    rw [w0 j 3 j0 (by omega) (by omega) (by omega), w0 j 2 j0 (by omega) (by omega) (by omega), w0 j 4 j0 (by omega) (by omega) (by omega)]
    refine ⟨(KO0 j j0 j1).2.1, fun z n => ?_⟩
    rw [fAt_x ax00 Pw.1 (.inr ⟨j0, j1⟩), fAt_x ax21 Pw2.1 (b4i j j0 j1)]
    exact (KO0 j j0 j1).2.2 z n, by rw [TB', LB']; exact x1, fun c n hc hn => by
    rw [b5 _ n (fun v v0 v1 z => by have := (Q0 v v0 v1).1; omega)]
    exact x2 c n hc hn, by rw [b5 48 9 (fun v v0 v1 z => by have := (Q0 v v0 v1).1; omega)]; exact Gh⟩
  -- the creatures
  obtain ⟨h2, t2, d1, d2, ⟨cH, cT⟩, E, DD⟩ := BL_e BB
  -- the second world into the first
  obtain ⟨t3, g1, g2, g3, g4⟩ := c226_e (w1 := 1) (w2 := 0) (h := t2) (by omega) (by omega) (by omega)
  obtain ⟨t9, et9⟩ : ∃ t9, t9 = sI (sI t3 402 l 5) 395 29 (-1) := ⟨_, rfl⟩
  obtain ⟨h9, eh9⟩ : ∃ h9, h9 = sR (sR (sR (sI h2 pt 1 5) 48 7 0) 48 8 0) 8 7 p := ⟨_, rfl⟩
  obtain ⟨hC, ehC⟩ : ∃ hC, hC = sR hB 48 7 0 := ⟨_, rfl⟩
  obtain ⟨tC, etC⟩ : ∃ tC, tC = sI tB 395 29 (-1) := ⟨_, rfl⟩
  have svC : svH p m0 h hC := ⟨by rw [ehC]; exact svB.1, fun x j hx => by rw [ehC, hR_sR, if_neg hx]; exact svB.2.1 x j hx, fun x j hx => by rw [ehC, hI_sR]; exact svB.2.2 x j hx⟩
  have svtC : svT t tC := ⟨by rw [etC]; exact svt.1, fun x j hx => by rw [etC, hI_sI, if_neg (by omega)]; exact svt.2 x j hx⟩
  have I' := SV_all I h448 Q dj svC svtC (by rw [ehC, hR_sR, if_pos ⟨rfl, rfl⟩]) (by rw [etC, hI_sI, if_pos ⟨rfl, rfl⟩])
  -- what is where, at the end
  have i9 : ∀ x j, ¬ (x = pt ∧ j = 1) → hI h9 x j = hI h2 x j := fun x j hx => by rw [eh9, hI_sR, hI_sR, hI_sR, hI_sI, if_neg hx]
  have r9 : ∀ x j, ¬ ((x = 48 ∧ (j = 7 ∨ j = 8)) ∨ (x = 8 ∧ j = 7)) → hR h9 x j = hR h2 x j := fun x j hx => by rw [eh9, hR_sR, if_neg (by omega), hR_sR, if_neg (by omega), hR_sR, if_neg (by omega), hR_sI]
  have T9 : hT h9 = hT h := by rw [eh9]; exact cH.1.2.1.trans TB'
  have L9 : hL h9 = hL h := by rw [eh9]; exact cH.1.2.2.1.trans LB'
  have N9 : hN h9 = hN h := by rw [eh9]; exact cH.1.2.2.2.1.trans (h2_N b4)
  have M9 : hM h9 = hM h := by rw [eh9]; exact cH.1.2.2.2.2.trans (h2_M b4)
  have J9 : hJ h9 = hJ h := by rw [eh9]; exact cH.1.1.trans (h2_J b4)
  have NC : hN hC = hN h := by rw [ehC]; exact (show hN hB = hN h from h2_N b4)
  have TC : hT hC = hT h := by rw [ehC]; exact TB'
  have o9 : ∀ x j, ¬ ((x = 402 ∧ j = l) ∨ (x = 395 ∧ j = 29) ∨ (x = 400 ∧ j < 769)) → hI t9 x j = hI t2 x j := fun x j hx => by rw [et9, hI_sI, if_neg (by omega), hI_sI, if_neg (by omega), g2.2 x j (by omega)]
  have okh : okH pt hC h9 := by
    refine ⟨⟨by rw [NC, N9]; exact Nat.le_refl _, by rw [M9, ehC]; exact Nat.le_of_eq (show hM hB = hM h from h2_M b4)⟩, fun x hx => ⟨⟨by rw [T9, TC], by rw [L9, ehC]; exact (congrFun LB' x).symm⟩, fun j hj => ?_, fun j hj => ?_⟩⟩
    · rw [r9 x j (by omega), cH.2.1 x j (by omega), ehC, hR_sR, if_neg (by omega)]
    · rw [i9 x j (by omega), cH.2.2 x j (by omega), ehC, hI_sR]
  have okt : okT l tC t9 := ⟨by rw [et9, etC]; exact g2.1.trans cT.1, fun x j hx => by rw [o9 x j (by omega), cT.2 x j (by omega), etC, hI_sI, if_neg (by omega)]⟩
  have w9 : ∀ v g : Int, 0 ≤ v → v < 12 → 0 ≤ g → g < 64 → wg t9 0 v g = wg tB 1 v g := fun v g v0 v1 g0 g1 => by
    have e1 : wg t9 0 v g = wg t3 0 v g := by
      show hI t9 400 _ = hI t3 400 _
      rw [et9, hI_sI, if_neg (by omega), hI_sI, if_neg (by omega)]
    rw [e1]
    exact (g4 v g v0 v1 g0 g1).trans (cT.2 400 _ (by omega))
  have m9 : wm t9 0 = wm tB 1 := by
    have e1 : wm t9 0 = wm t3 0 := by
      show hI t9 400 _ = hI t3 400 _
      rw [et9, hI_sI, if_neg (by omega), hI_sI, if_neg (by omega)]
    rw [e1]
    exact g3.trans (cT.2 400 _ (by omega))
  have s9 : ∀ x, (x = 213 ∨ x = 214 ∨ 448 ≤ x) → x ≠ pt → sm hB h9 x := fun x hx hp => ⟨fun j => by rw [i9 x j (by omega), cH.2.2 x j (by omega)], fun j => by rw [r9 x j (by omega), cH.2.1 x j (by omega)], by rw [T9, TB'], by rw [L9, LB']⟩
  have n26 : ∀ j : Int, 0 ≤ j → j < m0 → ∀ o, o ≤ 12 → kd h p j + o ≠ pt := fun j j0 j1 o ho z => KD_26 (Q0 j j0 j1) ho (by rw [z]; exact p4.2.2)
  have npt : p ≠ pt := fun z => by have := Pw2.2.1.2.2.1; rw [z, p4.2.2] at this; omega
  have npt1 : p + 1 ≠ pt := fun z => by have := Pw2.2.1.2.2.2.2.1; rw [z, p4.2.2] at this; omega
  have PW9 : PW h9 t9 K p 0 m0 r0 := PW_l2 PaB (s9 p (by omega) npt) (s9 (p + 1) (by omega) npt1) (fun j j0 j1 o ho => s9 _ (by have := (Q0 j j0 j1).1; rw [kB]; omega) (by rw [kB]; exact n26 j j0 j1 o ho)) (by rw [N9, h2_N b4]; exact Nat.le_refl _) (fun v g v0 v1 g0 g1 => w9 v g v0 (by omega) g0 g1) m9
  have kd9 : ∀ u, kd h9 p u = kd h p u := fun u => by
    rw [← kB]
    unfold kd
    split
    · rfl
    · exact (s9 (p + 1) (by omega) npt1).2.1 _
  have ax20 : agx 2 0 m0 t t9 := fun k f k0 k1 f0 f1 hf => by rw [w9 k f k0 (by omega) f0 f1]; exact w1 k f k0 k1 f0 f1 (by omega)
  have ax10 : agx 1 0 m0 tB t9 := fun k f k0 k1 f0 f1 _ => w9 k f k0 (by omega) f0 f1
  have TB9 : TB h9 t9 p 0 m0 := TB_x Pw2.1 T2 kd9 (fun j j0 j1 o o8 ho => by
    have s := s9 (kd h p j + o) (by have := (Q0 j j0 j1).1; omega) (n26 j j0 j1 o ho)
    have ok : ∀ i, hI hB (kd h p j + o) i = hI h (kd h p j + o) i := fun i => b5 _ i (fun v v0 v1 z => by
      by_cases c : v = j
      · rw [c] at z; omega
      · have := kd_nw Pw2 v0 v1 j0 j1 c; omega)
    exact ⟨fun i => (s.1 i).trans (ok i), fun i => (s.2.1 i).trans (h2_R b4 _ i)⟩) ax20
  have lB : ∀ c, c < 40 → hI hB (215 + 4 * c) 1 = hI h (215 + 4 * c) 1 := fun c c40 => b5 _ 1 (fun v v0 v1 z => by have := (Q0 v v0 v1).1; omega)
  have CRB := RB.2.2.2.1
  -- who lives at the end
  have live : ∀ c, c < 40 → hI hB (215 + 4 * c) 1 = 1 → (wg tB 0 (hI tB 404 c) 4 = -1 ∧ hI h9 (215 + 4 * c) 1 = 0) ∨ (wg tB 0 (hI tB 404 c) 4 ≠ -1 ∧ hI h9 (215 + 4 * c) 1 = 1) := fun c c40 z => by
    rw [i9 _ _ (by omega)]
    by_cases y : wg tB 0 (hI tB 404 c) 4 = -1
    · exact .inl ⟨y, ((E c c40).2.1 z).1 y⟩
    · exact .inr ⟨y, (((E c c40).2.1 z).2 y).1⟩
  have dead : ∀ c, c < 40 → hI hB (215 + 4 * c) 1 = 0 → hI h9 (215 + 4 * c) 1 = 0 := fun c c40 z => by
    rw [i9 _ _ (by omega)]
    exact (E c c40).1 z
  have CR9 : CR h9 t9 p m0 q := by
    refine ⟨by rw [i9 8 8 (by omega), cH.2.2 8 8 (by omega)]; exact CRB.1, by rw [o9 395 33 (by omega), cT.2 395 33 (by omega)]; exact CRB.2.1, CRB.2.2.1, fun c c40 => ?_⟩
    obtain ⟨c0, c1, c2, c3⟩ := CRB.2.2.2 c c40
    refine ⟨?_, fun hq => ?_, fun hq => dead c c40 (c2 hq), fun z => ?_⟩
    · rcases c0 with y | y
      · exact .inl (dead c c40 y)
      · rcases live c c40 y with ⟨-, v⟩ | ⟨-, v⟩
        · exact .inl v
        · exact .inr v
    · rw [o9 403 c (by omega)]
      by_cases gn : gnBq tB c
      · have e1 : hI hB (215 + 4 * c) 1 = 1 := by
          rcases c0 with y | y
          · exact absurd ((c1 hq).trans y) gn.1
          · exact y
        rw [(DD.1 c).1 ⟨hq, gn⟩]
        rcases live c c40 e1 with ⟨-, v⟩ | ⟨v, -⟩
        · exact v.symm
        · exact absurd gn.2 v
      · rw [(DD.1 c).2 (fun w => gn w.2), c1 hq]
        rcases c0 with y | y
        · rw [y, dead c c40 y]
        · rw [y]
          rcases live c c40 y with ⟨v, -⟩ | ⟨-, v⟩
          · exact absurd ⟨by rw [c1 hq, y]; omega, v⟩ gn
          · exact v.symm
    · have e1 : hI hB (215 + 4 * c) 1 = 1 := by
        rcases c0 with y | y
        · have := dead c c40 y
          omega
        · exact y
      obtain ⟨⟨o0, o1, -⟩, ov⟩ := c3 e1
      have on : wg tB 0 (hI tB 404 c) 4 ≠ -1 := by
        rcases live c c40 e1 with ⟨-, v⟩ | ⟨v, -⟩
        · omega
        · exact v
      obtain ⟨f1, f2, f3, f4⟩ := ((E c c40).2.1 e1).2 on
      have fl := (E c c40).2.2
      generalize hold : wg tB 0 (hI tB 404 c) 4 = old at *
      have ob : 0 ≤ old ∧ old < m0 := by
        have := b4i (hI tB 404 c) o0 o1
        rw [← w0 (hI tB 404 c) 4 o0 (by omega) (by omega) (by omega), hold] at this
        exact this.resolve_left on
      have e404 : hI t9 404 c = old := by rw [o9 404 c (by omega)]; exact f2
      refine ⟨⟨by rw [e404]; exact ob.1, by rw [e404]; exact ob.2, by rw [r9 _ 2 (by omega), f3, e404, kd9, kB]⟩, fun n hn => ?_⟩
      obtain ⟨-, v2, v3, v4⟩ := ov n hn
      rw [e404, fAt_x ax10 PaB.1 (.inr ob), show 215 + 4 * c + 1 = 216 + 4 * c by omega, show 215 + 4 * c + 2 = 217 + 4 * c by omega, show 215 + 4 * c + 3 = 218 + 4 * c by omega, i9 _ _ (by omega), i9 _ _ (by omega), i9 _ _ (by omega), o9 405 _ (by omega), o9 406 _ (by omega), o9 407 _ (by omega), cT.2 406 _ (by omega), cT.2 407 _ (by omega), (fl n hn).1, (fl n hn).2]
      rw [show 215 + 4 * c + 2 = 217 + 4 * c by omega] at v2 v3 v4
      rw [show 215 + 4 * c + 3 = 218 + 4 * c by omega] at v4
      exact ⟨f4 n hn, v2, v3, v4⟩
  have RT9 : RT h9 t9 K p m0 q r0 := by
    refine ⟨⟨fun c c40 => ⟨?_, SHc_g (S.1 c c40).2 T9 L9 (fun j hj => ?_) ?_⟩, fun c c40 => ⟨?_, SHc_g (S.2 c c40).2 T9 L9 (fun j hj => ?_) ?_⟩⟩, PW9, TB9, CR9, hp2, fun x v hx => ⟨?_, fun j j0 j1 => ?_⟩⟩
    · rw [r9 19 c (by omega), cH.2.1 19 c (by omega), h2_R b4]; exact (S.1 c c40).1
    · rw [r9 _ j (by omega), cH.2.1 _ j (by omega), h2_R b4]
    · rw [i9 _ 0 (by omega), cH.2.2 _ 0 (by omega), b5 _ 0 (fun v v0 v1 z => by have := (Q0 v v0 v1).1; omega)]
    · rw [r9 49 c (by omega), cH.2.1 49 c (by omega), h2_R b4]; exact (S.2 c c40).1
    · rw [r9 _ j (by omega), cH.2.1 _ j (by omega), h2_R b4]
    · rw [i9 _ 0 (by omega), cH.2.2 _ 0 (by omega), b5 _ 0 (fun v v0 v1 z => by have := (Q0 v v0 v1).1; omega)]
    · rw [N9, T9]; exact (D x v hx).1
    · rw [kd9]; exact kk x v hx j j0 j1
  have p4C : 448 ≤ pt ∧ pt < hN hC ∧ hT hC pt = 26 := ⟨p4.1, by rw [NC]; exact p4.2.1, by rw [TC]; exact p4.2.2⟩
  have U9 := ok_RUN I'.1 (by rw [NC]; exact h448) okh okt p4C.2.2 p4.1 RT9 (by rw [o9 395 54 (by omega), cT.2 395 54 (by omega), ftB.2 395 54 (by omega)]; exact e54)
  have hptC : hR hC 50 l = pt := by rw [ehC, hR_sR, if_neg (by omega), h2_R b4]; exact hpt
  have dy : ∀ a, a < 10 → ((hI tC 423 a = 1 ∧ ∃ c : Nat, c < 40 ∧ hI tC 426 a = (c : Int) ∧ hI h9 (215 + 4 * c) 1 = 0) → hI t9 423 a = 0 ∧ hI t9 431 a = 3) ∧ (¬ (hI tC 423 a = 1 ∧ ∃ c : Nat, c < 40 ∧ hI tC 426 a = (c : Int) ∧ hI h9 (215 + 4 * c) 1 = 0) → hI t9 423 a = hI tC 423 a ∧ hI t9 431 a = hI tC 431 a) := fun a ha => by
    have ec : ∀ x j, x ≠ 395 → hI tC x j = hI tB x j := fun x j hx => by rw [etC, hI_sI, if_neg (by omega)]
    obtain ⟨-, ⟨-, La, LR⟩, -⟩ := id I'
    rw [ec 423 a (by omega), ec 426 a (by omega), ec 431 a (by omega), o9 423 a (by omega), o9 431 a (by omega)]
    have run := (La a ha).2.2.2.1
    rw [ec 423 a (by omega)] at run
    refine ⟨fun w => (DD.2 a).1 ?_, fun w => (DD.2 a).2 (fun z => w ?_)⟩
    · obtain ⟨y1, c, y2, y3, y4⟩ := w
      obtain ⟨x, c', Fr, -⟩ := LR a ha (by rw [ec 423 a (by omega)]; exact y1)
      obtain ⟨-, ⟨d1', d2', d3'⟩, g1', -⟩ := Fr
      rw [ec 426 a (by omega)] at g1'
      obtain rfl : c' = c := by omega
      have e1 : hI hB (215 + 4 * c') 1 = 1 := by rw [ehC, hI_sR] at d3'; exact d3'
      obtain ⟨-, c1, c2, -⟩ := CRB.2.2.2 c' y2
      have cq : c' < q := by
        by_cases v : c' < q
        · exact v
        · have := c2 (by omega); omega
      rcases live c' y2 e1 with ⟨v, -⟩ | ⟨-, v⟩
      · exact ⟨ha, by omega, c', cq, ⟨by rw [c1 cq, e1]; omega, v⟩, y3⟩
      · omega
    · obtain ⟨-, y1, c, y2, y3, y4⟩ := z
      have c40 : c < 40 := by have := CRB.2.2.1; omega
      obtain ⟨c0, c1, -, -⟩ := CRB.2.2.2 c c40
      have e1 : hI hB (215 + 4 * c) 1 = 1 := by
        rcases c0 with v | v
        · exact absurd ((c1 y2).trans v) y3.1
        · exact v
      refine ⟨run.resolve_left y1, c, c40, y4, ?_⟩
      rcases live c c40 e1 with ⟨-, v⟩ | ⟨v, -⟩
      · exact v
      · exact absurd y3.2 v
  obtain ⟨h3, z1, z2, z3⟩ := bk_all I' (by rw [NC]; exact h448) hl hptC p4C okh okt U9 dy (by rw [eh9, hI_sR, hI_sR, hI_sR, hI_sI, if_pos ⟨rfl, rfl⟩]) (by rw [et9, hI_sI, if_neg (by omega), hI_sI, if_pos ⟨rfl, rfl⟩]) (by rw [o9 395 28 (by omega), cT.2 395 28 (by omega), ftB.2 395 28 (by omega)]; exact w28) (by rw [r9 48 5 (by omega), cH.2.1 48 5 (by omega), h2_R b4]; exact w5) (fun k hk j j0 j1 => by rw [kd9]; exact dj k hk j j0 j1) ⟨CF_x ax10 PaB.1 CB1, G0, by rw [i9 48 9 (by omega), cH.2.2 48 9 (by omega)]; exact BB.2.2.2.2.2.2.2, by rw [o9 395 27 (by omega), cT.2 395 27 (by omega), ftB.2 395 27 (by omega)]; exact Gt, fun j j0 j1 => by rw [w9 j 2 j0 (by omega) (by omega) (by omega), w1 j 2 j0 j1 (by omega) (by omega) (by omega)]; exact (k1 j j0 j1).2⟩ ⟨by rw [T9, L9]; exact x1, fun c n hc hn => by rw [i9 _ n (by omega), ((E c hc).2.2 n hn).1]; exact BB.2.2.2.2.2.2.1 c n hc hn, fun j hj => by rw [o9 407 j (by omega), cT.2 407 j (by omega), ftB.2 407 j (by omega)]; exact x3 j hj⟩ (by rw [eh9, hR_sR, if_pos ⟨rfl, rfl⟩]) (.inl ⟨by rw [et9, hI_sI, if_pos ⟨rfl, rfl⟩], by rw [eh9, hR_sR, if_neg (by omega), hR_sR, if_neg (by omega), hR_sR, if_pos ⟨rfl, rfl⟩]⟩)
  obtain ⟨⟨y1, y2, y3, y4, y5⟩, y6, y7, -⟩ := id z2
  have e487 : hR h2 48 7 = pt := by rw [cH.2.1 48 7 (by omega), h2_R b4]; exact e7
  refine ⟨h3, t9, ?_, ?_, z3, ⟨⟨by rw [y4, N9]; exact Nat.le_refl _, by rw [y5, M9]; exact Nat.le_refl _⟩, JQ_eq (y1.trans J9) (by rw [y4, N9]; exact Nat.le_refl _), fun x hx => ⟨⟨by rw [y2, T9], by rw [y3, L9]⟩, fun j hj => ?_, fun j hj => ?_⟩⟩, ⟨?_, fun x j hx => ?_⟩, y4.trans N9, y5.trans M9⟩
  · have e178 : c178 h = some 1 := by
      unfold c178
      rw [e7, e8, w5]
      refine (bnd (hnul_8 (by omega)) rfl).trans ?_
      rw [if_neg (by decide)]
      refine (bnd (hnul_8 (by omega)) rfl).trans ?_
      rw [if_neg (by decide)]
      refine bnd hnul_0 ?_
      rw [if_pos rfl]
    have e179 : c179 P h = some (p, sR (sR (sI h2 pt 1 5) 48 7 0) 48 8 0) := by
      unfold c179
      rw [e8]
      refine bnd (kT_s Pw2.2.1.2.2.1) ?_
      refine bnd b1 ?_
      refine bnd d1 ?_
      rw [e487]
      refine bnd (pI_s (by rw [cH.1.2.1, TB']; exact p4.2.2)) ?_
      rfl
    unfold c177
    refine bnd e178 ?_
    rw [if_neg (by omega), e87]
    refine bnd e179 ?_
    refine bnd rfl ?_
    refine bnd (show c165 (sR (sR (sR (sI h2 pt 1 5) 48 7 0) 48 8 0) 8 7 p) = some h3 by rw [← eh9]; exact z1) ?_
    rfl
  · unfold c299
    rw [if_neg (by omega), if_pos w28]
    refine bnd a1 ?_
    refine bnd b2 ?_
    refine bnd d2 ?_
    refine bnd g1 ?_
    have e : hI t3 395 29 = (l : Int) := by rw [g2.2 395 29 (by omega), cT.2 395 29 (by omega), ftB.2 395 29 (by omega)]; exact e29
    rw [e]
    refine bnd (wIs_s (by omega) (by omega)) ?_
    refine bnd rfl ?_
    rw [Int.toNat_natCast, ← et9]
  · rw [y6, r9 x j (by omega), cH.2.1 x j (by omega), h2_R b4]
  · rw [y7 x j (fun w => by obtain ⟨a, w1, w2, -⟩ := w; omega), i9 x j (by omega), cH.2.2 x j (by omega), b5 x j (fun v v0 v1 z => by have := (Q0 v v0 v1).1; omega)]
  · rw [et9]; exact g2.1.trans (cT.1.trans ftB.1)
  · rw [o9 x j (by omega), cT.2 x j (by omega), ftB.2 x j (by omega)]
/-- call 27: back -/
theorem api27 (I : INq K P m q r κ G R0 R1 h t) (h448 : 448 ≤ hN h) : ∃ v h' t' p' m' r', c177 h = some (v, h') ∧ c299 t = some (v, t') ∧ INq K p' m' q r' κ G R0 R1 h' t' ∧ QPc h h' ∧ QPt t t' ∧ hN h' = hN h ∧ hM h' = hM h := by
  have PTh := I.2.2.1
  have no : ∀ h1 t1, c177 h = some (0, h) → c299 t = some (0, t) → h1 = h → t1 = t → ∃ v h' t' p' m' r', c177 h = some (v, h') ∧ c299 t = some (v, t') ∧ INq K p' m' q r' κ G R0 R1 h' t' ∧ QPc h h' ∧ QPt t t' ∧ hN h' = hN h ∧ hM h' = hM h := fun h1 t1 e1 e2 _ _ => ⟨0, h, t, P, m, r, e1, e2, I, ⟨⟨Nat.le_refl _, Nat.le_refl _⟩, JQ_rf, fun x hx => ⟨⟨rfl, rfl⟩, fun _ _ => rfl, fun _ _ => rfl⟩⟩, fp_rf, rfl, rfl⟩
  rcases I.2.2.2.2.2.2.2.2 with ⟨z1, z2⟩ | ⟨l, p, m0, r0, hl, e29, e7, e8, Q, dj⟩
  · refine no h t ?_ ?_ rfl rfl
    · unfold c177 c178
      rw [z2]
      refine (bnd (bnd hnul_0 (if_pos rfl)) ?_)
      rw [if_pos rfl]
    · unfold c299
      rw [if_pos z1]
  · rcases PTh.2.2.2.2.2 with ⟨w28, w5⟩ | ⟨w0, w1, w2, -⟩
    · obtain ⟨h', t', a1, a2, a3, a4, a5, a6, a7⟩ := BK_e I h448 hl e29 e7 e8 Q dj w28 w5
      exact ⟨1, h', t', p, m0, r0, a1, a2, a3, a4, a5, a6, a7⟩
    · have p1 := (PTh.2.2.2.1 l hl).1.1
      have p2 := (PTh.2.2.2.1 (hI t 395 28).toNat (by omega)).1.1
      have p213 := Q.1.2.1.1
      refine no h t ?_ ?_ rfl rfl
      · have e178 : c178 h = some 0 := by
          unfold c178
          rw [e7, e8, w2]
          refine (bnd (hnul_8 (by omega)) rfl).trans ?_
          rw [if_neg (by decide)]
          refine (bnd (hnul_8 (by omega)) rfl).trans ?_
          rw [if_neg (by decide)]
          refine (bnd (hnul_8 (by omega)) rfl).trans ?_
          rw [if_neg (by decide)]
        unfold c177
        refine bnd e178 ?_
        rw [if_pos rfl]
      · unfold c299
        rw [if_neg (by omega), if_neg (by omega)]
end BK8
