/-! a patch is made: the new pond lives, the former one is kept -/
/-- the former pond p beside the other side's third world, the pond P in force came out of it -/
def BKq (h t : hS) (K : Nat → Int → Prop) (P m p m0 : Nat) (r0 : Int → Nat) (G : Int) : Prop := PW h t K p 2 m0 r0 ∧ TB h t p 2 m0 ∧ CF t 2 m0 ∧ (p = 213 ∨ 448 ≤ p) ∧ FFq h t P 0 m ∧ (∀ j : Int, 0 ≤ j → j < m → KOg t 0 2 m0 j ∧ (wg t 0 j 3 = 1 ↔ wg t 0 j 2 = G) ∧ (wg t 0 j 3 ≠ 1 → ∀ n, (fAt t 0 j n ≠ -1 ↔ fAt t 2 (wg t 0 j 4) n ≠ -1))) ∧ (p + 1 < P ∧ (∀ j : Int, 0 ≤ j → j < m0 → kd h p j + 13 ≤ P ∧ 0 ≤ wg t 2 j 2 ∧ wg t 2 j 2 ≤ G) ∧ ∀ j : Int, 0 ≤ j → j < m → P + 2 ≤ kd h P j) ∧ ∀ x v, K x v → ∀ j : Int, 0 ≤ j → j < m0 → x < kd h p j ∨ kd h p j + 13 ≤ x
section LV2
variable {h h' h0 hX hZ hY h6 h8 t t' tX tZ tY t5 t6 t7 : hS} {K : Nat → Int → Prop} {p m0 m q k pt S A qq N0 c : Nat} {r0 r : Int → Nat} {G : Int} {us Lc : List Nat} {f : Nat} {P tx pk : Nat} {fi : Int}
theorem FN_w (F : FNq hZ hY t5 h8 t7 p pt k q G) : wg t7 = wg t5 := by
  funext w a b
  exact F.2.2.2.2.1.1.2 400 _ (by omega)
theorem FN_PW (B : CAB hZ tZ h0 K p P m0 m q r0 r G pt S A qq N0 tx pk us Lc fi) (C : CYq hZ tZ P m q 40 hY tY) (M : MVq tY t5 m q) (BB : CKB hY t5 K P m q r) (F : FNq hZ hY t5 h8 t7 p pt k q G) : PW h8 t7 K P 0 m r ∧ (∀ u, kd h8 P u = kd hZ P u) ∧ (∀ u, kd hY P u = kd hZ P u) ∧ TB h8 t7 P 0 m := by
  obtain ⟨-, ⟨Pw1, -, -, ⟨kb, -⟩, -⟩, ⟨-, P448, -⟩, ⟨hpt, -⟩, -⟩ := B
  obtain ⟨⟨⟨cHY, cTY⟩, -⟩, ⟨PwY, TBY, -⟩⟩ := And.intro C BB
  have wz := FN_w F
  obtain ⟨⟨e1, e2, e3, e4⟩, s8, -, -, ⟨ft, -⟩, -⟩ := F
  have kk : ∀ u : Int, kd hY P u = kd hZ P u := kd_cy Pw1 cHY (.inr P448)
  have sY : ∀ x, P ≤ x → sm hY h8 x := fun x hx => by
    obtain ⟨s1, s2, s3, s4⟩ := s8 x (by omega)
    exact ⟨fun j => by rw [s1, cHY.2.2 x j (by omega)], fun j => by rw [s2, cHY.2.1 x j (by omega)], by rw [s3, cHY.1.2.1], by rw [s4, cHY.1.2.2.1]⟩
  have k8 : ∀ u : Int, kd h8 P u = kd hY P u := fun u => by
    unfold kd
    split
    · rfl
    · exact (sY (P + 1) (by omega)).2.1 _
  have kb2 : ∀ j : Int, 0 ≤ j → j < m → P ≤ kd hY P j := fun j j0 j1 => by rw [kk]; have := kb j j0 j1; omega
  have ek : ∀ j : Int, 0 ≤ j → j < m → ∀ o, o ≤ 12 → sm hY h8 (kd hY P j + o) := fun j j0 j1 o ho => sY _ (by have := kb2 j j0 j1; omega)
  refine ⟨PW_l2 PwY (sY P (Nat.le_refl _)) (sY (P + 1) (by omega)) ek (by rw [e3, cHY.1.2.2.2.1]; exact Nat.le_refl _) (fun v g _ _ _ _ => by rw [wz]) (by show hI t7 400 _ = hI t5 400 _; exact ft.2 400 _ (by omega)), fun u => (k8 u).trans (kk u), kk, TB_l2 PwY.1 TBY k8 (fun j j0 j1 o _ ho => ⟨(ek j j0 j1 o ho).1, (ek j j0 j1 o ho).2.1⟩) (fun v g _ _ _ _ => by rw [wz])⟩
theorem FN_C1 (c40 : c < 40) (wz : wg t7 = wg t5) (kk : kd h8 P (hI t5 404 c) = kd hY P (hI t5 404 c)) (e2 : hR h8 (215 + 4 * c) 2 = hR hY (53 + 4 * c) 2) (ev : ∀ n, n < 40 → hI h8 (216 + 4 * c) n = hI hY (54 + 4 * c) n ∧ hI h8 (217 + 4 * c) n = hI hY (55 + 4 * c) n ∧ hI h8 (218 + 4 * c) n = hI hY (56 + 4 * c) n) (et : ∀ x j, 404 ≤ x → x ≤ 407 → hI t7 x j = hI t5 x j) (Q : C1a hY t5 P m (53 + 4 * c) c) : C1 h8 t7 P m c := by
  obtain ⟨⟨k0, k1, k2⟩, kv⟩ := Q
  have e4 : hI t7 404 c = hI t5 404 c := et 404 c (by omega) (by omega)
  refine ⟨⟨by rw [e4]; exact k0, by rw [e4]; exact k1, by rw [e2, e4, kk]; exact k2⟩, fun n hn => ?_⟩
  obtain ⟨v1, v2, v3, v4⟩ := kv n hn
  obtain ⟨x1, x2, x3⟩ := ev n hn
  rw [show 53 + 4 * c + 1 = 54 + 4 * c by omega] at v1
  rw [show 53 + 4 * c + 2 = 55 + 4 * c by omega] at v2 v3 v4
  rw [show 53 + 4 * c + 3 = 56 + 4 * c by omega] at v4
  rw [e4, fAt_cg (hr := t5) (hr' := t7) (w := 0) (fun a b => by rw [wz]), show 215 + 4 * c + 1 = 216 + 4 * c by omega, show 215 + 4 * c + 2 = 217 + 4 * c by omega, show 215 + 4 * c + 3 = 218 + 4 * c by omega, x1, x2, x3, et 405 _ (by omega) (by omega), et 406 _ (by omega) (by omega), et 407 _ (by omega) (by omega)]
  exact ⟨v1, v2, v3, v4⟩
/-- the creatures, beside the other side's -/
theorem FN_CR (B : CAB hZ tZ h0 K p P m0 m q r0 r G pt S A qq N0 tx pk us Lc fi) (C : CYq hZ tZ P m q 40 hY tY) (M : MVq tY t5 m q) (BB : CKB hY t5 K P m q r) (F : FNq hZ hY t5 h8 t7 p pt k q G) : CR h8 t7 P m q := by
  obtain ⟨-, k8, kk, -⟩ := FN_PW B C M BB F
  have wz := FN_w F
  obtain ⟨RT0, -⟩ := id B
  obtain ⟨-, -, -, CR0, -⟩ := RT0
  obtain ⟨⟨cHY, cTY⟩, -⟩ := id C
  obtain ⟨-, -, -, ⟨e33, q40⟩, -, CC, -⟩ := id BB
  obtain ⟨-, -, ⟨e88, -⟩, fc, ⟨ft, f3, -⟩, -⟩ := id F
  refine ⟨by rw [e88]; exact CR0.1, by rw [ft.2 395 33 (by omega)]; exact e33, q40, fun c c40 => ?_⟩
  obtain ⟨x1, x2, x3⟩ := fc c c40
  obtain ⟨y1, y2, y3, y4⟩ := CC c c40
  have e403 : c < q → hI t5 403 c = 0 ∨ hI t5 403 c = 1 := fun h => by
    rw [M.1.2 403 c (by omega), cTY.2 403 c (by omega), (CR0.2.2.2 c c40).2.1 h]
    exact (CR0.2.2.2 c c40).1
  rw [x2]
  refine ⟨y1, fun hq => ?_, y3, fun hl => FN_C1 c40 wz ((k8 _).trans (kk _).symm) x1 x3 (fun x j _ _ => ft.2 x j (by omega)) (y4 hl)⟩
  by_cases g : gnq t5 c
  · rw [(f3 c).1 ⟨hq, g⟩]
    rcases y1 with z | z
    · exact z.symm
    · exact absurd g.2 ((y2 hq).1 z).2
  · rw [(f3 c).2 (fun w => g w.2)]
    rcases e403 hq with z | z
    · rw [z]
      rcases y1 with w | w
      · exact w.symm
      · exact absurd z ((y2 hq).1 w).1
    · rw [z]
      refine ((y2 hq).2 ⟨by omega, fun w => g ⟨by omega, w⟩⟩).symm
theorem FN_RT (B : CAB hZ tZ h0 K p P m0 m q r0 r G pt S A qq N0 tx pk us Lc fi) (C : CYq hZ tZ P m q 40 hY tY) (M : MVq tY t5 m q) (BB : CKB hY t5 K P m q r) (F : FNq hZ hY t5 h8 t7 p pt k q G) (HK : ∀ x v, K x v → x < P) : RT h8 t7 K P m q r := by
  obtain ⟨Pw, k8, kk, Tb⟩ := FN_PW B C M BB F
  have Cr := FN_CR B C M BB F
  obtain ⟨RT0, ⟨Pw1, -, -, ⟨kb, -⟩, -⟩, ⟨-, P448, -⟩, -⟩ := id B
  obtain ⟨-, -, -, -, -, KD0⟩ := RT0
  obtain ⟨⟨e1, e2, e3, e4⟩, -, ⟨-, fs⟩, -⟩ := id F
  refine ⟨⟨fun c c40 => (fs c c40).1, fun c c40 => (fs c c40).2⟩, Pw, Tb, Cr, .inr P448, fun x v hx => ⟨?_, fun j j0 j1 => ?_⟩⟩
  · rw [e1, e3]
    exact (KD0 x v hx).1
  · rw [k8]
    have := HK x v hx
    have := kb j j0 j1
    omega
theorem wg_7 (M : MVq tY t5 m q) (cT : cyT tZ tY) (F : FNq hZ hY t5 h8 t7 p pt k q G) {v g : Int} (v0 : 0 ≤ v) (v1 : v < 12) (g0 : 0 ≤ g) (g1 : g < 64) : wg t7 0 v g = wg tZ 1 v g ∧ wg t7 2 v g = wg tZ 0 v g := by
  rw [FN_w F, (wg_mv M v0 v1 g0 g1).1, (wg_mv M v0 v1 g0 g1).2.1, cyT_w cT, cyT_w cT]
  exact ⟨rfl, rfl⟩
theorem FN_CF (B : CAB hZ tZ h0 K p P m0 m q r0 r G pt S A qq N0 tx pk us Lc fi) (C : CYq hZ tZ P m q 40 hY tY) (M : MVq tY t5 m q) (F : FNq hZ hY t5 h8 t7 p pt k q G) : CF t7 0 m ∧ ∀ j : Int, 0 ≤ j → j < m → 0 ≤ wg t7 0 j 2 ∧ wg t7 0 j 2 ≤ G := by
  obtain ⟨-, ⟨Pw1, -, C1', -, KOs⟩, -⟩ := id B
  have hm := Pw1.1.2.1
  have w7 := fun {v g : Int} => wg_7 (v := v) (g := g) M C.1.2 F
  refine ⟨CF_w (fun a b a0 a1 b0 b1 => (w7 a0 (by omega) b0 b1).1) Pw1.1 C1', fun j j0 j1 => ?_⟩
  rw [(w7 j0 (by omega) (by omega) (by omega)).1]
  exact (KOs j j0 j1).1.2.2.1
theorem FN_BK (B : CAB hZ tZ h0 K p P m0 m q r0 r G pt S A qq N0 tx pk us Lc fi) (C : CYq hZ tZ P m q 40 hY tY) (M : MVq tY t5 m q) (BB : CKB hY t5 K P m q r) (F : FNq hZ hY t5 h8 t7 p pt k q G) (pP : p + 1 < P) (gens : ∀ j : Int, 0 ≤ j → j < m0 → 0 ≤ wg tZ 0 j 2 ∧ wg tZ 0 j 2 ≤ G) (kP : ∀ j : Int, 0 ≤ j → j < m0 → kd hZ p j + 13 ≤ P) : BKq h8 t7 K P m p m0 r0 G := by
  obtain ⟨-, k8, -, -⟩ := FN_PW B C M BB F
  obtain ⟨RT0, ⟨Pw1, -, C1', ⟨kb, -⟩, KOs⟩, ⟨C0, P448, -⟩, ⟨hpt, -⟩, Sm, -⟩ := id B
  obtain ⟨-, Pw0, TB0, -, hp, KD0⟩ := RT0
  obtain ⟨⟨cHY, cTY⟩, -⟩ := id C
  have hm := Pw1.1.2.1
  have hm0 := Pw0.1.2.1
  have w7 := fun {v g : Int} => wg_7 (v := v) (g := g) M cTY F
  obtain ⟨⟨e1, e2, e3, e4⟩, s8, -, -, ⟨ft, -⟩, -⟩ := id F
  have p26 : hT hZ pt = 26 := by rw [(Sm pt hpt.2.2).2.2.1]; exact hpt.1
  have ptp : p ≠ pt := fun z => by have := Pw0.2.1.2.2.1; rw [z, p26] at this; omega
  have ptp1 : p + 1 ≠ pt := fun z => by have := Pw0.2.1.2.2.2.2.1; rw [z, p26] at this; omega
  have ek : ∀ j : Int, 0 ≤ j → j < m0 → ∀ o, o ≤ 12 → sm hZ h8 (kd hZ p j + o) := fun j j0 j1 o ho => s8 _ (.inl ⟨by have := (Pw0.2.2.1 j j0 j1).1.1; omega, fun z => KD_26 (Pw0.2.2.1 j j0 j1).1 ho (by rw [z]; exact p26)⟩)
  have sp1 := s8 (p + 1) (by omega)
  have kp : ∀ u : Int, kd h8 p u = kd hZ p u := fun u => by
    unfold kd
    split
    · rfl
    · exact sp1.2.1 _
  have e2' : ∀ v g : Int, 0 ≤ v → v < m0 → 0 ≤ g → g < 64 → wg t7 2 v g = wg tZ 0 v g := fun v g v0 v1 g0 g1 => (w7 v0 (by omega) g0 g1).2
  have e0' : ∀ v g : Int, 0 ≤ v → v < m → 0 ≤ g → g < 64 → wg t7 0 v g = wg tZ 1 v g := fun v g v0 v1 g0 g1 => (w7 v0 (by omega) g0 g1).1
  have em : wm t7 2 = wm tZ 0 := by
    show hI t7 400 (769 * (2 : Int)).toNat = hI tZ 400 (769 * (0 : Int)).toNat
    have := (M.2.1 0 (by omega)).2.1
    rw [show (769 * (2 : Int)).toNat = 1538 + 0 by omega, show (769 * (0 : Int)).toNat = 0 by omega, ft.2 400 _ (by omega), this, cTY.2 400 _ (by omega)]
  have Pw2 : PW h8 t7 K p 2 m0 r0 := PW_l2 Pw0 (s8 p (by omega)) sp1 ek (by omega) e2' em
  have ax0 : agx 0 2 m0 tZ t7 := fun a b a0 a1 b0 b1 _ => e2' a b a0 a1 b0 b1
  have ax1 : agx 1 0 m tZ t7 := fun a b a0 a1 b0 b1 _ => e0' a b a0 a1 b0 b1
  refine ⟨Pw2, TB_l2 Pw0.1 TB0 kp (fun j j0 j1 o _ ho => ⟨(ek j j0 j1 o ho).1, (ek j j0 j1 o ho).2.1⟩) e2', CF_x ax0 Pw0.1 C0, hp, fun j j0 j1 i hi => ?_, fun j j0 j1 => ⟨?_, ?_, fun z n => ?_⟩, ⟨pP, fun j j0 j1 => ⟨by rw [kp]; exact kP j j0 j1, ?_⟩, fun j j0 j1 => by rw [k8]; exact kb j j0 j1⟩, fun x v hx j j0 j1 => by rw [kp]; exact (KD0 x v hx).2 j j0 j1⟩
  · have w5 := (Pw1.1.2.2 j j0 j1).2.2.1
    rw [e0' j 5 j0 j1 (by omega) (by omega)] at hi
    rw [e0' j _ j0 j1 (by omega) (by omega), k8, (s8 _ (.inl ⟨by have := kb j j0 j1; omega, by have := kb j j0 j1; omega⟩)).1]
    exact (KOs j j0 j1).2.1 i hi
  · have w5 := (Pw1.1.2.2 j j0 j1).2.2.1
    exact KOg_l2 Pw0.1 (KO_g (KOs j j0 j1).1) j0 w5.2 hm0 (fun g g0 g1 => e0' j g j0 j1 g0 (by omega)) e2'
  · rw [e0' j 3 j0 j1 (by omega) (by omega), e0' j 2 j0 j1 (by omega) (by omega)]
    exact (KOs j j0 j1).2.2.1
  · rw [e0' j 3 j0 j1 (by omega) (by omega)] at z
    have b4 : wg tZ 1 j 4 = -1 ∨ (0 ≤ wg tZ 1 j 4 ∧ wg tZ 1 j 4 < m0) := by
      rw [(KO_g (KOs j j0 j1).1).1]
      rcases ix_b (fun k : Nat => wg tZ 0 (k : Int) 0) (wg tZ 1 j 0) m0 with y | ⟨y, y1, y2, -⟩
      · exact .inl y
      · rw [y1]
        exact .inr ⟨by omega, by omega⟩
    rw [e0' j 4 j0 j1 (by omega) (by omega), fAt_x ax0 Pw0.1 b4, fAt_x ax1 Pw1.1 (.inr ⟨j0, j1⟩)]
    exact (KOs j j0 j1).2.2.2 z n
  · rw [e2' j 2 j0 j1 (by omega) (by omega)]
    exact gens j j0 j1
/-- what has been lost is yes or no, on the other side as well -/
theorem FN_407 (cT : cyT tZ tY) (M : MVq tY t5 m q) (F : FNq hZ hY t5 h8 t7 p pt k q G) (b7 : ∀ j, j < 1600 → hI tZ 407 j = 0 ∨ hI tZ 407 j = 1) : ∀ j, j < 1600 → hI t7 407 j = 0 ∨ hI t7 407 j = 1 := fun j hj => by
  rw [F.2.2.2.2.1.1.2 407 j (by omega)]
  obtain ⟨c, n, hc, hn, rfl⟩ : ∃ c n, c < 40 ∧ n < 40 ∧ j = 40 * c + n := ⟨j / 40, j % 40, by omega, by omega, by omega⟩
  have b := b7 (40 * c + n) hj
  rw [← cT.2 407 _ (by omega)] at b
  by_cases z : c < q ∧ hI tY 446 c ≠ -1 ∧ wg tY 1 (hI tY 446 c) 3 = 1
  · obtain ⟨-, r1, r2⟩ := (M.2.2.2.2.2 c hc).1 z n hn
    by_cases L : LSq tY m (hI tY 404 c) (hI tY 446 c) n
    · exact .inr (r1 L).1
    · rw [(r2 L).1]
      exact b
  · rw [((M.2.2.2.2.2 c hc).2 z n hn).2.2]
    exact b
end LV2
