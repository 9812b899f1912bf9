/-! call 27: back: all the creatures -/
/-- what bringing the creatures back rests on: pond P in force, p the former one -/
def BKB (hB tB : hS) (K : Nat → Int → Prop) (p P m m0 q : Nat) (r r0 : Int → Nat) (G : Int) : Prop := BSq hB tB K p P m m0 r r0 ∧ SH hB ∧ CR hB tB P m q ∧ (WF tB 2 m0 r0 ∧ ∀ v g : Int, 0 ≤ v → v < m0 → 0 ≤ g → g < 64 → ¬ (35 ≤ g ∧ g < 39) → wg tB 1 v g = wg tB 2 v g) ∧ (∀ j : Int, 0 ≤ j → j < m → (wg tB 0 j 3 = 1 ↔ wg tB 0 j 2 = G) ∧ (wg tB 0 j 3 ≠ 1 → ∀ n, (fAt tB 0 j n ≠ -1 ↔ fAt tB 1 (wg tB 0 j 4) n ≠ -1))) ∧ (hT hB 52 = 1 ∧ hL hB 52 = 40) ∧ (∀ c n : Nat, c < 40 → n < 40 → hI hB (217 + 4 * c) n = 0 ∨ hI hB (217 + 4 * c) n = 1) ∧ hI hB 48 9 = G
/-- whose kind has no former one -/
def gnBq (tB : hS) (c : Nat) : Prop := hI tB 403 c ≠ 0 ∧ wg tB 0 (hI tB 404 c) 4 = -1
def bkH (h h' : hS) : Prop := (hJ h' = hJ h ∧ hT h' = hT h ∧ hL h' = hL h ∧ hN h' = hN h ∧ hM h' = hM h) ∧ (∀ x j, ¬ (((53 ≤ x ∧ x < 213 ∧ (x - 53) % 4 = 0) ∨ (215 ≤ x ∧ x < 375 ∧ (x - 215) % 4 = 0)) ∧ j = 2) → hR h' x j = hR h x j) ∧ ∀ x j, ¬ (x = 52 ∨ (53 ≤ x ∧ x < 213 ∧ ¬ ((x - 53) % 4 = 0 ∧ j ≠ 1)) ∨ (215 ≤ x ∧ x < 375 ∧ ¬ ((x - 215) % 4 = 0 ∧ j ≠ 1))) → hI h' x j = hI h x j
def bkT (t t' : hS) : Prop := fp (fun x _ => (403 ≤ x ∧ x ≤ 405) ∨ x = 423 ∨ x = 431 ∨ x = 440 ∨ x = 442) t t'
/-- those below i of g have died, with their long acts -/
def DBq (g : Nat → Prop) (t0 t : hS) (i : Nat) : Prop := (∀ c, (c < i ∧ g c → hI t 403 c = 0) ∧ (¬ (c < i ∧ g c) → hI t 403 c = hI t0 403 c)) ∧ ∀ l, ((l < 10 ∧ hI t0 423 l ≠ 0 ∧ ∃ c, c < i ∧ g c ∧ hI t0 426 l = (c : Int)) → hI t 423 l = 0 ∧ hI t 431 l = 3) ∧ (¬ (l < 10 ∧ hI t0 423 l ≠ 0 ∧ ∃ c, c < i ∧ g c ∧ hI t0 426 l = (c : Int)) → hI t 423 l = hI t0 423 l ∧ hI t 431 l = hI t0 431 l)
/-- creature c is back -/
def BCq (hB tB : hS) (p : Nat) (c : Nat) (h t : hS) : Prop := (hI hB (215 + 4 * c) 1 = 0 → hI h (215 + 4 * c) 1 = 0) ∧ (hI hB (215 + 4 * c) 1 = 1 → (wg tB 0 (hI tB 404 c) 4 = -1 → hI h (215 + 4 * c) 1 = 0) ∧ (wg tB 0 (hI tB 404 c) 4 ≠ -1 → hI h (215 + 4 * c) 1 = 1 ∧ hI t 404 c = wg tB 0 (hI tB 404 c) 4 ∧ hR h (215 + 4 * c) 2 = kd hB p (wg tB 0 (hI tB 404 c) 4) ∧ ∀ n : Nat, n < 40 → fAt tB 1 (wg tB 0 (hI tB 404 c) 4) n ≠ -1 → hI h (216 + 4 * c) n = hI t 405 (40 * c + n))) ∧ ∀ n : Nat, n < 40 → hI h (217 + 4 * c) n = hI hB (217 + 4 * c) n ∧ hI h (218 + 4 * c) n = hI hB (218 + 4 * c) n
def BLq (hB tB : hS) (p i : Nat) (h t : hS) : Prop := (bkH hB h ∧ bkT tB t) ∧ (∀ c, c < i → BCq hB tB p c h t) ∧ (∀ c, i ≤ c → c < 40 → (∀ x j, 215 + 4 * c ≤ x → x ≤ 218 + 4 * c → hI h x j = hI hB x j ∧ hR h x j = hR hB x j) ∧ hI t 404 c = hI tB 404 c ∧ ∀ n : Nat, n < 40 → hI t 405 (40 * c + n) = hI tB 405 (40 * c + n)) ∧ DBq (gnBq tB) tB t i
section BK4
variable {h hB h0 g0 h' h1 t tB tt t' t1 : hS} {K : Nat → Int → Prop} {p P m m0 q len c a i : Nat} {r r0 : Int → Nat} {k old u s G : Int} {g : Nat → Prop} {t0 : hS}
theorem DB_no (C : DBq g t0 t i) (z : ¬ g i) : DBq g t0 t (i + 1) := by
  obtain ⟨c2, c3⟩ := C
  refine ⟨fun c => ⟨fun y => (c2 c).1 ⟨?_, y.2⟩, fun y => (c2 c).2 (fun w => y ⟨by omega, w.2⟩)⟩, fun l => ⟨fun y => (c3 l).1 ?_, fun y => (c3 l).2 (fun w => y ?_)⟩⟩
  · have : c ≠ i := fun e => z (e ▸ y.2)
    omega
  · obtain ⟨y1, y2, a, y3, y4, y5⟩ := y
    have : a ≠ i := fun e => z (e ▸ y4)
    exact ⟨y1, y2, a, by omega, y4, y5⟩
  · obtain ⟨y1, y2, a, y3, y4, y5⟩ := w
    exact ⟨y1, y2, a, by omega, y4, y5⟩
theorem DB_fr (C : DBq g t0 t i) (e : ∀ x j, (x = 403 ∨ x = 423 ∨ x = 431) → hI t' x j = hI t x j) : DBq g t0 t' i := by
  obtain ⟨c2, c3⟩ := C
  refine ⟨fun c => ?_, fun l => ?_⟩
  · rw [e 403 c (by omega)]
    exact c2 c
  · rw [e 423 l (by omega), e 431 l (by omega)]
    exact c3 l
theorem DB_ye (C : DBq g t0 t i) (z : g i) (e : t1 = sI t 403 i 0) (L : LDq t1 t' i 10) (e6' : ∀ l, hI t 426 l = hI t0 426 l) : DBq g t0 t' (i + 1) := by
  obtain ⟨c2, c3⟩ := C
  obtain ⟨l1, l2, l3⟩ := L
  have o1 : ∀ x j, ¬ (x = 403 ∧ j = i) → hI t1 x j = hI t x j := fun x j hx => by rw [e, hI_sI, if_neg hx]
  refine ⟨fun c => ?_, fun l => ?_⟩
  · rw [l1.2 403 c (by omega)]
    by_cases y : c = i
    · subst y
      exact ⟨fun _ => by rw [e, hI_sI, if_pos ⟨rfl, rfl⟩], fun w => absurd ⟨by omega, z⟩ w⟩
    · rw [o1 403 c (by omega)]
      exact ⟨fun w => (c2 c).1 ⟨by omega, w.2⟩, fun w => (c2 c).2 (fun v => w ⟨by omega, v.2⟩)⟩
  · have e3 : hI t1 423 l = hI t 423 l := o1 423 l (by omega)
    have e31 : hI t1 431 l = hI t 431 l := o1 431 l (by omega)
    have e6 : hI t1 426 l = hI t0 426 l := by rw [o1 426 l (by omega), e6']
    by_cases l10 : l < 10
    · obtain ⟨d1, d2⟩ := l2 l l10
      rw [e3, e6] at d1 d2
      rw [e31] at d2
      by_cases b : l < 10 ∧ hI t0 423 l ≠ 0 ∧ ∃ c, c < i ∧ g c ∧ hI t0 426 l = (c : Int)
      · obtain ⟨z1, z2⟩ := (c3 l).1 b
        obtain ⟨w1, w2⟩ := d2 (fun w => w.1 z1)
        refine ⟨fun _ => ⟨w1.trans z1, w2.trans z2⟩, fun w => absurd ?_ w⟩
        obtain ⟨b1, b2, a, b3, b4, b5⟩ := b
        exact ⟨b1, b2, a, by omega, b4, b5⟩
      · obtain ⟨z1, z2⟩ := (c3 l).2 b
        rw [z1] at d1 d2
        rw [z2] at d2
        by_cases y : hI t0 423 l ≠ 0 ∧ hI t0 426 l = (i : Int)
        · exact ⟨fun _ => d1 y, fun w => absurd ⟨l10, y.1, i, by omega, z, y.2⟩ w⟩
        · refine ⟨fun w => ?_, fun _ => d2 y⟩
          obtain ⟨w1, w2, a, w3, w4, w5⟩ := w
          by_cases az : a = i
          · subst az
            exact absurd ⟨w2, w5⟩ y
          · exact absurd ⟨w1, w2, a, by omega, w4, w5⟩ b
    · obtain ⟨d1, d2⟩ := l3 l (by omega)
      refine ⟨fun w => by have := w.1; omega, fun _ => ?_⟩
      obtain ⟨z1, z2⟩ := (c3 l).2 (fun w => by have := w.1; omega)
      exact ⟨d1.trans (e3.trans z1), d2.trans (e31.trans z2)⟩
theorem bkH_rf : bkH h h := ⟨⟨rfl, rfl, rfl, rfl, rfl⟩, fun _ _ _ => rfl, fun _ _ _ => rfl⟩
theorem bkH_tr (p : bkH h h1) (q : bkH h1 h') : bkH h h' := ⟨⟨q.1.1.trans p.1.1, q.1.2.1.trans p.1.2.1, q.1.2.2.1.trans p.1.2.2.1, q.1.2.2.2.1.trans p.1.2.2.2.1, q.1.2.2.2.2.trans p.1.2.2.2.2⟩, fun x j z => (q.2.1 x j z).trans (p.2.1 x j z), fun x j z => (q.2.2 x j z).trans (p.2.2 x j z)⟩
theorem bkH_C (c40 : c < 40) (b : bkC c h h') : bkH h h' := ⟨b.1, fun x j z => b.2.1 x j (fun w => z (by omega)), fun x j z => b.2.2 x j (fun w => z (by omega))⟩
theorem bkH_sm (b : bkH h h') {x : Nat} (hx : x = 213 ∨ x = 214 ∨ 375 ≤ x) : sm h h' x := ⟨fun j => b.2.2 x j (by omega), fun j => b.2.1 x j (by omega), by rw [b.1.2.1], by rw [b.1.2.2.1]⟩
theorem BSq_b (B : BSq hB tB K p P m m0 r r0) (b : bkH hB h) : BSq h tB K p P m m0 r r0 ∧ (∀ v, kd h P v = kd hB P v) ∧ ∀ v, kd h p v = kd hB p v :=
  BSq_g B (Nat.le_of_eq b.1.2.2.2.1.symm) (fun x hx => bkH_sm b (by omega))
/-- both work out the same value -/
theorem bvv (B : BKB hB tB K p P m m0 q r r0 G) (c40 : c < 40) (lv : hI hB (215 + 4 * c) 1 = 1) (ek : hI tB 404 c = k) (ho : 0 ≤ old ∧ old < m0) (e1 : ∀ n : Nat, n < 40 → hI h (216 + 4 * c) n = hI hB (216 + 4 * c) n ∧ hI h (217 + 4 * c) n = hI hB (217 + 4 * c) n ∧ hI h (218 + 4 * c) n = hI hB (218 + 4 * c) n) (eg : wg t = wg tB) (e5 : ∀ n : Nat, n < 40 → hI t 405 (40 * c + n) = hI tB 405 (40 * c + n)) (e67 : ∀ x j, (x = 406 ∨ x = 407) → hI t x j = hI tB x j) {n : Nat} (n40 : n < 40) (hn : fAt tB 1 old n ≠ -1) : bvr h tB m old k c n = bvt t m old k c n := by
  obtain ⟨⟨Pb, Pa, Cb, Ca, F, Og, hP, hp⟩, S, CRB, ⟨W2, w12⟩, -, -, BL, -⟩ := B
  obtain ⟨-, Cv⟩ := (CRB.2.2.2 c c40).2.2.2 lv
  rw [ek, show 215 + 4 * c + 1 = 216 + 4 * c by omega, show 215 + 4 * c + 2 = 217 + 4 * c by omega, show 215 + 4 * c + 3 = 218 + 4 * c by omega] at Cv
  have ax : agx 2 1 m0 tB tB := fun k f k0 k1 f0 f1 hf => w12 k f k0 k1 f0 f1 (by omega)
  have ef : ∀ n, fAt tB 1 old n = fAt tB 2 old n := fun n => fAt_x ax W2 (.inr ho)
  have eft : ∀ n, fAt t 2 old n = fAt tB 1 old n := fun n => (fAt_cg (fun a b => by rw [eg]) old n).trans (ef n).symm
  have eG : goB t 2 m old k n 40 = goB tB 1 m old k n 40 := goB_a (fun n => (eft n).symm) eg 40
  obtain ⟨-, v2, v3, v4⟩ := Cv n n40
  unfold bvr bvt
  rw [eG, eft]
  rcases goB_c tB 1 m old k n 40 with ⟨y, -⟩ | ⟨x, y1, y2, y3, -⟩
  · rw [if_pos y, if_pos y, (e1 n n40).2.1, e67 407 _ (by omega), v3]
    by_cases z : hI hB (217 + 4 * c) n = 0
    · obtain ⟨x0, x1⟩ := ((fAt_b (n := (n : Int)) Pa.1 (.inr ho)).resolve_left hn).1
      have hx2 := ((fAt_b (n := (n : Int)) Pa.1 (.inr ho)).resolve_left hn).2
      obtain ⟨f0, f1, -⟩ := fIx_lt Pa.1 x0 x1 hx2
      obtain ⟨-, -, w3, -, -⟩ := Pa.1.2.2 _ x0 x1
      have ei : fIx t 2 (fAt tB 1 old n) n = fIx tB 1 (fAt tB 1 old n) n := by
        rw [fIx_x ax W2 x0 x1]
        unfold fIx
        rw [eg]
      rw [if_pos z, if_pos z, ei, eg, w12 _ _ x0 x1 (by omega) (by omega) (by omega)]
    · rw [if_neg z, if_neg z, (e1 n n40).2.2, e67 406 _ (by omega)]
      exact v4 (v2.resolve_left z)
  · rw [y2, if_neg (by omega), if_neg (by omega), Int.toNat_natCast, (e1 x y1).1, e5 x y1]
    exact (Cv x y1).1 y3
theorem BC_s (D : BCq hB tB p c h t) (e1 : ∀ x j, 215 + 4 * c ≤ x → x ≤ 218 + 4 * c → hI h' x j = hI h x j ∧ hR h' x j = hR h x j) (e2 : hI t' 404 c = hI t 404 c) (e3 : ∀ n : Nat, n < 40 → hI t' 405 (40 * c + n) = hI t 405 (40 * c + n)) : BCq hB tB p c h' t' := by
  obtain ⟨d1, d2, d3⟩ := D
  refine ⟨fun z => by rw [(e1 _ 1 (by omega) (by omega)).1]; exact d1 z, fun z => ⟨fun y => by rw [(e1 _ 1 (by omega) (by omega)).1]; exact (d2 z).1 y, fun y => ?_⟩, fun n hn => by rw [(e1 _ n (by omega) (by omega)).1, (e1 (218 + 4 * c) n (by omega) (by omega)).1]; exact d3 n hn⟩
  obtain ⟨x1, x2, x3, x4⟩ := (d2 z).2 y
  refine ⟨by rw [(e1 _ 1 (by omega) (by omega)).1]; exact x1, by rw [e2]; exact x2, by rw [(e1 _ 2 (by omega) (by omega)).2]; exact x3, fun n hn f => ?_⟩
  rw [(e1 _ n (by omega) (by omega)).1, e3 n hn]
  exact x4 n hn f
/-- one creature more -/
theorem BL_n (C : BLq hB tB p i h t) (i40 : i < 40) (b1 : bkH h h') (b2 : bkT t t') (e1 : ∀ x j, 215 ≤ x → x < 375 → ¬ (215 + 4 * i ≤ x ∧ x ≤ 218 + 4 * i) → hI h' x j = hI h x j ∧ hR h' x j = hR h x j) (e2 : ∀ j, j ≠ i → hI t' 404 j = hI t 404 j) (e3 : ∀ j, ¬ (40 * i ≤ j ∧ j < 40 * i + 40) → hI t' 405 j = hI t 405 j) (D : BCq hB tB p i h' t') (L : DBq (gnBq tB) tB t' (i + 1)) : BLq hB tB p (i + 1) h' t' := by
  obtain ⟨⟨cH, cT⟩, E, Fr, -⟩ := C
  refine ⟨⟨bkH_tr cH b1, fp_tr cT b2⟩, fun c hc => ?_, fun c hc c40 => ?_, L⟩
  · by_cases z : c = i
    · subst z
      exact D
    · exact BC_s (E c (by omega)) (fun x j x1 x2 => e1 x j (by omega) (by omega) (by omega)) (e2 c z) (fun n hn => e3 _ (by omega))
  · obtain ⟨f1, f2, f3⟩ := Fr c (by omega) c40
    refine ⟨fun x j x1 x2 => ?_, by rw [e2 c (by omega)]; exact f2, fun n hn => by rw [e3 _ (by omega)]; exact f3 n hn⟩
    obtain ⟨y1, y2⟩ := e1 x j (by omega) (by omega) (by omega)
    rw [y1, y2]
    exact f1 x j x1 x2
/-- what the class does up to the kind -/
theorem c179_st {R : Option ((Int × hS) ⊕ hS)} (B : BKB hB tB K p P m m0 q r r0 G) (cH : bkH hB h) (f1 : ∀ x j, 215 + 4 * i ≤ x → x ≤ 218 + 4 * i → hI h x j = hI hB x j ∧ hR h x j = hR hB x j) (i40 : i < 40) (eR : (if hI hB (215 + 4 * i) 1 = 0 then c179_j106 (i : Int) (sI h (215 + 4 * i) 1 0) else c179_j50 (kd h p (wg tB 0 (hI tB 404 i) 4)) P (i : Int) (215 + 4 * i) h) = R) : c179_b12 P p (i : Int) h = R := by
  obtain ⟨Bs, S, CRB, -⟩ := B
  have SO := (S.1 i i40).2
  have T : ∀ x, hT h x = hT hB x := fun x => by rw [cH.1.2.1]
  obtain ⟨Bh, kP, kp⟩ := BSq_b Bs cH
  unfold c179_b12
  rw [if_neg (by omega)]
  refine bnd (aRs_s (by omega) (by omega)) ?_
  rw [Int.toNat_natCast, cH.2.1 19 i (by omega), (S.1 i i40).1]
  refine bnd (gI_s (by rw [T]; exact SO.1)) ?_
  rw [(f1 _ 1 (by omega) (by omega)).1]
  by_cases z : hI hB (215 + 4 * i) 1 = 0
  · rw [if_pos z] at eR ⊢
    unfold c179_j50
    refine bnd hnul_0 ?_
    rw [if_pos rfl]
    refine bnd (pI_s (by rw [T]; exact SO.1)) ?_
    exact eR
  · rw [if_neg z] at eR ⊢
    have lv := (CRB.2.2.2 i i40).1.resolve_left z
    obtain ⟨⟨o0, o1, o2⟩, -⟩ := (CRB.2.2.2 i i40).2.2.2 lv
    have Qk := Bh.1.2.2.1 _ o0 o1
    refine bnd (gR_s (by rw [T]; exact SO.1)) ?_
    rw [(f1 _ 2 (by omega) (by omega)).2, o2, ← kP]
    refine bnd (gI_s Qk.1.2.2.1) ?_
    rw [Qk.2.1.1]
    refine bnd (kT_s Bh.2.1.2.1.2.2.1) ?_
    refine bnd (c47_e Bh.2.1 _) ?_
    rw [← (Bh.2.2.2.2.2.1 _ o0 o1).1]
    exact eR
/-- one creature of those there are -/
theorem BL_s (B : BKB hB tB K p P m m0 q r r0 G) (iq : i < q) (C : BLq hB tB p i h t) : ∃ h' t', c179_b12 P p (i : Int) h = some (.inl (((i + 1 : Nat) : Int), h')) ∧ c299_b126 (i : Int) t = some (.inl (((i + 1 : Nat) : Int), t')) ∧ BLq hB tB p (i + 1) h' t' := by
  obtain ⟨Bs, S, CRB, ⟨W2, w12⟩, KG, T52, BL, eG⟩ := id B
  obtain ⟨⟨cH, cT⟩, E, Fr, DD⟩ := id C
  have i40 : i < 40 := by have := CRB.2.2.1; omega
  obtain ⟨c0, c1, -, c3⟩ := CRB.2.2.2 i i40
  have SO := (S.1 i i40).2
  have SF := (S.2 i i40).2
  obtain ⟨f1, f2, f3⟩ := Fr i (Nat.le_refl _) i40
  have T : hT h = hT hB := cH.1.2.1
  have L : hL h = hL hB := cH.1.2.2.1
  have e33 : hI t 395 33 = (q : Int) := by rw [cT.2 395 33 (by omega)]; exact CRB.2.1
  have e403 : hI t 403 i = hI hB (215 + 4 * i) 1 := by rw [(DD.1 i).2 (fun w => by omega)]; exact c1 iq
  have j106 : ∀ hA, c179_j106 (i : Int) hA = some (.inl (((i + 1 : Nat) : Int), hA)) := fun hA => by
    unfold c179_j106
    rw [wadd_n (by omega)]
  have j199 : ∀ tA, c299_j199 (i : Int) tA = some (.inl (((i + 1 : Nat) : Int), tA)) := fun tA => by
    unfold c299_j199
    rw [wadd_n (by omega)]
  obtain ⟨h1, e1⟩ : ∃ h1, h1 = sI h (215 + 4 * i) 1 0 := ⟨_, rfl⟩
  have b1 : bkH h h1 := by
    rw [e1]
    exact ⟨⟨rfl, rfl, rfl, rfl, rfl⟩, fun x j _ => hR_sI, fun x j z => by rw [hI_sI, if_neg (by omega)]⟩
  have o1 : ∀ x j, 215 ≤ x → x < 375 → ¬ (215 + 4 * i ≤ x ∧ x ≤ 218 + 4 * i) → hI h1 x j = hI h x j ∧ hR h1 x j = hR h x j := fun x j _ _ hx => by rw [e1, hI_sI, if_neg (by omega), hR_sI]; exact ⟨rfl, rfl⟩
  have l1 : ∀ n : Nat, n < 40 → hI h1 (217 + 4 * i) n = hI hB (217 + 4 * i) n ∧ hI h1 (218 + 4 * i) n = hI hB (218 + 4 * i) n := fun n _ => by
    rw [e1, hI_sI, if_neg (by omega), hI_sI, if_neg (by omega)]
    exact ⟨(f1 _ n (by omega) (by omega)).1, (f1 _ n (by omega) (by omega)).1⟩
  by_cases z : hI hB (215 + 4 * i) 1 = 0
  · refine ⟨h1, t, c179_st B cH f1 i40 (by rw [if_pos z, ← e1]; exact j106 h1), ?_, BL_n C i40 b1 fp_rf o1 (fun _ _ => rfl) (fun _ _ => rfl) ⟨fun _ => by rw [e1, hI_sI, if_pos ⟨rfl, rfl⟩], fun w => by omega, l1⟩ (DB_no DD (fun w => w.1 ((c1 iq).trans z)))⟩
    unfold c299_b126
    rw [e33, if_neg (by omega)]
    refine bnd (aIs_s (by omega) (by omega)) ?_
    rw [Int.toNat_natCast, e403, if_pos z]
    exact j199 t
  · have lv := c0.resolve_left z
    obtain ⟨⟨o0, o1', o2⟩, -⟩ := c3 lv
    have m12 := Bs.1.1.2.1
    have wz : wg t = wg tB := by funext w a b; exact cT.2 400 _ (by omega)
    have ct : ∀ {w : Int} {m : Nat} {r : Int → Nat}, WF tB w m r → WF t w m r := fun {w m r} W => by
      have em : wm t w = wm tB w := cT.2 400 _ (by omega)
      exact WF_l2 W (fun v g _ _ _ _ => by rw [wz]) em
    have sT : ∀ R : Option ((Int × hS) ⊕ hS), (if wg tB 0 (hI tB 404 i) 4 = -1 then (c290 (i : Int) t).bind (fun h28 => c299_j199 (i : Int) h28) else if wg tB 0 (hI tB 404 i) 3 = 1 then (c300 (i : Int) (hI tB 404 i) (wg tB 0 (hI tB 404 i) 4) t).bind (fun h27 => c299_j192 (i : Int) (wg tB 0 (hI tB 404 i) 4) h27) else c299_j192 (i : Int) (wg tB 0 (hI tB 404 i) 4) t) = R → c299_b126 (i : Int) t = R := fun R eR => by
      unfold c299_b126
      rw [e33, if_neg (by omega)]
      refine bnd (aIs_s (by omega) (by omega)) ?_
      rw [Int.toNat_natCast, e403, if_neg z]
      refine bnd (aIs_s (by omega) (by omega)) ?_
      rw [Int.toNat_natCast, f2]
      refine bnd (c199_e (by omega) (by omega) o0 (by omega) (by omega) (by omega)) ?_
      rw [wz]
      by_cases y : wg tB 0 (hI tB 404 i) 4 = -1
      · rw [if_pos y] at eR ⊢
        exact eR
      · rw [if_neg y] at eR ⊢
        refine bnd (c199_e (by omega) (by omega) o0 (by omega) (by omega) (by omega)) ?_
        rw [wz]
        exact eR
    obtain ⟨k, hk⟩ : ∃ k, hI tB 404 i = k := ⟨_, rfl⟩
    rw [hk] at o0 o1' o2 sT f2
    obtain ⟨old, hold⟩ : ∃ old, wg tB 0 k 4 = old := ⟨_, rfl⟩
    rw [hold] at sT
    have eo : wg tB 0 (hI tB 404 i) 4 = old := by rw [hk]; exact hold
    have ob : old = -1 ∨ (0 ≤ old ∧ old < m0) := by
      rw [← hold, (Bs.2.2.2.2.2.1 k o0 o1').1]
      rcases ix_b (fun k : Nat => wg tB 1 (k : Int) 0) (wg tB 0 k 0) m0 with y | ⟨y, y1, y2, -⟩
      · exact .inl y
      · rw [y1]; exact .inr ⟨by omega, by omega⟩
    have sC : ∀ R, c179_j50 (kd h p old) P (i : Int) (215 + 4 * i) h = R → c179_b12 P p (i : Int) h = R := fun R eR => c179_st B cH f1 i40 (by rw [if_neg z, eo]; exact eR)
    obtain ⟨Bh, kP, kp⟩ := BSq_b Bs cH
    by_cases y : old = -1
    · have gn : gnBq tB i := ⟨by rw [c1 iq]; omega, eo.trans y⟩
      obtain ⟨ta, t', ea, a1, a2⟩ := c290_e (t := t) (c := i) i40
      have bt : bkT t t' := by
        refine ⟨a2.1.1.trans (by rw [ea]; rfl), fun x j hx => ?_⟩
        rw [a2.1.2 x j (by omega), ea, hI_sI, if_neg (by omega)]
      refine ⟨h1, t', sC _ ?_, sT _ ?_, BL_n C i40 b1 bt o1 (fun j _ => ?_) (fun j _ => ?_) ⟨fun w => absurd w z, fun _ => ⟨fun _ => by rw [e1, hI_sI, if_pos ⟨rfl, rfl⟩], fun w => absurd (eo.trans y) w⟩, l1⟩ (DB_ye DD gn ea a2 (fun l => cT.2 426 l (by omega)))⟩
      · rw [y, kd_m]
        unfold c179_j50
        refine bnd hnul_0 ?_
        rw [if_pos rfl]
        refine bnd ((pI_s (by rw [T]; exact SO.1)).trans (congrArg some e1.symm)) ?_
        exact j106 h1
      · rw [if_pos y]
        refine bnd a1 ?_
        exact j199 t'
      · rw [a2.1.2 404 j (by omega), ea, hI_sI, if_neg (by omega)]
      · rw [a2.1.2 405 j (by omega), ea, hI_sI, if_neg (by omega)]
    · have ho := ob.resolve_left y
      have ngn : ¬ gnBq tB i := fun w => y (eo.symm.trans w.2)
      obtain ⟨g1, g2⟩ := KG k o0 o1'
      have ko8 : 448 ≤ kd h p old := kd_8 Bh.2.1 ho.1 ho.2
      have Qk := Bh.1.2.2.1 k o0 o1'
      have sC2 : ∀ R, (if wg tB 0 k 2 = G then (c180 (215 + 4 * i) (53 + 4 * i) (kd h p old) P h).bind (fun h13 => c179_j106 (i : Int) h13) else c179_j106 (i : Int) (sR h (215 + 4 * i) 2 (kd h p old))) = R → c179_b12 P p (i : Int) h = R := fun R eR => by
        refine sC _ ?_
        unfold c179_j50
        refine (bnd (hnul_8 (by omega)) rfl).trans ?_
        rw [if_neg (by decide)]
        refine bnd (gR_s (by rw [T]; exact SO.1)) ?_
        rw [(f1 _ 2 (by omega) (by omega)).2, o2, ← kP]
        refine bnd (gI_s Qk.1.2.2.1) ?_
        rw [Qk.2.2.2.1, cH.2.2 48 9 (by omega), eG]
        by_cases w : wg tB 0 k 2 = G
        · rw [if_pos w] at eR ⊢
          refine bnd (aRs_s (by omega) (by omega)) ?_
          rw [Int.toNat_natCast, cH.2.1 49 i (by omega), (S.2 i i40).1]
          exact eR
        · rw [if_neg w] at eR ⊢
          refine bnd (pR_s (by rw [T]; exact SO.1)) ?_
          exact eR
      by_cases w : wg tB 0 k 3 = 1
      · have wG := g1.1 w
        obtain ⟨h2, a1, a2, a3, a4, a5⟩ := c180_e (k := k) (old := old) (c := i) Bh (SHc_g SO T L (fun j _ => (f1 _ j (by omega) (by omega)).2) (f1 _ 0 (by omega) (by omega)).1) (SHc_g SF T L (fun j hj => cH.2.1 _ j (by omega)) (cH.2.2 _ 0 (by omega))) i40 (by rw [T, L]; exact T52) (by rw [(f1 _ 1 (by omega) (by omega)).1]; exact lv) (fun n hn => by rw [(f1 _ n (by omega) (by omega)).1]; exact BL i n i40 hn) ho ⟨o0, o1'⟩ (by rw [(f1 _ 2 (by omega) (by omega)).2, o2, kP])
        obtain ⟨ta, d1, d2, d3⟩ := c300_e (c := i) (k := k) (old := old) (ct Bs.1.1) (ct W2) i40 ⟨o0, o1'⟩ ho
        obtain ⟨t2, et⟩ : ∃ t2, t2 = sI ta 404 i old := ⟨_, rfl⟩
        have ta2 : ∀ x j, ¬ (x = 404 ∧ j = i) → hI t2 x j = hI ta x j := fun x j hx => by rw [et, hI_sI, if_neg hx]
        have bt : bkT t t2 := ⟨by rw [et]; exact d2.1, fun x j hx => by rw [ta2 x j (by omega), d2.2 x j (by omega)]⟩
        refine ⟨h2, t2, sC2 _ ?_, sT _ ?_, BL_n C i40 (bkH_C i40 a2) bt (fun x j x1 x2 hx => ⟨a2.2.2 x j (by omega), a2.2.1 x j (by omega)⟩) (fun j hj => by rw [ta2 404 j (by omega), d2.2 404 j (by omega)]) (fun j hj => by rw [ta2 405 j (by omega), d2.2 405 j (by omega)]) ⟨fun v => absurd v z, fun _ => ⟨fun v => absurd (eo.symm.trans v) y, fun _ => ?_⟩, fun n hn => ?_⟩ (DB_no (DB_fr DD (fun x j hx => by rw [ta2 x j (by omega), d2.2 x j (by omega)])) ngn)⟩
        · rw [if_pos wG]
          refine bnd a1 ?_
          exact j106 h2
        · rw [if_neg y, if_pos w]
          refine bnd d1 ?_
          unfold c299_j192
          refine bnd ((wIs_s (by omega) (by omega)).trans (congrArg some (show sI ta 404 ((i : Int)).toNat old = t2 by rw [Int.toNat_natCast]; exact et.symm))) ?_
          exact j199 t2
        · rw [eo]
          refine ⟨a4, by rw [et, hI_sI, if_pos ⟨rfl, rfl⟩], by rw [a3, kp], fun n hn fn => ?_⟩
          have ax : agx 2 1 m0 tB tB := fun k f k0 k1 f0 f1 hf => w12 k f k0 k1 f0 f1 (by omega)
          have ft : fAt t 2 old n ≠ -1 := by
            rw [fAt_cg (hr := tB) (hr' := t) (w := 2) (fun a b => by rw [wz]), ← fAt_x ax W2 (.inr ho)]
            exact fn
          rw [(a5 n hn).1 fn, ta2 405 _ (by omega), d3 n hn ft]
          exact bvv B i40 lv hk ho (fun a _ => ⟨(f1 _ a (by omega) (by omega)).1, (f1 _ a (by omega) (by omega)).1, (f1 _ a (by omega) (by omega)).1⟩) wz f3 (fun x j hx => cT.2 x j (by omega)) hn fn
        · rw [(a5 n hn).2.1, (a5 n hn).2.2]
          exact ⟨(f1 _ n (by omega) (by omega)).1, (f1 _ n (by omega) (by omega)).1⟩
      · have wG : ¬ wg tB 0 k 2 = G := fun v => w (g1.2 v)
        obtain ⟨h2, e2⟩ : ∃ h2, h2 = sR h (215 + 4 * i) 2 (kd h p old) := ⟨_, rfl⟩
        obtain ⟨t2, et⟩ : ∃ t2, t2 = sI t 404 i old := ⟨_, rfl⟩
        have ta2 : ∀ x j, ¬ (x = 404 ∧ j = i) → hI t2 x j = hI t x j := fun x j hx => by rw [et, hI_sI, if_neg hx]
        have i2 : ∀ x j, hI h2 x j = hI h x j := fun x j => by rw [e2, hI_sR]
        have b2 : bkH h h2 := by
          rw [e2]
          exact ⟨⟨rfl, rfl, rfl, rfl, rfl⟩, fun x j v => by rw [hR_sR, if_neg (by omega)], fun x j _ => hI_sR⟩
        refine ⟨h2, t2, sC2 _ ?_, sT _ ?_, BL_n C i40 b2 ⟨by rw [et]; rfl, fun x j hx => ta2 x j (by omega)⟩ (fun x j x1 x2 hx => ⟨i2 x j, by rw [e2, hR_sR, if_neg (by omega)]⟩) (fun j hj => ta2 404 j (by omega)) (fun j hj => ta2 405 j (by omega)) ⟨fun v => absurd v z, fun _ => ⟨fun v => absurd (eo.symm.trans v) y, fun _ => ?_⟩, fun n hn => ?_⟩ (DB_no (DB_fr DD (fun x j hx => ta2 x j (by omega))) ngn)⟩
        · rw [if_neg wG, ← e2]
          exact j106 h2
        · rw [if_neg y, if_neg w]
          unfold c299_j192
          refine bnd ((wIs_s (by omega) (by omega)).trans (congrArg some (show sI t 404 ((i : Int)).toNat old = t2 by rw [Int.toNat_natCast]; exact et.symm))) ?_
          exact j199 t2
        · rw [eo]
          refine ⟨by rw [i2, (f1 _ 1 (by omega) (by omega)).1]; exact lv, by rw [et, hI_sI, if_pos ⟨rfl, rfl⟩], by rw [e2, hR_sR, if_pos ⟨rfl, rfl⟩, kp], fun n hn fn => ?_⟩
          have fk : fAt tB 0 k n ≠ -1 := (g2 w n).2 (by rw [hold]; exact fn)
          obtain ⟨-, Cv⟩ := c3 lv
          have := (Cv n hn).1 (by rw [hk]; exact fk)
          rw [show 215 + 4 * i + 1 = 216 + 4 * i by omega] at this
          rw [i2, (f1 _ n (by omega) (by omega)).1, this, ta2 405 _ (by omega), f3 n hn]
        · rw [i2, i2]
          exact ⟨(f1 _ n (by omega) (by omega)).1, (f1 _ n (by omega) (by omega)).1⟩
end BK4
