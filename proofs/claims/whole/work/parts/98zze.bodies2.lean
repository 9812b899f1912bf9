/-! bodies run alike in both: every level, every depth -/
section BDS
variable {h h' h0 h1 t t' t0 t1 t2 : hS} {K : Nat → Int → Prop} {p m q κ F0 d n x c k a tx i pos pos' fu s e : Nat} {r : Int → Nat} {il v ok : Int}
theorem g254_4 {a b e : Int} : g254 (fu + 1) 254 [a, b, e] t = c254 (g254 fu) a b e t := rfl
theorem GB_all (IHd : d < 20 → ∀ g, 28 * (20 - d) ≤ g → BDYp K p m q r κ F0 (d + 1) g) (ht : tx ≤ 6) : ∀ (k : Nat), k ≤ 12 → ∀ fu, 28 * (20 - d) + 2 * k + 4 ≤ fu → GBp K p m q r κ F0 d tx k fu := by
  intro k
  induction k with
  | zero =>
    intro hk fu hf h t x c L f qq C il R G Q lk hL bl cd hl hq hil
    obtain ⟨g, rfl⟩ : ∃ g, fu = g + 1 := ⟨fu - 1, by omega⟩
    have h97 := FCT_97 R Q
    obtain ⟨how, t', h', kk, y1, y2⟩ := GOl (fu := g) IHd (fun k' e => absurd e (by omega)) hk ht (by omega) L f qq C h t hF0 R G Q lk hL bl cd hl hq hil (hF0_lt (by omega))
    refine ⟨how, t', h', kk, ?_, y2⟩
    rw [g254_4]
    unfold c254
    refine bnd y1 ?_
    by_cases z : how = 0
    · rw [if_pos z, z]; rfl
    · rw [if_neg z]; rfl
  | succ k ih =>
    intro hk fu hf h t x c L f qq C il R G Q lk hL bl cd hl hq hil
    obtain ⟨g, rfl⟩ : ∃ g, fu = g + 1 := ⟨fu - 1, by omega⟩
    have h97 := FCT_97 R Q
    obtain ⟨how, t', h', kk, y1, y2⟩ := GOl (fu := g) IHd (fun k' e => by
      obtain rfl : k' = k := (by omega)
      exact ih (by omega)) hk ht (by omega) L f qq C h t hF0 R G Q lk hL bl cd hl hq hil (hF0_lt (by omega))
    refine ⟨how, t', h', kk, ?_, y2⟩
    rw [g254_4]
    unfold c254
    refine bnd y1 ?_
    by_cases z : how = 0
    · rw [if_pos z, z]; rfl
    · rw [if_neg z]; rfl
/-- the other side's marks alone are other -/
theorem BR_se (R : BRt K p m q r κ F0 h t) (b : seR t t') (e41 : hI t' 395 41 = hI t 395 41) (e54 : hI t' 395 54 = 0) : BRt K p m q r κ F0 h t' := by
  refine BR_c R (RCc_rf (d := 0)) (RCr_se (d := 0) b) (RT_c R.1 chg_rf (fun y j hy => b.2 y j (by omega))) (by rw [e41]; exact R.2.2.2.2.2.1) ?_ e54
  obtain ⟨r1, r2, r3⟩ := R.2.2.2.2.2.2.1
  refine ⟨by rw [b.2 395 66 (by omega)]; exact r1, r2, fun i hi => ?_⟩
  rw [b.2 419 i (by omega), b.2 420 i (by omega), b.2 421 i (by omega), b.2 422 i (by omega)]
  exact r3 i hi
/-- the end of an act -/
theorem ENDq (R : BRt K p m q r κ F0 h t) (G : GOt d h t) (Q : FRQ h t K d (FF F0 d) x c) (hq : hI h (FF F0 d) 4 = (pos : Int)) (hl : pos < hL h x) (c0 : hI h x pos = 0) : ∃ h', runS 1 h h' ∧ RSL K p m q r κ F0 d x c pos h (sI t 395 40 0) h' (sI t 395 40 0) 1 := by
  obtain ⟨⟨g1, g2⟩, g3, g4, g5⟩ := id G
  have hF := Q.1.2.2.2.2.2
  have st := stepA_n Q.1 hq hl c0 (.inl rfl)
  obtain ⟨ha, ea⟩ : ∃ ha, ha = sI h (FF F0 d) 4 ((pos + 1 : Nat) : Int) := ⟨_, rfl⟩
  rw [← ea] at st
  have sa : stF (FF F0 d) h ha := by rw [ea]; exact fp_sI (.inr (.inr ⟨rfl, rfl⟩))
  have ia : ∀ j, hI ha 22 j = hI h 22 j := fun j => by rw [ea, hI_sI, if_neg (by omega)]
  have b0 : seR t (sI t 395 40 0) := fp_sI (.inl ⟨rfl, by omega⟩)
  have o1 : ∀ j, j ≠ 40 → hI (sI t 395 40 0) 395 j = hI t 395 j := fun j hj => by rw [hI_sI, if_neg (by omega)]
  have R0 := BR_se R b0 (o1 41 (by omega)) (by rw [o1 54 (by omega)]; exact R.2.2.2.2.2.2.2.2)
  have Ra : BRt K p m q r κ F0 ha (sI t 395 40 0) := BR_st R0 g2 Q.1 sa seR_rf (by rw [ia]; exact R0.2.2.2.2.2.1) R0.2.2.2.2.2.2.2.2
  have Ga : GOt d ha (sI t 395 40 0) := ⟨⟨by rw [ia]; exact g1, g2⟩, by rw [ia]; exact g3, by rw [ia]; exact g4, by rw [o1 42 (by omega)]; exact g5⟩
  obtain ⟨h', w1, w2⟩ := FINq (x := x) (c := c) (pos := pos) Ra Ga seR_rf rfl (v := 0) (by rw [hI_sI, if_pos ⟨rfl, rfl⟩]) Ra.2.2.2.2.2.2.2.2 Ga.2.2.2
  refine ⟨h', runS_one g3 g1 g2 (BR_F R g2) Q.1.1 ?_, RSL_pre R.2.2.2.1 R.1.2.2.2.2.1 (RCc_st g2 sa) RCr_rf (ia 8) (ia 9) w2⟩
  rw [st]
  have e127 : c127 (FF F0 d) 0 ha = (c129 0 ha).bind (fun h36 => some h36) := rfl
  rw [e127]
  exact bnd w1 rfl
/-- a body of level e runs alike, if those of the next level do -/
theorem BDY1 (he : e ≤ 20) (IHd : e < 20 → ∀ g, 28 * (20 - e) ≤ g → BDYp K p m q r κ F0 (e + 1) g) (hf : 28 * (21 - e) ≤ fu) : BDYp K p m q r κ F0 e fu := by
  intro h t x c R G Q h4 h6
  obtain ⟨nn, j, k, n1, n4, n5, n6, n7, n8⟩ := Q.2.2.2.2.2
  obtain ⟨x1, x2, x3, tx, fn, C, x4, ⟨L, y1, y2, y3⟩, x6, ⟨x7, x8⟩, x9⟩ := R.2.1 _ _ n8
  have ht : tx ≤ 6 := by have := R.2.2.1; omega
  have hL12 : ∀ i ∈ L, i < 1200 := fun i hi => (y2 i hi).2
  have ev : hI t 414 (12 * e + (hI t 412 e).toNat) = gf tx fn := by
    rw [n4, Int.toNat_natCast, x6]
    unfold gf
    rcases LK_f y1 hL12 with z | ⟨a, z, z2⟩
    · rw [if_pos z, if_pos z]
    · rw [if_neg (by omega), if_neg (by omega)]
      unfold gn
      rw [z, Int.toNat_natCast]
      omega
  have f0 := R.2.2.2.1
  have hp := R.1.2.2.2.2.1
  obtain ⟨how, t1, h1, kk, u1, u2, u3, u4, u5⟩ := GB_all IHd ht 12 (Nat.le_refl _) fu (by omega) h t x c L fn 0 C 0 R G Q y1 hL12 y3 (fun i z hz => by rw [Nat.zero_add]; exact x9 i z (ga hz)) (by rw [x7]; omega) h4 (.inl ⟨rfl, by
    by_cases z : e = 0
    · exact .inl (h6 z)
    · exact .inr (.inl z)⟩)
  rcases u5 with u5 | u5
  rcases u5 with ⟨z0, z1, z2, z3, z4, z5, z6, z7, z8⟩ | u5
  · -- its code is at its end
    rw [Nat.zero_add] at z4
    have l1 : hL h1 x = hL h x := by rw [z5.1.2.2.1]
    obtain ⟨h2, w1, w2⟩ := ENDq z1 z2 z3 z4 (by rw [l1]; omega) (by rw [RCc_x R Q z5]; exact x9 C.length 0 (by rw [List.getElem?_append_right (Nat.le_refl _), Nat.sub_self]; rfl))
    refine ⟨how, t1, h2, kk + 1, by rw [ev]; exact u1, runS_tr u2 w1, u3, by omega, ?_⟩
    have o1 : ∀ j, j ≠ 40 → hI (sI t1 395 40 0) 395 j = hI t1 395 j := fun j hj => by rw [hI_sI, if_neg (by omega)]
    rcases w2 with ⟨z, -⟩ | ⟨-, v1, v2, v3, v4, v5⟩ | ⟨z, -⟩
    · exact absurd z (by decide)
    · have b1 : seR (sI t1 395 40 0) t1 := ⟨rfl, fun y j z => by rw [hI_sI, if_neg (by omega)]⟩
      have e42 : hI t1 395 42 = 0 := z2.2.2.2
      have e40 : hI (sI t1 395 40 0) 395 40 = 0 := by rw [hI_sI, if_pos ⟨rfl, rfl⟩]
      rw [e40] at v5
      refine .inl ⟨.inl z0, BR_se v1 b1 (o1 41 (by omega)).symm (by rw [← o1 54 (by omega)]; exact v1.2.2.2.2.2.2.2.2), z6, e42, by rw [v4, z8], ?_⟩
      rcases v5 with ⟨w3, w4, w5, w6⟩ | ⟨d1, w3, ⟨g, w4, w5⟩, w6, w7⟩
      · subst w3
        exact .inl ⟨rfl, RCc_tr f0 hp z5 w4, w5, by rw [w6, if_neg (by omega)]⟩
      · exact .inr ⟨d1, w3, ⟨g, RCc_tr f0 hp z5 w4, by rw [w5, if_neg (by omega)]⟩, ⟨w6.1, w6.2.1, w6.2.2.1, e42⟩, by rw [w7, z7]⟩
    · exact absurd z (by decide)
  · rcases u5 with ⟨z0, z1, z2, z3, z4, z5⟩ | ⟨z0, z1, z2, z3, z4, z5⟩
    · refine ⟨how, t1, h1, kk, by rw [ev]; exact u1, u2, u3, by omega, .inl ⟨.inr z0, z1, z2, z3, z4, ?_⟩⟩
      rw [if_pos z0]
      exact z5
    · exact ⟨how, t1, h1, kk, by rw [ev]; exact u1, u2, u3, by omega, .inr ⟨z0, z1, z2, z3, z4, z5⟩⟩
  · exact absurd u5.2.1 (by decide)
/-- bodies of every level run alike -/
theorem BDYa : ∀ (k e : Nat), e + k = 20 → ∀ fu, 28 * (21 - e) ≤ fu → BDYp K p m q r κ F0 e fu
  | 0, e, he, fu, hf => BDY1 (by omega) (fun z => absurd z (by omega)) hf
  | k + 1, e, he, fu, hf => BDY1 (by omega) (fun _ g hg => BDYa k (e + 1) (by omega) g (by omega)) hf
end BDS
