/-! acts call acts: a body of the next level -/
/-- how a body of level e comes out -/
def BDR (K : Nat → Int → Prop) (p m q : Nat) (r : Int → Nat) (κ F0 e : Nat) (h t h' t' : hS) (how : Int) : Prop :=
  ((how = 0 ∨ how = 1) ∧ BRt K p m q r κ F0 h' t' ∧ RCr e t t' ∧ hI t' 395 42 = 0 ∧ hI h' 22 9 = hI h 22 9 ∧ ((e = 0 ∧ RCc p m F0 0 h h' ∧ hI h' 22 7 = 0 ∧ hI h' 22 8 = (if how = 1 then hI t' 395 40 else 0)) ∨ ∃ d1, e = d1 + 1 ∧ (∃ g, RCc p m F0 e h g ∧ h' = sI g (FF F0 d1) 5 (if how = 1 then hI t' 395 40 else 0)) ∧ GOt d1 h' t' ∧ hI h' 22 8 = hI h 22 8))
  ∨ (how = 2 ∧ BRt K p m q r κ F0 h' t' ∧ RCc p m F0 e h h' ∧ RCr e t t' ∧ hI h' 22 8 = hI h 22 8 ∧ ((hI h' 22 7 = 1 ∧ hI h' 22 9 = hI t' 395 39 ∧ hI t' 395 42 = 0) ∨ (hI h' 22 7 = 4 ∧ hI h' 22 9 = hI h 22 9 ∧ hI t' 395 42 = 1)))
/-- bodies of level e run alike -/
def BDYp (K : Nat → Int → Prop) (p m q : Nat) (r : Int → Nat) (κ F0 e fu : Nat) : Prop := ∀ (h t : hS) (x c : Nat), BRt K p m q r κ F0 h t → GOt e h t → FRQ h t K e (FF F0 e) x c → hI h (FF F0 e) 4 = 0 → (e = 0 → hI h 22 6 = 0) → ∃ (how : Int) (t' h' : hS) (kk : Nat), g254 fu 254 [hI t 414 (12 * e + (hI t 412 e).toNat), (e : Int), 0] t = some (how, t') ∧ runS kk h h' ∧ hI t 395 41 ≤ hI t' 395 41 ∧ (kk : Int) ≤ 2 + 1998 * (hI t' 395 41 - hI t 395 41) ∧ BDR K p m q r κ F0 e h t h' t' how
/-- how a call of level d comes out: it goes on behind it, or stops -/
def CLR (K : Nat → Int → Prop) (p m q : Nat) (r : Int → Nat) (κ F0 d x c : Nat) (h t h' t' : hS) (ok : Int) : Prop := (ok = 1 ∧ BRt K p m q r κ F0 h' t' ∧ GOt d h' t' ∧ FRQ h' t' K d (FF F0 d) x c ∧ hI h' (FF F0 d) 4 = hI h (FF F0 d) 4 ∧ RCc p m F0 d h h' ∧ RCr d t t' ∧ hI h' 22 8 = hI h 22 8 ∧ hI h' 22 9 = hI h 22 9) ∨ (ok = 0 ∧ RSL K p m q r κ F0 d x c 0 h t h' t' 2)
section CLS
variable {h h' h0 h1 t t' t0 t1 : hS} {K : Nat → Int → Prop} {p m q κ F0 d n x c k a tx i pos fu : Nat} {r : Int → Nat} {il how v : Int} {B N G : Nat → Int}
theorem RCc_sI {y j : Nat} {z : Int} (d20 : d ≤ 20) (hy : y = FF F0 d ∨ (y = 22 ∧ j ≠ 6 ∧ j ≠ 11)) : RCc p m F0 d h (sI h y j z) := ⟨⟨rfl, rfl, rfl, rfl, rfl⟩, fun _ _ _ => rfl, fun y' j' q1 w => by
  rw [hI_sI, if_neg]
  rintro ⟨rfl, rfl⟩
  rcases hy with hy | hy
  · exact q1 d (Nat.le_refl _) d20 hy
  · exact w (.inl hy)⟩
theorem g254_265 {e : Int} : g254 (fu + 1) 265 [e] t = c265 (g254 fu) e t := rfl
theorem g254_264 {e : Int} : g254 (fu + 1) 264 [e] t = c264 (g254 fu) e t := rfl
theorem g254_267 {s e : Int} : g254 (fu + 1) 267 [s, e] t = c267 (g254 fu) s e t := rfl
/-- the frame below, once the call is back -/
theorem FRQ_be {w : Int} {e : Nat} (R : RT h t K p m q r) (f : F0k F0) (a : RCc p m F0 (e + 1) h h1) (eh : h' = sI h1 (FF F0 e) 5 w) (b : ∀ y j, ((408 ≤ y ∧ y ≤ 413 ∧ y ≠ 410 ∧ j = e) ∨ (414 ≤ y ∧ y ≤ 416 ∧ 12 * e ≤ j ∧ j < 12 * e + 12)) → hI t' y j = hI t y j) (b5 : hI t' 410 e = w) (Q : FRQ h t K e (FF F0 e) x c) (e20 : e + 1 ≤ 20) : FRQ h' t' K e (FF F0 e) x c := by
  obtain ⟨⟨c1, c2, c3, c4, c5, c6⟩, ⟨d1, d2, d3⟩, g1, g2, g3, n, j, k, ⟨n1, n2, n3⟩, n4, n5, n6, n7, n8⟩ := Q
  have hF := FF_b (e := e) f (by omega)
  have hk1 := ACH_k n7
  have nF : ∀ e', e + 1 ≤ e' → e' ≤ 20 → FF F0 e ≠ FF F0 e' := fun e' h1 h2 => FF_ne f (by omega) (by omega) h2
  obtain ⟨⟨a1, a2, a3, a4, a5⟩, a6, a7⟩ := id a
  have hk : ∀ u : Int, 0 ≤ u → u < m → 448 ≤ kd h p u := fun u u0 u1 => (R.2.1.2.2.1 u u0 u1).1.1
  have iF : ∀ j, hI h' (FF F0 e) j = if j = 5 then w else hI h (FF F0 e) j := fun j => by
    rw [eh, hI_sI]
    by_cases z : j = 5
    · rw [if_pos ⟨rfl, z⟩, if_pos z]
    · rw [if_neg (by omega), if_neg z]
      exact a7 _ j nF (fun z => by
        rcases z with z | z | z | z | ⟨u, u0, u1, z⟩
        · omega
        · omega
        · omega
        · omega
        · have := hk u u0 u1; omega)
  have rF : ∀ j, hR h' (FF F0 e) j = hR h (FF F0 e) j := fun j => by rw [eh, hR_sI]; exact a6 _ j (fun e1 e2 e3 _ => nF e1 e2 e3)
  have eT : ∀ y, hT h' y = hT h y := fun y => by rw [eh]; show hT h1 y = _; rw [a2]
  have eL : ∀ y, hL h' y = hL h y := fun y => by rw [eh]; show hL h1 y = _; rw [a3]
  refine ⟨⟨by rw [eT]; exact c1, by rw [rF]; exact c2, c3, by rw [eT]; exact c4, by rw [eL]; exact c5, c6⟩, ⟨d1, by rw [rF]; exact d2, ?_⟩, by rw [b 408 e (by omega)]; exact g1, by rw [iF, if_neg (by omega), b 409 e (by omega)]; exact g2, by rw [iF, if_pos rfl, b5], n, j, k, ⟨n1, by rw [iF, if_neg (by omega)]; exact n2, by rw [b 413 e (by omega)]; exact n3⟩, by rw [b 412 e (by omega)]; exact n4, by rw [b 411 e (by omega)]; exact n5, n6, ?_, ?_⟩
  · rw [eh, hI_sI, if_neg (by omega), a7 (215 + 4 * c) 1 (fun e' _ e20 z => by have := FF_b (e := e') f e20; omega) (fun z => by
      rcases z with z | z | z | z | ⟨u, u0, u1, z⟩
      · omega
      · omega
      · omega
      · omega
      · have := hk u u0 u1; omega)]
    exact d3
  · rw [rF]
    refine ACH_c n7 (fun a2 Q2 => ?_) (fun i h1 h2 => ⟨b 414 _ (by omega), b 415 _ (by omega), b 416 _ (by omega)⟩)
    obtain ⟨Q3, s3⟩ := KD_rc R f a Q2
    obtain ⟨Q4, s4⟩ := KD_chg (h' := h') (S := fun x => x = FF F0 e) (by rw [eh]; exact ⟨rfl, rfl, rfl, rfl, rfl, fun y hy i => ⟨by rw [hI_sI, if_neg (fun z => hy z.1)], by rw [hR_sI]⟩⟩) (fun x hx => by omega) Q3
    exact ⟨Q4, fun o o1 o2 => by
      have x1 := s3 o o1 o2
      have x2 := s4 o o1 o2
      exact ⟨fun j => (x2.1 j).trans (x1.1 j), fun j => (x2.2.1 j).trans (x1.2.1 j), x2.2.2.1.trans x1.2.2.1, x2.2.2.2.trans x1.2.2.2⟩⟩
  · rw [b 414 _ (by omega)]
    exact n8
/-- the body of the next level, once it is opened by both -/
theorem CLb (IH : BDYp K p m q r κ F0 (d + 1) fu) {y c2 : Nat} (d20 : d + 1 ≤ 20) (R : BRt K p m q r κ F0 h t) (R1 : BRt K p m q r κ F0 h1 t1) (Q : FRQ h t K d (FF F0 d) x c) (a : RCc p m F0 (d + 1) h h1) (b : RCr d t t1) (b0 : hI t1 410 d = hI t 410 d) (G1 : GOt (d + 1) h1 t1) (Q1 : FRQ h1 t1 K (d + 1) (FF F0 (d + 1)) y c2) (e4 : hI h1 (FF F0 (d + 1)) 4 = 0) (e8 : hI h1 22 8 = hI h 22 8) (e9 : hI h1 22 9 = hI h 22 9) (e41 : hI t1 395 41 = hI t 395 41) : ∃ (ok : Int) (t' h' h2 : hS) (kk : Nat), c117 (FF F0 (d + 1)) h1 = some h2 ∧ c265 (g254 fu) ((d + 1 : Nat) : Int) t1 = some (ok, t') ∧ runS kk h2 h' ∧ hI t 395 41 ≤ hI t' 395 41 ∧ (kk : Int) ≤ 2 + 1998 * (hI t' 395 41 - hI t 395 41) ∧ CLR K p m q r κ F0 d x c h t h' t' ok := by
  have f := R.2.2.2.1
  have hp := R.1.2.2.2.2.1
  have hF := FF_b (e := d) f (by omega)
  have hF1 := FF_b (e := d + 1) f d20
  have nFF : FF F0 d ≠ FF F0 (d + 1) := FF_ne f (by omega) (by omega) d20
  obtain ⟨h2, t2, w1, w2, w3, w4, w5⟩ := NTe R1.1.1 Q1 d20 R1.2.2.2.2.2.2.2.1 R1.2.2.2.2.2.2.1
  -- the state ahead of the body
  obtain ⟨t3, e3⟩ : ∃ t3, t3 = sI t2 395 40 0 := ⟨_, rfl⟩
  have f3 : fp (fun y j => (y = 395 ∧ (j = 66 ∨ j = 40)) ∨ (419 ≤ y ∧ y ≤ 422)) t1 t3 := by
    rw [e3]
    exact fp_tr ⟨w5.1, fun y j z => w5.2 y j (by omega)⟩ (fp_sI (.inl ⟨rfl, .inr rfl⟩))
  have rr3 : RCr (d + 1) t1 t3 := ⟨f3.1, fun y j z => f3.2 y j (by omega)⟩
  have rc2 : RCc p m F0 (d + 1) h1 h2 := ⟨⟨by show h2.2.2.1 = h1.2.2.1; rw [w4.1], by show h2.2.2.2.1 = h1.2.2.2.1; rw [w4.1], by show h2.2.2.2.2.1 = h1.2.2.2.2.1; rw [w4.1], by show h2.2.2.2.2.2.1 = h1.2.2.2.2.2.1; rw [w4.1], by show h2.2.2.2.2.2.2 = h1.2.2.2.2.2.2; rw [w4.1]⟩, fun y j _ => by show h2.2.1 y j = h1.2.1 y j; rw [w4.1], fun y j _ w => w4.2 y j (fun z => w (z.elim (fun z => .inl (by omega)) (fun z => .inr (.inr (.inl z)))))⟩
  have ch2 : chg (fun x => (20 ≤ x ∧ x ≤ 47) ∨ (375 ≤ x ∧ x < 395)) h1 h2 := chg_fp w4 (fun y j hy => by omega)
  have R3 : BRt K p m q r κ F0 h2 t3 := by
    refine BR_c R1 rc2 rr3 (RT_c R1.1 ch2 (fun y j hy => f3.2 y j (by omega))) (by rw [w4.2 22 10 (by omega), f3.2 395 41 (by omega)]; exact R1.2.2.2.2.2.1) ?_ (by rw [f3.2 395 54 (by omega)]; exact R1.2.2.2.2.2.2.2.2)
    obtain ⟨r1, r2, r3⟩ := w3
    refine ⟨by rw [e3, hI_sI, if_neg (by omega)]; exact r1, r2, fun u hu => ?_⟩
    rw [e3, hI_sI, if_neg (by omega), hI_sI, if_neg (by omega), hI_sI, if_neg (by omega), hI_sI, if_neg (by omega)]
    exact r3 u hu
  have G3 : GOt (d + 1) h2 t3 := ⟨⟨by rw [w4.2 22 3 (by omega)]; exact G1.1.1, d20⟩, by rw [w4.2 22 7 (by omega)]; exact G1.2.1, by rw [w4.2 22 5 (by omega)]; exact G1.2.2.1, by rw [f3.2 395 42 (by omega)]; exact G1.2.2.2⟩
  have Q3 : FRQ h2 t3 K (d + 1) (FF F0 (d + 1)) y c2 := by
    obtain ⟨⟨c1, c2', c3, c4, c5, c6⟩, ⟨d1, d2, d3⟩, g1, g2, g3, n, j, k, ⟨n1, n2, n3⟩, n4, n5, n6, n7, n8⟩ := Q1
    have eR : ∀ y j, hR h2 y j = hR h1 y j := fun y j => by show h2.2.1 y j = h1.2.1 y j; rw [w4.1]
    have eT : ∀ y, hT h2 y = hT h1 y := fun y => by show h2.2.2.2.1 y = h1.2.2.2.1 y; rw [w4.1]
    have eL : ∀ y, hL h2 y = hL h1 y := fun y => by show h2.2.2.2.2.1 y = h1.2.2.2.2.1 y; rw [w4.1]
    have et : ∀ y j, y ≠ 395 → ¬ (419 ≤ y ∧ y ≤ 422) → hI t3 y j = hI t1 y j := fun y j h1 h2 => f3.2 y j (by omega)
    refine ⟨⟨by rw [eT]; exact c1, by rw [eR]; exact c2', c3, by rw [eT]; exact c4, by rw [eL]; exact c5, c6⟩, ⟨d1, by rw [eR]; exact d2, by rw [w4.2 _ 1 (by omega)]; exact d3⟩, by rw [et 408 _ (by omega) (by omega)]; exact g1, by rw [w4.2 _ 6 (by omega), et 409 _ (by omega) (by omega)]; exact g2, by rw [w4.2 _ 5 (by omega), et 410 _ (by omega) (by omega)]; exact g3, n, j, k, ⟨n1, by rw [w4.2 _ 2 (by omega)]; exact n2, by rw [et 413 _ (by omega) (by omega)]; exact n3⟩, by rw [et 412 _ (by omega) (by omega)]; exact n4, by rw [et 411 _ (by omega) (by omega)]; exact n5, n6, ?_, by rw [et 414 _ (by omega) (by omega)]; exact n8⟩
    rw [eR]
    exact ACH_c n7 (fun a' Q' => KD_chg ch2 (fun x hx => by omega) Q') (fun u _ _ => ⟨et 414 _ (by omega) (by omega), et 415 _ (by omega) (by omega), et 416 _ (by omega) (by omega)⟩)
  obtain ⟨how, t4, h4, kk, u1, u2, u3, u4, u5⟩ := IH h2 t3 y c2 R3 G3 Q3 (by rw [w4.2 _ 4 (by omega)]; exact e4) (fun z => absurd z (by omega))
  have e41' : hI t3 395 41 = hI t 395 41 := by rw [f3.2 395 41 (by omega)]; exact e41
  rw [e41'] at u3 u4
  obtain ⟨j0, hj0, hj12⟩ : ∃ j0 : Nat, hI t3 412 (d + 1) = (j0 : Int) ∧ j0 < 12 := by
    obtain ⟨-, -, -, -, -, n, j, k, -, n4, n5, n6, n7, -⟩ := Q3
    exact ⟨j, n4, by have := ACH_k n7; omega⟩
  have e265 : c265 (g254 fu) ((d + 1 : Nat) : Int) t1 = if how = 2 then some (0, t4) else if how = 1 then c265_j60 (wsub ((d + 1 : Nat) : Int) 1) (hI t4 395 40) t4 else c265_j60 (wsub ((d + 1 : Nat) : Int) 1) 0 t4 := by
    unfold c265
    refine bnd w2 ?_
    rw [← e3]
    refine bnd rfl ?_
    refine bnd (show aIs t3 412 21 ((d + 1 : Nat) : Int) = some (j0 : Int) by rw [aIs_s (by omega) (by omega), Int.toNat_natCast, hj0]) ?_
    refine bnd (show aIs t3 414 252 (wadd (wmul 12 ((d + 1 : Nat) : Int)) (j0 : Int)) = some (hI t3 414 (12 * (d + 1) + j0)) by rw [wmul_e (by omega) (by omega), wadd_e (by omega) (by omega), aIs_s (by omega) (by omega), show (12 * ((d + 1 : Nat) : Int) + (j0 : Int)).toNat = 12 * (d + 1) + j0 by omega]) ?_
    rw [hj0, Int.toNat_natCast] at u1
    exact bnd u1 rfl
  have rc1 : RCc p m F0 (d + 1) h h2 := RCc_tr f hp a rc2
  have rr1 : RCr d t t3 := RCr_tr b (RCr_mn rr3 (by omega))
  rcases u5 with ⟨v1, v2, v3, v4, v5, v6⟩ | ⟨v1, v2, v3, v4, v5, v6⟩
  · -- it came back
    rcases v6 with ⟨z, -⟩ | ⟨d1, z, ⟨g, v7, v8⟩, v9, v10⟩
    · omega
    · obtain rfl : d1 = d := by omega
      obtain ⟨w, hw⟩ : ∃ w, w = (if how = 1 then hI t4 395 40 else 0) := ⟨_, rfl⟩
      rw [← hw] at v8
      have e60 : c265 (g254 fu) ((d1 + 1 : Nat) : Int) t1 = some (1, sI t4 410 d1 w) := by
        rw [e265, if_neg (by omega)]
        have ej : ∀ z : Int, c265_j60 (wsub ((d1 + 1 : Nat) : Int) 1) z t4 = some (1, sI t4 410 d1 z) := fun z => by
          unfold c265_j60
          rw [wsub_e (by omega) (by omega), show ((d1 + 1 : Nat) : Int) - 1 = (d1 : Int) by omega, wIs_s (by omega) (by omega), Int.toNat_natCast]
          rfl
        by_cases z1 : how = 1
        · rw [if_pos z1, ej, hw, if_pos z1]
        · rw [if_neg z1, ej, hw, if_neg z1]
      have rcg : RCc p m F0 (d1 + 1) h g := RCc_tr f hp rc1 v7
      have f5 : seR t4 t4 := seR_rf
      have rr4 : RCr d1 t (sI t4 410 d1 w) := RCr_tr (RCr_tr rr1 (RCr_mn v3 (by omega))) (fp_sI (by omega))
      have rc4 : RCc p m F0 d1 h h4 := RCc_tr f hp (RCc_mn rcg (by omega)) (by rw [v8]; exact RCc_sI (by omega) (.inl rfl))
      have it : ∀ y j, y ≠ 410 → hI (sI t4 410 d1 w) y j = hI t4 y j := fun y j hy => by rw [hI_sI, if_neg (by omega)]
      have R5 : BRt K p m q r κ F0 h4 (sI t4 410 d1 w) := by
        refine BR_c v2 (RCc_rf (d := d1)) (fp_sI (by omega)) (RT_c v2.1 chg_rf (fun y j hy => it y j (by omega))) (by rw [it 395 41 (by omega)]; exact v2.2.2.2.2.2.1) ?_ (by rw [it 395 54 (by omega)]; exact v2.2.2.2.2.2.2.2.2)
        obtain ⟨r1, r2, r3⟩ := v2.2.2.2.2.2.2.1
        exact ⟨by rw [it 395 66 (by omega)]; exact r1, r2, fun u hu => by rw [it 419 _ (by omega), it 420 _ (by omega), it 421 _ (by omega), it 422 _ (by omega)]; exact r3 u hu⟩
      -- the frame of level d1 behind the call
      have Q5 : FRQ h4 (sI t4 410 d1 w) K d1 (FF F0 d1) x c := by
        have ra := (RCr_tr rr1 (RCr_mn v3 (by omega))).2
        refine FRQ_be R.1 f rcg v8 (fun y i hy => ?_) (by rw [hI_sI, if_pos ⟨rfl, rfl⟩]) Q d20
        rw [it y i (by omega)]
        exact ra y i (by omega)
      have hk : ∀ u : Int, 0 ≤ u → u < m → 448 ≤ kd h p u := fun u u0 u1 => (R.1.2.1.2.2.1 u u0 u1).1.1
      refine ⟨1, sI t4 410 d1 w, h4, h2, kk, w1, e60, u2, by rw [it 395 41 (by omega)]; exact u3, by rw [it 395 41 (by omega)]; exact u4, .inl ⟨rfl, R5, ⟨v9.1, v9.2.1, v9.2.2.1, by rw [it 395 42 (by omega)]; exact v9.2.2.2⟩, Q5, ?_, rc4, rr4, ?_, ?_⟩⟩
      · rw [v8, hI_sI, if_neg (by omega)]
        exact rcg.2.2 _ _ (fun e' e1 e2 => FF_ne f (by omega) (by omega) e2) (fun z => by
          rcases z with z | z | z | z | ⟨u, u0, u1, z⟩
          · omega
          · omega
          · omega
          · omega
          · have := hk u u0 u1; omega)
      · rw [v10, w4.2 22 8 (by omega)]; exact e8
      · rw [v5, w4.2 22 9 (by omega)]; exact e9
  · -- it stopped
    refine ⟨0, t4, h4, h2, kk, w1, ?_, u2, u3, u4, .inr ⟨rfl, .inr (.inr ⟨rfl, v2, RCc_tr f hp (RCc_mn rc1 (by omega)) (RCc_mn v3 (by omega)), RCr_tr rr1 (RCr_mn v4 (by omega)), by rw [v5, w4.2 22 8 (by omega)]; exact e8, ?_⟩)⟩⟩
    · rw [e265, if_pos v1]
    · rcases v6 with z | ⟨z1, z2, z3⟩
      · exact .inl z
      · exact .inr ⟨z1, by rw [z2, w4.2 22 9 (by omega)]; exact e9, z3⟩
end CLS
