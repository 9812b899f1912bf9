/-! an act from outside (2) -/
section SHT
variable {h h' h0 h1 t t' t0 t1 t2 : hS} {K : Nat → Int → Prop} {p m q κ F0 d x c k a i : Nat} {r : Int → Nat} {n v : Int} {S : Nat → Prop}
theorem CT_chg (C : CT h t K κ) (ch : chg S h h') (hS : ∀ x, S x → x < 448) (et : ∀ j, hI t' 399 j = hI t 399 j) : CT h' t' K κ := fun x v hx => by
  obtain ⟨c1, c2, c3, tx, fn, D, c4, c5, c6, c7, c8⟩ := C x v hx
  obtain ⟨a1, a2, a3, a4, a5, a6⟩ := ch
  exact ⟨c1, by rw [a4]; exact c2, by rw [a2]; exact c3, tx, fn, D, c4, BK_c1 c5 (fun i _ j _ => et _), c6, by rw [a3]; exact c7, fun i z hz => by rw [(a6 x (fun z => by have := hS x z; omega) i).1]; exact c8 i z hz⟩
/-- ready still, when only the runner's cells are other -/
theorem RUN_c (U : RUNp K p m q r κ h t) (ch : chg (fun x => (20 ≤ x ∧ x ≤ 47) ∨ (375 ≤ x ∧ x < 395)) h h') (er : ∀ x j, (x = 399 ∨ x = 400 ∨ (403 ≤ x ∧ x ≤ 407) ∨ (x = 395 ∧ (j = 33 ∨ j = 60 ∨ j = 54))) → hI t' x j = hI t x j) (fr : ∀ j, 1 ≤ j → hR h' 23 j = hR h 23 j) (rn : rnnR h' t') (e11 : hI h' 22 11 = hI h 22 11) : RUNp K p m q r κ h' t' := by
  obtain ⟨R, C, hk, ⟨f1, f2⟩, -, n, e⟩ := U
  exact ⟨RT_c R ch (fun x j hx => er x j (by omega)), CT_chg C ch (fun x hx => by omega) (fun j => er 399 j (.inl rfl)), hk, ⟨fun e e1 e2 => ⟨by rw [fr e e1]; exact (f1 e e1 e2).1, by rw [ch.2.1]; exact (f1 e e1 e2).2⟩, by rw [ch.2.1]; exact f2⟩, rn, by rw [e11, er 395 60 (by omega)]; exact n, by rw [er 395 54 (by omega)]; exact e⟩
theorem rnn_c (rn : rnnR h t) (a : ∀ x j, ((x = 22 ∧ j = 13) ∨ x = 26) → hI h' x j = hI h x j) (b : ∀ x j, ((x = 395 ∧ j = 66) ∨ (419 ≤ x ∧ x ≤ 422)) → hI t' x j = hI t x j) : rnnR h' t' := by
  obtain ⟨r1, r2, r3⟩ := rn
  refine ⟨by rw [a 22 13 (by omega), b 395 66 (by omega)]; exact r1, by rw [a 22 13 (by omega)]; exact r2, fun i hi => ?_⟩
  rw [a 22 13 (by omega)] at hi
  rw [a 26 _ (by omega), a 26 _ (by omega), a 26 _ (by omega), a 26 _ (by omega), b 419 _ (by omega), b 420 _ (by omega), b 421 _ (by omega), b 422 _ (by omega)]
  exact r3 i hi
theorem RNc_C (a : RCc p m F0 d h h') : RNc p m F0 h h' := ⟨a.1, fun x j q _ => a.2.1 x j (fun e _ e20 _ => q e e20), fun x j q w => a.2.2 x j (fun e _ e20 => q e e20) (fun z => w (by
  rcases z with z | z | z | z | z
  · exact .inl ⟨z.1, z.2.2⟩
  · exact .inr (.inl z)
  · exact .inr (.inr (.inl z))
  · exact .inr (.inr (.inr (.inl z)))
  · exact .inr (.inr (.inr (.inr z)))))⟩
theorem RNc_tr (f : F0k F0) (hp : p = 213 ∨ 448 ≤ p) (a : RNc p m F0 h h1) (b : RNc p m F0 h1 h') : RNc p m F0 h h' := by
  obtain ⟨⟨a1, a2, a3, a4, a5⟩, a6, a7⟩ := a
  obtain ⟨⟨b1, b2, b3, b4, b5⟩, b6, b7⟩ := b
  have hk : ∀ u : Int, kd h1 p u = kd h p u := fun u => by
    unfold kd
    split
    · rfl
    · exact a6 _ _ (fun e e20 z => by have := FF_b (e := e) f e20; omega) (by omega)
  refine ⟨⟨b1.trans a1, b2.trans a2, b3.trans a3, b4.trans a4, b5.trans a5⟩, fun x j q w => (b6 x j q w).trans (a6 x j q w), fun x j q w => (b7 x j q (fun z => w ?_)).trans (a7 x j q w)⟩
  rcases z with z | z | z | z | ⟨u, u0, u1, z⟩
  · exact .inl z
  · exact .inr (.inl z)
  · exact .inr (.inr (.inl z))
  · exact .inr (.inr (.inr (.inl z)))
  · exact .inr (.inr (.inr (.inr ⟨u, u0, u1, by rw [← hk]; exact z⟩)))
theorem RNc_sI {j : Nat} {z : Int} (hj : j ≠ 11) : RNc p m F0 h (sI h 22 j z) := ⟨⟨rfl, rfl, rfl, rfl, rfl⟩, fun _ _ _ _ => rfl, fun y' j' q1 w => by
  rw [hI_sI, if_neg]
  rintro ⟨rfl, rfl⟩
  exact w (.inl ⟨rfl, hj⟩)⟩
theorem RNc_fp {S : Nat → Nat → Prop} (a : fp S h h') (e : ∀ x j, S x j → (x = 22 ∧ j ≠ 11) ∨ x = 25 ∨ x = 26) : RNc p m F0 h h' := by
  have e2 := a.1
  refine ⟨⟨?_, ?_, ?_, ?_, ?_⟩, fun x j _ _ => ?_, fun x j q w => a.2 x j (fun z => w ?_)⟩
  · show h'.2.2.1 = h.2.2.1; rw [e2]
  · show h'.2.2.2.1 = h.2.2.2.1; rw [e2]
  · show h'.2.2.2.2.1 = h.2.2.2.2.1; rw [e2]
  · show h'.2.2.2.2.2.1 = h.2.2.2.2.2.1; rw [e2]
  · show h'.2.2.2.2.2.2 = h.2.2.2.2.2.2; rw [e2]
  · show h'.2.1 x j = h.2.1 x j; rw [e2]
  · rcases e x j z with z | z | z
    · exact .inl z
    · exact .inr (.inl z)
    · exact .inr (.inr (.inl z))
/-- the start of a run -/
def gs (F0 : Nat) (l2 : Int) (h : hS) : hS := sI (sI (sI (sI (sR h 23 0 F0) 22 3 0) 22 5 0) 22 6 l2) 22 7 (-1)
theorem gs_c {l2 : Int} : chg (fun x => (20 ≤ x ∧ x ≤ 47) ∨ (375 ≤ x ∧ x < 395)) h (gs F0 l2 h) := chg_tr (chg_tr (chg_tr (chg_tr (chg_sR (.inl ⟨by omega, by omega⟩)) (chg_sI (.inl ⟨by omega, by omega⟩))) (chg_sI (.inl ⟨by omega, by omega⟩))) (chg_sI (.inl ⟨by omega, by omega⟩))) (chg_sI (.inl ⟨by omega, by omega⟩))
theorem gs_i {l2 : Int} {y j : Nat} (hy : ¬ (y = 22 ∧ (j = 3 ∨ j = 5 ∨ j = 6 ∨ j = 7))) : hI (gs F0 l2 h) y j = hI h y j := by
  unfold gs
  rw [hI_sI, if_neg (by omega), hI_sI, if_neg (by omega), hI_sI, if_neg (by omega), hI_sI, if_neg (by omega), hI_sR]
theorem gs_r {l2 : Int} {y j : Nat} (hy : ¬ (y = 23 ∧ j = 0)) : hR (gs F0 l2 h) y j = hR h y j := by
  unfold gs
  rw [hR_sI, hR_sI, hR_sI, hR_sI, hR_sR, if_neg hy]
theorem gs_N {l2 : Int} : RNc p m F0 h (gs F0 l2 h) := ⟨⟨rfl, rfl, rfl, rfl, rfl⟩, fun x j _ w => gs_r w, fun x j _ w => gs_i (fun z => w (.inl ⟨z.1, by omega⟩))⟩
/-- ready, and begun -/
theorem gs_B {l2 : Int} (U : RUNp K p m q r κ h t) (f : F0k F0) (hF : hT h F0 = 12) (cn : hI h 22 10 = hI t 395 41 ∧ 0 ≤ hI t 395 41 ∧ hI t 395 41 ≤ 500) (e42 : hI t 395 42 = 0) : BRt K p m q r κ F0 (gs F0 l2 h) t ∧ GOt 0 (gs F0 l2 h) t ∧ hI (gs F0 l2 h) 22 6 = l2 := by
  have V := RUN_c (h' := gs F0 l2 h) (t' := t) U gs_c (fun _ _ _ => rfl) (fun j hj => gs_r (by omega)) (rnn_c U.2.2.2.2.1 (fun y j hy => gs_i (by omega)) (fun _ _ _ => rfl)) (gs_i (by omega))
  obtain ⟨R, C, hk, ⟨f1, f2⟩, rn, n, e⟩ := V
  refine ⟨⟨R, C, hk, f, ⟨f1, ?_, hF⟩, by rw [gs_i (by omega)]; exact cn, rn, n, e⟩, ⟨⟨?_, by omega⟩, ?_, ?_, e42⟩, ?_⟩
  · unfold gs; rw [hR_sI, hR_sI, hR_sI, hR_sI, hR_sR, if_pos ⟨rfl, rfl⟩]
  · unfold gs; rw [hI_sI, if_neg (by omega), hI_sI, if_neg (by omega), hI_sI, if_neg (by omega), hI_sI, if_pos ⟨rfl, rfl⟩]; rfl
  · unfold gs; rw [hI_sI, if_pos ⟨rfl, rfl⟩]
  · unfold gs; rw [hI_sI, if_neg (by omega), hI_sI, if_neg (by omega), hI_sI, if_pos ⟨rfl, rfl⟩]
  · unfold gs; rw [hI_sI, if_neg (by omega), hI_sI, if_pos ⟨rfl, rfl⟩]
theorem gs_Q {l2 : Int} (f : F0k F0) (hF : hT h F0 = 12) (Q : FRQ h t K 0 F0 x c) : FRQ (gs F0 l2 h) t K 0 F0 x c := by
  obtain ⟨⟨c1, c2, c3, c4, c5, c6⟩, ⟨d1, d2, d3⟩, g1, g2, g3, n, j, k, ⟨n1, n2, n3⟩, n4, n5, n6, n7, n8⟩ := Q
  have hf : F0 = 24 ∨ (375 ≤ F0 ∧ F0 < 395) := f
  refine ⟨⟨c1, by rw [gs_r (by omega)]; exact c2, c3, c4, c5, c6⟩, ⟨d1, by rw [gs_r (by omega)]; exact d2, by rw [gs_i (by omega)]; exact d3⟩, g1, by rw [gs_i (by omega)]; exact g2, by rw [gs_i (by omega)]; exact g3, n, j, k, ⟨n1, by rw [gs_i (by omega)]; exact n2, n3⟩, n4, n5, n6, ?_, n8⟩
  rw [gs_r (by omega)]
  exact ACH_c n7 (fun a' Q' => KD_chg gs_c (fun x hx => by omega) Q') (fun _ _ _ => ⟨rfl, rfl, rfl⟩)
theorem RUN_B (f : F0k F0) (B : BRt K p m q r κ F0 h t) (h24 : hT h 24 = 12) : RUNp K p m q r κ h t := ⟨B.1, B.2.1, B.2.2.1, ⟨B.2.2.2.2.1.1, h24⟩, B.2.2.2.2.2.2.1, B.2.2.2.2.2.2.2.1, B.2.2.2.2.2.2.2.2⟩
end SHT
