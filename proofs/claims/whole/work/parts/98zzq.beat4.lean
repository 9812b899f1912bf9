/-! call 18: beat, a long act runs alike in both -/
section BTW
variable {h h' h0 h1 t t' t0 t1 t2 : hS} {K : Nat → Int → Prop} {p m q κ l x c i : Nat} {r : Int → Nat} {n v : Int}
/-- how a long act's run comes out -/
def LGo (K : Nat → Int → Prop) (κ l x c : Nat) (h1 t4 : hS) (out how : Int) : Prop :=
  (how = 3 ∧ out = 5 ∧ FRQ h1 t4 K 0 (376 + 2 * l) x c ∧ ∃ (tx : Nat) (L : List Nat) (f : Int) (qq : Nat) (C : List Int), tx ≤ κ ∧ LK (ntx t4 tx) L f ∧ (∀ i ∈ L, i < 1200) ∧ BL (fun q i S => SS (ntx t4 tx) (BK (ntx t4 tx) 0 12) ((12 : Nat) = 12) q i S) L qq C ∧ (∀ (j : Nat) (v : Int), (C ++ [0])[j]? = some v → hI h1 x (qq + j) = v) ∧ qq + C.length + 1 = hL h1 x ∧ hI h1 (376 + 2 * l) 4 = (qq : Int) ∧ hI t4 395 55 = gf tx f)
  ∨ ((how = 0 ∨ how = 1) ∧ out = 0 ∧ hI h1 22 8 = (if how = 1 then hI t4 395 40 else 0))
  ∨ (how = 2 ∧ hI h1 22 8 = 0 ∧ ((out = 1 ∧ hI t4 395 42 = 0) ∨ (out = 4 ∧ hI t4 395 42 = 1)))
theorem LONG (U : RUNp K p m q r κ h t) (Ss : SL h) (l10 : l < 10) (F : FRL h t K l x c) (X : SFX h t κ l x) : ∃ (out how : Int) (h1 t4 tA : hS), c137 (376 + 2 * l) h = some (out, h1) ∧ g254 700 254 [hI t 429 l, 0, 1] tA = some (how, t4) ∧ (∀ o, c272t (l : Int) (how, t4) = some o → c272 (l : Int) t = some o) ∧ RUNp K p m q r κ h1 t4 ∧ BTc p m h h1 ∧ (∀ y, 375 ≤ y → y < 395 → y ≠ 376 + 2 * l → ∀ j, hI h1 y j = hI h y j ∧ hR h1 y j = hR h y j) ∧ BTr t t4 ∧ (∀ y j, 423 ≤ y → y ≤ 437 → ¬ (y = 430 ∧ j = l) → hI t4 y j = hI t y j) ∧ hI t4 430 l = wadd (hI t 430 l) 1 ∧ LGo K κ l x c h1 t4 out how ∧ (hI t4 408 0 = hI t 426 l ∧ hI t4 409 0 = hI t 427 l ∧ hI t4 411 0 = hI t 433 l ∧ hI t4 412 0 = 0 ∧ hI t4 413 0 = hI t 434 l ∧ ∀ u, u < 12 → ∀ y, 414 ≤ y → y ≤ 416 → hI t4 y u = hI t (y + 21) (12 * l + u)) ∧ (∀ j, hR h1 (376 + 2 * l) j = hR h (376 + 2 * l) j) ∧ (∀ j, hI h1 20 j = hI h 20 j) ∧ ∀ j, hI t4 418 j = hI t 418 j := by
  obtain ⟨s1, s2, s3, s4⟩ := Ss l l10
  obtain ⟨tA, a1, a2, a3, a4, a5, a6⟩ := AHD (t := t) l10
  have hp := U.1.2.2.2.2.1
  have fF : F0k (376 + 2 * l) := .inr ⟨by omega, by omega⟩
  have FF0 : FF (376 + 2 * l) 0 = 376 + 2 * l := if_pos rfl
  have UA : RUNp K p m q r κ (cs h) tA := RUN_c U cs_c (fun y j hy => a2.2 y j (by omega)) (fun j _ => by unfold cs; rw [hR_sI, hR_sI, hR_sI]) (rnn_c U.2.2.2.2.1 (fun y j hy => cs_i (by omega)) (fun y j hy => a2.2 y j (by omega))) (cs_i (by omega))
  have QA : FRQ (cs h) tA K 0 (376 + 2 * l) x c := by
    obtain ⟨⟨c1, c2, c3, c4, c5, c6⟩, ⟨d1, d2, d3⟩, g1, g2, g3, n, k, ⟨n1, n2, n3⟩, n4, n5, n6, n7⟩ := F
    have cr : ∀ y j, hR (cs h) y j = hR h y j := fun y j => by unfold cs; rw [hR_sI, hR_sI, hR_sI]
    refine ⟨⟨c1, by rw [cr]; exact c2, c3, c4, c5, c6⟩, ⟨d1, by rw [cr]; exact d2, by rw [cs_i (by omega)]; exact d3⟩, by rw [a5.1]; exact g1, by rw [cs_i (by omega), a5.2.1]; exact g2, by rw [cs_i (by omega), a5.2.2.1]; exact g3, n, 0, k, ⟨n1, by rw [cs_i (by omega)]; exact n2, by rw [a5.2.2.2.2.2]; exact n3⟩, a5.2.2.2.2.1, by rw [a5.2.2.2.1, Nat.zero_add]; exact n4, by omega, ?_, ?_⟩
    · rw [cr]
      exact ACH_c n6 (fun a' Q' => KD_chg cs_c (fun x hx => by omega) Q') (fun u u1 u2 => by rw [Nat.mul_zero, Nat.zero_add]; exact ⟨a6 u (by omega) 414 (by omega) (by omega), a6 u (by omega) 415 (by omega) (by omega), a6 u (by omega) 416 (by omega) (by omega)⟩)
    · rw [Nat.mul_zero, Nat.zero_add, a6 0 (by omega) 414 (by omega) (by omega)]
      exact n7
  obtain ⟨B, G, g6⟩ := gs_B (l2 := 1) UA fF (show hT (cs h) (376 + 2 * l) = 12 from s4) (by rw [cs_0.2.2, a3.2.2.1]; omega) a3.2.2.2
  have Q := gs_Q (l2 := 1) fF (show hT (cs h) (376 + 2 * l) = 12 from s4) QA
  obtain ⟨tx, L, f, qq, C, x1, x2, x3, x4, x5, x6, x7, x8, x9⟩ := X
  have en : ntx tA tx = ntx t tx := funext fun i => funext fun j => a2.2 399 _ (by omega)
  have hx := Q.1.2.2.1
  have ix : ∀ j, hI (gs (376 + 2 * l) 1 (cs h)) x j = hI h x j := fun j => by rw [gs_i (by omega), cs_i (by omega)]
  have lx : hL (gs (376 + 2 * l) 1 (cs h)) x = hL h x := rfl
  have i0 : ∀ j, j = 8 ∨ j = 9 → hI (gs (376 + 2 * l) 1 (cs h)) 22 j = 0 := fun j hj => by
    rw [gs_i (by omega)]
    rcases hj with rfl | rfl
    · exact cs_0.1
    · exact cs_0.2.1
  have ht : tx ≤ 6 := by have := U.2.2.1; omega
  obtain ⟨how, t4, h4, kk, u1, u2, u3, u4, u5⟩ := GB_all (F0 := 376 + 2 * l) (d := 0) (tx := tx) (fun _ g hg => BDYa 19 1 rfl g (by omega)) ht 12 (Nat.le_refl _) 700 (by omega) (gs (376 + 2 * l) 1 (cs h)) tA x c L f qq C 1 B G Q (by rw [en]; exact x2) x3 (by rw [en]; exact x4) (fun j v e => by rw [ix]; exact x5 j v (ga e)) (by rw [lx, ← x6]; omega) (by rw [FF0, gs_i (by omega), cs_i (by omega)]; exact x7) (.inr ⟨rfl, rfl, rfl, by rw [g6]; omega⟩)
  rw [← x8] at u1
  have N0 : RNc p m (376 + 2 * l) h (gs (376 + 2 * l) 1 (cs h)) := RNc_tr fF hp (cs_N fF hp) gs_N
  have bA : BTr t tA := ⟨a2.1, fun y j z => a2.2 y j (by omega)⟩
  have oA : ∀ y j, 423 ≤ y → y ≤ 437 → ¬ (y = 430 ∧ j = l) → hI tA y j = hI t y j := fun y j h1 h2 h3 => a2.2 y j (by omega)
  -- the class comes to its end at h1
  have fin : ∀ (out : Int) (h1 : hS) (k1 : Nat), runS k1 (gs (376 + 2 * l) 1 (cs h)) h1 → k1 < 1000000 → hI h1 22 7 = out → out ≠ -1 → BRt K p m q r κ (376 + 2 * l) h1 t4 → RCc p m (376 + 2 * l) 0 (gs (376 + 2 * l) 1 (cs h)) h1 → RCr 0 tA t4 → LGo K κ l x c h1 t4 out how → ∃ (out how : Int) (h1 t4 tA : hS), c137 (376 + 2 * l) h = some (out, h1) ∧ g254 700 254 [hI t 429 l, 0, 1] tA = some (how, t4) ∧ (∀ o, c272t (l : Int) (how, t4) = some o → c272 (l : Int) t = some o) ∧ RUNp K p m q r κ h1 t4 ∧ BTc p m h h1 ∧ (∀ y, 375 ≤ y → y < 395 → y ≠ 376 + 2 * l → ∀ j, hI h1 y j = hI h y j ∧ hR h1 y j = hR h y j) ∧ BTr t t4 ∧ (∀ y j, 423 ≤ y → y ≤ 437 → ¬ (y = 430 ∧ j = l) → hI t4 y j = hI t y j) ∧ hI t4 430 l = wadd (hI t 430 l) 1 ∧ LGo K κ l x c h1 t4 out how ∧ (hI t4 408 0 = hI t 426 l ∧ hI t4 409 0 = hI t 427 l ∧ hI t4 411 0 = hI t 433 l ∧ hI t4 412 0 = 0 ∧ hI t4 413 0 = hI t 434 l ∧ ∀ u, u < 12 → ∀ y, 414 ≤ y → y ≤ 416 → hI t4 y u = hI t (y + 21) (12 * l + u)) ∧ (∀ j, hR h1 (376 + 2 * l) j = hR h (376 + 2 * l) j) ∧ (∀ j, hI h1 20 j = hI h 20 j) ∧ ∀ j, hI t4 418 j = hI t 418 j := fun out h1 k1 z1 z2 z3 z4 z5 z6 z7 z8 => by
    have rn := RNc_tr fF hp N0 (RNc_C z6)
    have hk : ∀ u : Int, 0 ≤ u → u < m → 448 ≤ kd h p u := fun u u0 u1 => (U.1.2.1.2.2.1 u u0 u1).1.1
    refine ⟨out, how, h1, t4, tA, ?_, u1, fun o e => a1 o (bnd u1 e), RUN_B fF z5 (by rw [rn.1.2.1]; exact U.2.2.2.1.2), BTc_N fF rn, fun y y1 y2 y3 j => ?_, BTr_tr bA (BTr_N (RNr_C z7)), fun y j y1 y2 y3 => by rw [z7.2 y j (by omega)]; exact oA y j y1 y2 y3, by rw [z7.2 430 l (by omega)]; exact a4, z8, ⟨(z7.2 408 0 (by omega)).trans a5.1, (z7.2 409 0 (by omega)).trans a5.2.1, (z7.2 411 0 (by omega)).trans a5.2.2.2.1, (z7.2 412 0 (by omega)).trans a5.2.2.2.2.1, (z7.2 413 0 (by omega)).trans a5.2.2.2.2.2, fun u hu y y1 y2 => (z7.2 y u (by omega)).trans (a6 u hu y y1 y2)⟩, fun j => (z6.2.1 _ j (fun e _ e20 e0 => by unfold FF; rw [if_neg e0]; omega)).trans ((gs_r (by omega)).trans (by unfold cs; rw [hR_sI, hR_sI, hR_sI])), fun j => rn.2.2 20 j (fun e e20 z => by unfold FF at z; split at z <;> omega) (fun z => by
      rcases z with z | z | z | z | ⟨u, u0, u1, z⟩
      · omega
      · omega
      · omega
      · omega
      · have := hk u u0 u1
        omega), fun j => (z7.2 418 j (by omega)).trans (a2.2 418 j (by omega))⟩
    · unfold c137
      refine bnd c114_s ?_
      refine bnd (GO_c (.inr rfl) (show hT (cs h) (376 + 2 * l) = 12 from s4) z1 z2 (by rw [z3]; exact z4)) ?_
      rw [z3]
    · have nf : ∀ e, e ≤ 20 → y ≠ FF (376 + 2 * l) e := fun e e20 z => by unfold FF at z; split at z <;> omega
      refine ⟨rn.2.2 y j nf (fun z => ?_), rn.2.1 y j nf (by omega)⟩
      rcases z with z | z | z | z | ⟨u, u0, u1, z⟩
      · omega
      · omega
      · omega
      · omega
      · have := hk u u0 u1
        omega
  have b41 := a3.2.2.1
  rcases u5 with u5 | ⟨w0, -, w1, w2, w3, w4, w5, w6, w7, w8, L', f', P, C', w9, w10, w11, w12, w13, w14⟩
  · rcases u5 with ⟨z0, z1, z2, z3, z4, z5, z6, z7, z8⟩ | ⟨z0, z1, z2, z3, z4, z5⟩ | ⟨z0, z1, z2, z3, z4, z5⟩
    · -- its code is at its end
      have l1 : hL h4 x = hL h x := by rw [z5.1.2.2.1]; rfl
      have cx : ∀ j, hI h4 x j = hI h x j := fun j => (RCc_x B Q z5 j).trans (ix j)
      obtain ⟨h5, v1, v2⟩ := ENDq z1 z2 z3 z4 (by rw [l1, ← x6]; omega) (by rw [cx]; exact x5 C.length 0 (by rw [List.getElem?_append_right (Nat.le_refl _), Nat.sub_self]; rfl))
      have n41 := z1.2.2.2.2.2.1.2.2
      rcases v2 with ⟨z, -⟩ | ⟨-, v3, v4, v5, v6, v7⟩ | ⟨z, -⟩
      · exact absurd z (by decide)
      · rcases v7 with ⟨-, v8, v9, v10⟩ | ⟨d1, z, -⟩
        · have b1 : seR (sI t4 395 40 0) t4 := ⟨rfl, fun y j z => by rw [hI_sI, if_neg (by omega)]⟩
          have o1 : ∀ j, j ≠ 40 → hI (sI t4 395 40 0) 395 j = hI t4 395 j := fun j hj => by rw [hI_sI, if_neg (by omega)]
          refine fin 0 h5 (kk + 1) (runS_tr u2 v1) (by omega) v9 (by omega) (BR_se v3 b1 (o1 41 (by omega)).symm (by rw [← o1 54 (by omega)]; exact v3.2.2.2.2.2.2.2.2)) (RCc_tr fF hp z5 v8) z6 (.inr (.inl ⟨.inl z0, rfl, ?_⟩))
          rw [v10, hI_sI, if_pos ⟨rfl, rfl⟩, if_neg (by omega)]
        · exact absurd z (by omega)
      · exact absurd z (by decide)
    · have n41 := z1.2.2.2.2.2.1.2.2
      rcases z5 with ⟨-, y1, y2, y3⟩ | ⟨d1, z, -⟩
      · exact fin 0 h4 kk u2 (by omega) y2 (by omega) z1 y1 z2 (.inr (.inl ⟨.inr z0, rfl, by rw [y3, if_pos z0]⟩))
      · exact absurd z (by omega)
    · have n41 := z1.2.2.2.2.2.1.2.2
      have e8 : hI h4 22 8 = 0 := by rw [z4]; exact i0 8 (by omega)
      rcases z5 with ⟨y1, y2, y3⟩ | ⟨y1, y2, y3⟩
      · exact fin 1 h4 kk u2 (by omega) y1 (by omega) z1 z2 z3 (.inr (.inr ⟨z0, e8, .inl ⟨rfl, y3⟩⟩))
      · exact fin 4 h4 kk u2 (by omega) y1 (by omega) z1 z2 z3 (.inr (.inr ⟨z0, e8, .inr ⟨rfl, y3⟩⟩))
  · have n41 := w1.2.2.2.2.2.1.2.2
    have l1 : hL h4 x = hL h x := by rw [w3.1.2.2.1]; rfl
    have cx : ∀ j, hI h4 x j = hI h x j := fun j => (RCc_x B Q w3 j).trans (ix j)
    have e4 : ntx t4 tx = ntx tA tx := funext fun i => funext fun j => RCr_n w4 tx i j
    refine fin 5 h4 kk u2 (by omega) w7 (by omega) w1 w3 w4 (.inl ⟨w0, rfl, w2, tx, L', f', qq + P.length, C', x1, by rw [e4]; exact w9, w10, by rw [e4]; exact w11, fun j v e => ?_, ?_, w13, w14⟩)
    · rw [cx, Nat.add_assoc]
      refine x5 (P.length + j) v ?_
      rw [w12, List.append_assoc]
      exact gb e
    · rw [l1, ← x6, w12, List.length_append]
      omega
end BTW
