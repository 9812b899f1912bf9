/-! a block runs alike in both (2): one statement behind the other -/
section BLD
variable {h h' h0 h1 t t' t0 t1 t2 : hS} {K : Nat → Int → Prop} {p m q κ F0 d n x c k a tx i pos pos' fu s : Nat} {r : Int → Nat} {il v ok : Int}
theorem RCc_6 (R : RT h t K p m q r) (f : F0k F0) (a : RCc p m F0 d h h') : hI h' 22 6 = hI h 22 6 := by
  refine a.2.2 22 6 (fun e _ e20 z => by have := FF_b (e := e) f e20; omega) (fun z => ?_)
  rcases z with z | z | z | z | ⟨u, u0, u1, z⟩
  · omega
  · omega
  · omega
  · omega
  · have := (R.2.1.2.2.1 u u0 u1).1.1
    omega
theorem GOl (IHd : d < 20 → ∀ g, 28 * (20 - d) ≤ g → BDYp K p m q r κ F0 (d + 1) g) (IHk : ∀ k', k = k' + 1 → ∀ g, 28 * (20 - d) + 2 * k' + 4 ≤ g → GBp K p m q r κ F0 d tx k' g) (hk : k ≤ 12) (ht : tx ≤ 6) (hf : 28 * (20 - d) + 2 * k + 3 ≤ fu) : ∀ (L : List Nat) (f : Int) (qq : Nat) (C : List Int) (h t : hS) (M : Nat), BRt K p m q r κ F0 h t → GOt d h t → FRQ h t K d (FF F0 d) x c → LK (ntx t tx) L f → (∀ i ∈ L, i < 1200) → BL (fun q i S => SS (ntx t tx) (BK (ntx t tx) 0 k) (k = 12) q i S) L qq C → (∀ (j : Nat) (v : Int), C[j]? = some v → hI h x (qq + j) = v) → qq + C.length < hL h x → hI h (FF F0 d) 4 = (qq : Int) → ((il = 0 ∧ (hI h 22 6 = 0 ∨ d ≠ 0 ∨ k ≠ 12)) ∨ (il = 1 ∧ d = 0 ∧ k = 12 ∧ hI h 22 6 ≠ 0)) → C.length < M → ∃ (how : Int) (t' h' : hS) (kk : Nat), lp (fun s => c254_b3 (g254 fu) (d : Int) il s.1 s.2) M (gf tx f, t) = some (if how = 0 then .inl t' else .inr (how, t')) ∧ runS kk h h' ∧ hI t 395 41 ≤ hI t' 395 41 ∧ (kk : Int) ≤ 1 + 1998 * (hI t' 395 41 - hI t 395 41) ∧ (RSL K p m q r κ F0 d x c (qq + C.length) h t h' t' how ∨ (how = 3 ∧ il = 1 ∧ RSTq K p m q r κ F0 x c tx C qq h t h' t')) := by
  intro L
  induction L with
  | nil =>
    intro f qq C h t M R G Q lk _ bl cd hl hq hil hM
    have lk : f = -1 := lk
    have bl : C = [] := bl
    subst lk bl
    obtain ⟨M, rfl⟩ : ∃ M1, M = M1 + 1 := ⟨M - 1, by omega⟩
    refine ⟨0, t, h, 0, ?_, rfl, Int.le_refl _, by omega, .inl (.inl ⟨rfl, R, G, Q, hq, RCc_rf, RCr_rf, rfl, rfl⟩)⟩
    rw [gf_m, if_pos rfl]
    refine lp_d ?_
    show c254_b3 (g254 fu) (d : Int) il (-1) t = _
    unfold c254_b3
    rw [if_pos rfl]
  | cons i L ih =>
    intro f qq C h t M R G Q lk hL1 bl cd hl hq hil hM
    have hp := R.1.2.2.2.2.1
    have f0 := R.2.2.2.1
    obtain ⟨⟨g1, g2⟩, g3, g4, g5⟩ := id G
    obtain ⟨lk1, lk2⟩ := lk
    obtain ⟨S, C2, eC, sS, sR⟩ := bl
    subst lk1
    obtain ⟨S', eS', hS1⟩ := SS_h sS
    have hi := hL1 i List.mem_cons_self
    have hL2 : ∀ j ∈ L, j < 1200 := fun j hj => hL1 j (List.mem_cons_of_mem _ hj)
    have lS : 2 ≤ S.length := by rw [eS', List.length_cons]; omega
    have lC : C.length = S.length + C2.length := by rw [eC, List.length_append]
    obtain ⟨M, rfl⟩ : ∃ M1, M = M1 + 1 := ⟨M - 1, by omega⟩
    have cS : ∀ (j : Nat) (v : Int), S[j]? = some v → hI h x (qq + j) = v := fun j v e => cd j v (by rw [eC]; exact ga e)
    have cR : ∀ (j : Nat) (v : Int), C2[j]? = some v → hI h x (qq + S.length + j) = v := fun j v e => by
      rw [Nat.add_assoc]
      exact cd (S.length + j) v (by rw [eC]; exact gb e)
    have c0 : hI h x qq = 253 := cS 0 253 (by rw [eS']; rfl)
    have gn0 : ¬ (gn tx i = -1) := by unfold gn; omega
    rw [gf_n]
    rcases BURN R G Q.1 hq (by omega) c0 with ⟨b0, h1, b1, b2, b3, b4, b5⟩ | ⟨b0, h1, b1, b2, b3, b4⟩
    · -- it runs
      have n41 := R.2.2.2.2.2.1
      obtain ⟨t1, e1⟩ : ∃ t1, t1 = sI t 395 41 (hI t 395 41 + 1) := ⟨_, rfl⟩
      have s1 : seR t t1 := by rw [e1]; exact fp_sI (.inl ⟨rfl, by omega⟩)
      have e41 : hI t1 395 41 = hI t 395 41 + 1 := by rw [e1, hI_sI, if_pos ⟨rfl, rfl⟩]
      have o1 : ∀ j, j ≠ 41 → hI t1 395 j = hI t 395 j := fun j hj => by rw [e1, hI_sI, if_neg (by omega)]
      have en1 : ntx t1 tx = ntx t tx := funext fun i => funext fun j => seR_n s1 tx i j
      have R1 : BRt K p m q r κ F0 h1 t1 := BR_st R g2 Q.1 b2 s1 (by rw [b4, e41]; omega) (by rw [o1 54 (by omega)]; exact R.2.2.2.2.2.2.2.2)
      have G1 : GOt d h1 t1 := ⟨⟨by rw [b5 3 (by omega)]; exact g1, g2⟩, by rw [b5 7 (by omega)]; exact g3, by rw [b5 5 (by omega)]; exact g4, by rw [o1 42 (by omega)]; exact g5⟩
      have Q1 := FRQ_st Q b2 s1
      have rc1 : RCc p m F0 d h h1 := RCc_st g2 b2
      have rr1 : RCr d t t1 := RCr_se s1
      have x1 : ∀ j, hI h1 x j = hI h x j := stF_x Q.1 b2
      have l1 : hL h1 x = hL h x := stF_L b2 x
      have il1 : (il = 0 ∧ (hI h1 22 6 = 0 ∨ d ≠ 0 ∨ k ≠ 12)) ∨ (il = 1 ∧ d = 0 ∧ k = 12 ∧ hI h1 22 6 ≠ 0) := by rw [b5 6 (by omega)]; exact hil
      have w41 : wadd (hI t 395 41) 1 = hI t 395 41 + 1 := wadd_e (by omega) (by omega)
      have body : ∀ (o : Int × hS) z, g254 fu 255 [gn tx i, (d : Int), il] t1 = some o → (if o.1 = 3 then (c257 (gn tx i) 4 o.2).bind (fun v8 => (some (sI o.2 395 55 v8)).bind (fun h9 => c254_j63 (gn tx i) o.1 h9)) else c254_j63 (gn tx i) o.1 o.2) = some z → c254_b3 (g254 fu) (d : Int) il (gn tx i) t = some z := fun o z e e2 => by
        unfold c254_b3
        rw [if_neg gn0, if_neg (by omega), w41, ← e1]
        refine bnd rfl ?_
        refine bnd e ?_
        exact e2
      rcases DS_all IHd IHk hk R1 G1 Q1 ht hi (by rw [en1]; exact sS) (fun j v e => by rw [x1]; exact cS j v e) (by rw [l1]; omega) b3 il1 hf with ds | ⟨z1, z2, z3, z4, z5⟩
      · obtain ⟨how, t2, h2, kk, u1, u2, u3, u4, u5⟩ := ds
        have u6 := RSL_pre f0 hp rc1 rr1 (b5 8 (by omega)) (b5 9 (by omega)) u5
        rcases u6 with ⟨v0, v1, v2, v3, v4, v5, v6, v7, v8⟩ | v9
        · -- the next one
          have en2 : ntx t2 tx = ntx t tx := funext fun i => funext fun j => RCr_n v6 tx i j
          have l2 : hL h2 x = hL h x := by rw [v5.1.2.2.1]
          have x2 : ∀ j, hI h2 x j = hI h x j := fun j => RCc_x R Q v5 j
          obtain ⟨how2, t3, h3, kk2, y1, y2, y3, y4, y5⟩ := ih (ntx t tx i 4) (qq + S.length) C2 h2 t2 M v1 v2 v3 (by rw [en2]; exact lk2) hL2 (by rw [en2]; exact sR) (fun j v e => by rw [x2]; exact cR j v e) (by rw [l2]; omega) v4 (by rw [RCc_6 R.1 f0 v5]; exact hil) (by omega)
          refine ⟨how2, t3, h3, 1 + kk + kk2, ?_, runS_tr (runS_tr b1 u2) y2, by omega, by omega, ?_⟩
          · refine (lp_n (s' := (gf tx (ntx t tx i 4), t2)) ?_).trans y1
            refine body _ _ u1 ?_
            rw [v0, if_neg (show ¬ (0 : Int) = 3 by omega)]
            unfold c254_j63
            rw [if_pos rfl]
            refine bnd (c257_f (s := 4) (f := ntx t tx i 4) ht hi (by omega) (by rw [en2]) (LK_f lk2 hL2)) ?_
            rfl
          · rcases y5 with y5 | ⟨y5, y6, ⟨y7, y8, y9, y10, y11, y12, y13, y14, L', f', P, C', y15, y16, y17, y18, y19, y20⟩⟩
            · rw [show qq + C.length = qq + S.length + C2.length by omega]
              exact .inl (RSL_pre f0 hp v5 v6 v7 v8 y5)
            · have d0 : d = 0 := by omega
              subst d0
              rw [en2] at y15 y17
              refine .inr ⟨y5, y6, y7, y8, RCc_tr f0 hp v5 y9, RCr_tr v6 y10, by rw [y11, v7], by rw [y12, v8], y13, y14, L', f', S ++ P, C', y15, y16, ?_, ?_, ?_, y20⟩
              · rw [List.length_append, ← Nat.add_assoc]; exact y17
              · rw [eC, y18, List.append_assoc]
              · rw [y19, List.length_append, Nat.add_assoc]
        · -- it ends here
          have how0 : how ≠ 0 ∧ how ≠ 3 := by
            rcases v9 with ⟨z, -⟩ | ⟨z, -⟩
            · omega
            · omega
          refine ⟨how, t2, h2, 1 + kk, ?_, runS_tr b1 u2, by omega, by omega, .inl (.inr v9)⟩
          rw [if_neg how0.1]
          refine lp_d ?_
          refine body _ _ u1 ?_
          rw [if_neg (show ¬ how = 3 from how0.2)]
          unfold c254_j63
          rw [if_neg (show ¬ how = 0 from how0.1)]
      · -- it rests
        subst z2 z3
        rw [en1] at z4
        have c1 : hI h1 x (qq + 1) = 211 := by rw [x1]; exact cS 1 211 (by rw [z5]; rfl)
        have ll : S.length = 2 := by rw [z5]; rfl
        have nz6 : hI h1 22 6 ≠ 0 := by
          rcases il1 with ⟨y, -⟩ | ⟨-, -, -, y⟩
          · omega
          · exact y
        have hF := Q.1.2.2.2.2.2
        obtain ⟨h2, e2⟩ : ∃ h2, h2 = sI (sI h1 (FF F0 0) 4 ((qq + 1 + 1 : Nat) : Int)) 22 7 5 := ⟨_, rfl⟩
        have s2 : stF (FF F0 0) h1 h2 := by rw [e2]; exact fp_tr (fp_sI (.inr (.inr ⟨rfl, rfl⟩))) (fp_sI (.inl ⟨rfl, by omega⟩))
        have st : stepA (FF F0 0) h1 = some h2 := by
          rw [stepA_n Q1.1 b3 (by rw [l1]; omega) c1 (.inr (.inl (by omega)))]
          have e127 : c127 (FF F0 0) 211 (sI h1 (FF F0 0) 4 ((qq + 1 + 1 : Nat) : Int)) = if hI (sI h1 (FF F0 0) 4 ((qq + 1 + 1 : Nat) : Int)) 22 6 = 0 then some (sI h1 (FF F0 0) 4 ((qq + 1 + 1 : Nat) : Int)) else if hI (sI h1 (FF F0 0) 4 ((qq + 1 + 1 : Nat) : Int)) 22 3 = 0 then (some (sI (sI h1 (FF F0 0) 4 ((qq + 1 + 1 : Nat) : Int)) 22 7 5)).bind (fun h22 => some h22) else some (sI h1 (FF F0 0) 4 ((qq + 1 + 1 : Nat) : Int)) := rfl
          have e6 : hI (sI h1 (FF F0 0) 4 ((qq + 1 + 1 : Nat) : Int)) 22 6 = hI h1 22 6 := by rw [hI_sI, if_neg (by omega)]
          have e3 : hI (sI h1 (FF F0 0) 4 ((qq + 1 + 1 : Nat) : Int)) 22 3 = 0 := by rw [hI_sI, if_neg (by omega)]; exact G1.1.1
          rw [e127, e6, e3, if_neg nz6, if_pos rfl, e2]
          rfl
        have st55 : seR t1 (sI t1 395 55 (gf tx (ntx t tx i 4))) := fp_sI (.inl ⟨rfl, by omega⟩)
        have o2 : ∀ j, j ≠ 55 → hI (sI t1 395 55 (gf tx (ntx t tx i 4))) 395 j = hI t1 395 j := fun j hj => by rw [hI_sI, if_neg (by omega)]
        have i2 : ∀ j, j ≠ 7 → hI h2 22 j = hI h1 22 j := fun j hj => by rw [e2, hI_sI, if_neg (by omega), hI_sI, if_neg (by omega)]
        refine ⟨3, sI t1 395 55 (gf tx (ntx t tx i 4)), h2, 1 + 1, ?_, runS_tr b1 (runS_one G1.2.1 G1.1.1 g2 (BR_F R1 g2) Q1.1.1 st), by rw [o2 41 (by omega)]; omega, by rw [o2 41 (by omega)]; omega, .inr ⟨rfl, z1, BR_st R1 g2 Q1.1 s2 st55 (by rw [i2 10 (by omega), o2 41 (by omega)]; exact R1.2.2.2.2.2.1) (by rw [o2 54 (by omega)]; exact R1.2.2.2.2.2.2.2.2), FRQ_st Q1 s2 st55, RCc_tr f0 hp rc1 (RCc_st g2 s2), RCr_tr rr1 (RCr_se st55), by rw [i2 8 (by omega), b5 8 (by omega)], by rw [i2 9 (by omega), b5 9 (by omega)], by rw [e2, hI_sI, if_pos ⟨rfl, rfl⟩], by rw [o2 42 (by omega)]; exact G1.2.2.2, L, ntx t tx i 4, S, C2, lk2, hL2, sR, eC, by rw [e2, hI_sI, if_neg (by omega), hI_sI, if_pos ⟨rfl, rfl⟩, ll], by rw [hI_sI, if_pos ⟨rfl, rfl⟩]⟩⟩
        rw [if_neg (by decide)]
        refine lp_d ?_
        have u1 : g254 fu 255 [gn tx i, ((0 : Nat) : Int), il] t1 = some (3, t1) := by
          obtain ⟨f1, rfl⟩ : ∃ f1, fu = f1 + 1 := ⟨fu - 1, by omega⟩
          rw [g254_5]
          unfold c255
          refine bnd (show c256 (gn tx i) 0 t1 = some (ntx t tx i 0) by rw [← en1]; exact c256_e (f := 0) ht hi (by omega)) ?_
          rw [z4, if_neg (by omega), if_neg (by omega), if_neg (by omega), if_neg (by omega), if_neg (by omega), if_neg (by omega), if_neg (by omega), if_pos rfl, if_neg (by omega)]
        refine body _ _ u1 ?_
        rw [if_pos rfl]
        refine bnd (c257_f (s := 4) (f := ntx t tx i 4) ht hi (by omega) (by rw [en1]) (LK_f lk2 hL2)) ?_
        rfl
    · -- the fuel is spent
      have s1 : seR t (sI t 395 42 1) := fp_sI (.inl ⟨rfl, by omega⟩)
      have o1 : ∀ j, j ≠ 42 → hI (sI t 395 42 1) 395 j = hI t 395 j := fun j hj => by rw [hI_sI, if_neg (by omega)]
      refine ⟨2, sI t 395 42 1, h1, 1, ?_, b1, by rw [o1 41 (by omega)]; exact Int.le_refl _, by rw [o1 41 (by omega)]; omega, .inl (.inr (.inr ⟨rfl, BR_st R g2 Q.1 b2 s1 (by rw [b4 10 (by omega), o1 41 (by omega)]; exact R.2.2.2.2.2.1) (by rw [o1 54 (by omega)]; exact R.2.2.2.2.2.2.2.2), RCc_st g2 b2, RCr_se s1, b4 8 (by omega), .inr ⟨b3, b4 9 (by omega), by rw [hI_sI, if_pos ⟨rfl, rfl⟩]⟩⟩))⟩
      rw [if_neg (by decide)]
      refine lp_d ?_
      show c254_b3 (g254 fu) (d : Int) il (gn tx i) t = _
      unfold c254_b3
      rw [if_neg gn0, if_pos b0]
      rfl
end BLD
