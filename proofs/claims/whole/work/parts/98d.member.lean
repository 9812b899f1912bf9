/-! a member of a pond's kind is read by both -/
/-- no table of the pond's kinds is written yet -/
def TZ (h : hS) (p mk : Nat) : Prop := ∀ j : Int, 0 ≤ j → j < mk → ∀ n : Nat, n < 40 → hI h (kd h p j + 8) n = 0 ∧ hR h (kd h p j + 9) n = 0 ∧ hR h (kd h p j + 11) n = 0
theorem TZ_c {h h' : hS} {p mk : Nat} (T : TZ h p mk) (hk : ∀ u : Int, 0 ≤ u → u < mk → kd h' p u = kd h p u) (e : ∀ u : Int, 0 ≤ u → u < mk → ∀ o, 8 ≤ o → o ≤ 12 → sm h h' (kd h p u + o)) : TZ h' p mk := fun j j0 j1 n hn => by
  rw [hk j j0 j1, (e j j0 j1 8 (by omega) (by omega)).1, (e j j0 j1 9 (by omega) (by omega)).2.1, (e j j0 j1 11 (by omega) (by omega)).2.1]
  exact T j j0 j1 n hn
/-- a pond half read: both stand at token l, the pond p is built beside world 1 -/
def MP (n : Nat) (b : Nat → Int) (N0 M0 l : Nat) (K : Nat → Int → Prop) (p mk : Nat) (r : Int → Nat) (hc hr : hS) : Prop := ∃ q m sl : Nat, BX sl n b l q m 0 hc hr ∧ m ≤ l ∧ BW hc hr K p mk r ∧ KT hc hr K N0 m ∧ (N0 ≤ p ∧ 448 ≤ N0 ∧ N0 ≤ hN hc) ∧ (hT hc 17 = 1 ∧ hL hc 17 = 4000) ∧ (2 * hN hc ≤ 2 * N0 + l + 28 * mk + 20 ∧ hM hc ≤ M0 + 8 * l + 300 * mk + 100) ∧ CG hr mk ∧ TZ hc p mk
section MBE
variable {n l mk N0 M0 p sl : Nat} {b : Nat → Int} {hc hr : hS} {K : Nat → Int → Prop} {r : Int → Nat} {j : Int}
theorem FC_wg {m : Nat} {h h' : hS} (f : FR m h h') (w k g : Int) : wg h' w k g = wg h w k g := f.2.2.1 400 _ (by omega)
theorem FC_wm {m : Nat} {h h' : hS} (f : FR m h h') (w : Int) : wm h' w = wm h w := f.2.2.1 400 _ (by omega)
theorem BW_F {q m : Nat} {hc' hr' : hS} (B : BW hc hr K p mk r) (f : FC q hc hc') (g : FR m hr hr') (hp : 18 ≤ p) : BW hc' hr' K p mk r := by
  obtain ⟨fn, -⟩ := FC_nm f
  refine BW_c B (fun x hx _ => FC_x f x (by omega)) (by omega) (FC_wg g 1) (FC_wm g 1) (fun _ _ h => h) (fun x v hx => ?_)
  rw [fn]
  exact B.2.2.2.1 x v hx
theorem KT_F {q m m' : Nat} {hc' hr' : hS} (T : KT hc hr K N0 m) (f : FC q hc hc') (g : FR m hr hr') (h18 : 18 ≤ N0) (hm : m ≤ m') : KT hc' hr' K N0 m' := by
  obtain ⟨fn, -⟩ := FC_nm f
  exact KT_c T (fun x v hx => FC_x f x (by have := (T x v hx).1; omega)) (by omega) (fun t ht j hj => nd_FR g ht hj) hm
/-- a value: field, link, static -/
theorem MB_val {s v kn : Int} {q m l0 : Nat} (B : BX sl n b l q m 0 hc hr) (hm : m ≤ l) (W : BW hc hr K p mk r) (T : KT hc hr K N0 m) (hN0 : N0 ≤ p ∧ 448 ≤ N0 ∧ N0 ≤ hN hc) (t17 : hT hc 17 = 1 ∧ hL hc 17 = 4000) (rm : 2 * hN hc ≤ 2 * N0 + l0 + 28 * mk + 20 ∧ hM hc ≤ M0 + 8 * l0 + 300 * mk + 100) (hl0 : l0 + 2 ≤ l) (Cf : CG hr mk) (Tz : TZ hc p mk) (Wn : WF hr 1 mk (fun u : Int => u.toNat)) (jm : j + 1 = mk) (j0 : 0 ≤ j) (j1 : j < mk) (hs : s = 202 ∨ s = 203 ∨ s = 204) (v0 : 0 ≤ v ∧ v < 40) (hw : nwF hr 1 j s v = 0) (pl : Int) :
    JK N0 M0 hc hr (fun hc' hr' => ∃ l' K', l ≤ l' ∧ MP n b N0 M0 l' K' p mk r hc' hr' ∧ ∀ u, kd hc' p u = kd hc p u) (c59_j88 0 kn (kd hc p j) s pl v hc) (c204_j180 j (s - 100) v hr) := by
  have Q := W.1.2.2.1 j j0 j1
  have hmk := W.1.1.2.1
  obtain ⟨w1, w2, w3, w4, w5⟩ := W.1.1.2.2 j j0 j1
  have h448 := Q.1.1
  have kn24 := Q.1.2.2.1
  have hl1000 := BX_l B
  unfold c59_j88
  rw [if_pos rfl, c204_v (show s - 100 ≠ 105 by omega)]
  simp only [bsome]
  rw [if_neg (show ¬ s = 205 by omega)]
  rcases VAL hs B with ⟨k, hc1, hr1, val, e1, e2, e3, e4, B1, hk, f1, g1⟩ | ⟨hc1, hr1, e1, e2, f1, g1, L1⟩
  · rw [e1, e2]
    simp only [bsome]
    rw [if_neg (show ¬ (1 : Int) = 0 by omega)]
    have W1 := BW_F W f1 g1 (by omega)
    have T1 := KT_F T f1 g1 (by omega) (Nat.le_refl m)
    obtain ⟨f1n, f1m⟩ := FC_nm f1
    have hkd1 : ∀ u, kd hc1 p u = kd hc p u := fun u => by
      unfold kd
      split
      · rfl
      · exact (FC_x f1 (p + 1) (by omega)).2.1 _
    have hw1 : nwF hr1 1 j s v = 0 := by
      rw [← hw]
      unfold nwF hAt hOw
      have eA : aIx hr1 1 j v = aIx hr 1 j v := aIx_cg (fun k f => by exact FC_wg g1 1 k f) j v
      have eW : ∀ k f, wg hr1 1 k f = wg hr 1 k f := fun k f => FC_wg g1 1 k f
      have eP : (fun u => decide (¬ (fIx hr1 1 u v = -1 ∧ sIx hr1 1 u v = -1))) = (fun u => decide (¬ (fIx hr 1 u v = -1 ∧ sIx hr 1 u v = -1))) := funext fun u => by rw [fIx_cg eW, sIx_cg eW]
      have eU : (fun u => wg hr1 1 u 1) = (fun u => wg hr 1 u 1) := funext fun u => eW u 1
      rw [eA, eP, eU, eW, eW, eW]
    have eW1 : ∀ k f, wg hr1 1 k f = wg hr 1 k f := fun k f => FC_wg g1 1 k f
    have Cf1 : CG hr1 mk := CG_cg Cf eW1
    have Wn1 : WF hr1 1 mk (fun u : Int => u.toNat) := WF_cg Wn eW1 (FC_wm g1 1)
    have key : ∃ hr2, (c204_j271 j (s - 100) v hr1 = c204_j332 (if s = 204 then 31 else 30) v hr2) ∧ fw hr1 hr2 ∧ CG hr2 mk ∧ ∀ h5 x, BW h5 hr1 K p mk r → SPc h5 x s (hI h5 x 1) kn v val 0 → (∀ h5', BW h5' hr2 K p mk r → kf (kd h5 p j) h5 h5' → True) → ∃ h6, c75 (kd h5 p j) x h5 = some (0, h6) ∧ BW h6 hr2 K p mk r ∧ kf (kd h5 p j) h5 h6 := by
      have hw1' := hw1
      unfold nwF at hw1'
      rw [if_neg (show ¬ s = 205 by omega)] at hw1'
      have hA : hAt hr1 1 j v = -1 := by
        by_cases z : hAt hr1 1 j v = -1
        · exact z
        · rw [if_neg z] at hw1'; omega
      rw [if_pos hA] at hw1'
      have hO : hOw hr1 1 j v = false := by
        have := hAt_st (n := v) W1.1.1 j0 j1
        rw [hA] at this
        by_cases z : hOw hr1 1 j v = true
        · rw [if_pos z] at this; omega
        · simpa using z
      obtain ⟨-, -, y3, y4, -⟩ := W1.1.1.2.2 j j0 j1
      by_cases c4 : s = 204
      · rw [if_pos c4] at hw1'
        have h4 : wg hr1 1 j 30 ≠ 4 := fun z => by rw [if_pos z] at hw1'; omega
        obtain ⟨hr2, z1, z2, z3⟩ := c222_x (hr := hr1) (nm := v) (v := val) (F := (wg hr1 1 j 30).toNat) j0 (by omega) (by omega) (by omega)
        refine ⟨hr2, ?_, z2, CG_s (F := (wg hr1 1 j 30).toNat) Cf1 Wn1 j0 jm (by omega) (by omega) (fun u g u0 u1 g0 g1 => z3 u g u0 u1 g0 (by omega)) hA, fun h5 x W5 S5 _ => ?_⟩
        · unfold c204_j271 c204_j294 c204_j317
          rw [if_neg (show ¬ j = -1 by omega), if_pos (show s - 100 = 104 by omega), e4, z1]
          simp only [bsome]
          rw [if_neg (show ¬ j = -1 by omega), if_pos (show s - 100 = 104 by omega), if_pos (show s - 100 = 104 by omega), if_pos c4]
        · obtain ⟨s1, s2, -, -, s5, s6, -⟩ := S5
          obtain ⟨h6, hr2', o1, o2, o3, o4, -⟩ := opS W5 j0 j1 s1 s5 s6 v0 hO h4
          have : hr2' = hr2 := by rw [z1] at o2; exact (Option.some.inj o2).symm
          subst this
          refine ⟨h6, ?_, o3, o4⟩
          unfold c75
          rw [gI_s s1, s2]
          simp only [bsome]
          rw [if_neg (show ¬ (202 : Int) = s by omega), if_neg (show ¬ (203 : Int) = s by omega), if_pos (show (204 : Int) = s by omega), kT_s (W5.1.2.2.1 j j0 j1).1.2.2.1]
          simp only [bsome]
          rw [o1]
          rfl
      · rw [if_neg c4] at hw1'
        have h8 : wg hr1 1 j 5 ≠ 8 := fun z => by rw [if_pos z] at hw1'; omega
        obtain ⟨hr2, z1, z2, z3⟩ := c223_x (hr := hr1) (nm := v) (v := val) (F := (wg hr1 1 j 5).toNat) j0 (by omega) (by omega) (by omega)
        refine ⟨hr2, ?_, z2, CG_f (F := (wg hr1 1 j 5).toNat) Cf1 Wn1 j0 jm (by omega) (by omega) (fun u g u0 u1 g0 g1 => z3 u g u0 u1 g0 (by omega)) hA, fun h5 x W5 S5 _ => ?_⟩
        · unfold c204_j271 c204_j294 c204_j317
          rw [if_neg (show ¬ j = -1 by omega), if_neg (show ¬ s - 100 = 104 by omega), if_neg (show ¬ j = -1 by omega), if_neg (show ¬ s - 100 = 104 by omega), e4, z1]
          simp only [bsome]
          rw [if_neg (show ¬ s - 100 = 104 by omega), if_neg c4]
        · obtain ⟨s1, s2, -, -, s5, s6, -⟩ := S5
          obtain ⟨h6, hr2', o1, o2, o3, o4, -⟩ := opF W5 j0 j1 s1 s5 s6 v0 hO h8
          have : hr2' = hr2 := by rw [z1] at o2; exact (Option.some.inj o2).symm
          subst this
          refine ⟨h6, ?_, o3, o4⟩
          have t24 := (W5.1.2.2.1 j j0 j1).1.2.2.1
          unfold c75 c75_j64
          rw [gI_s s1, s2]
          simp only [bsome]
          by_cases c2 : s = 202
          · rw [if_pos (show (202 : Int) = s by omega), kT_s t24]
            simp only [bsome]
            rw [o1]
            rfl
          · rw [if_neg (show ¬ (202 : Int) = s by omega), if_pos (show (203 : Int) = s by omega), kT_s t24]
            simp only [bsome]
            rw [o1]
            rfl
    obtain ⟨hr2, x1, x2, xC, x3⟩ := key
    have B2 := BS_f B1 x2
    obtain ⟨hr3, n1, B3, g3, -, -, -⟩ := BS_nt (s := if s = 204 then 31 else 30) (x := v) (y := val) (z := 0) (t := 22) (.inr rfl) B2 (by omega)
    have e24 : hI hr2 395 24 = val := by rw [x2.2 395 24 (by omega)]; exact e4
    rw [x1]
    unfold c204_j332
    rw [e24, n1]
    simp only [bsome]
    have gW : FW hr (sI hr3 395 22 (m : Int)) := FW_tr (FW_FR g1) (FW_tr (FW_fw x2) (FW_FR g3))
    obtain ⟨hc4, hr4, fc4, fr4, ⟨p1, p2, B4, p3, p4⟩ | ⟨p1, p2, p3⟩⟩ := BS_ps B3 (c := 59) rfl
    · rw [p1, p2]
      have kb : kB (1 : Int) = some () := rfl
      simp only [bsome, kb]
      rw [if_neg (show ¬ (1 : Int) = 0 by omega)]
      unfold c59_j129 c59_j174
      rw [if_neg (show ¬ s = 205 by omega)]
      have W4 : BW hc4 hr1 K p mk r := BW_F W1 fc4 (FR_rf (m := 0)) (by omega)
      obtain ⟨f4n, f4m⟩ := FC_nm fc4
      have hN4 : 18 ≤ hN hc4 := by omega
      have hkd4 : ∀ u, kd hc4 p u = kd hc p u := fun u => by
        rw [← hkd1 u]
        unfold kd
        split
        · rfl
        · exact (FC_x fc4 (p + 1) (by omega)).2.1 _
      obtain ⟨h5, y1, ⟨y2, y3⟩, y4, y5⟩ := c48_e (hc := hc4) (s := s) (c := hI (mkH hc4 22 6) 15 9) (k := kn) (nm := v) (o := hI (mkH hc4 22 6) 15 10) (cd := 0) (by omega)
      have e10 : hI (mkH hc4 22 6) 15 10 = val := by
        rw [hI_mk, if_neg (by omega), p3, hI_sI, if_neg (by omega)]
        exact e3
      rw [e10] at y1 y5
      have W5 : BW h5 hr1 K p mk r := by
        refine BW_c W4 (fun x _ hx => y4.2 x hx) y4.1.1 (fun _ _ => rfl) rfl (fun _ _ h => h) (fun x v hx => ?_)
        obtain ⟨z1, z2, z3⟩ := W4.2.2.2.1 x v hx
        exact ⟨by omega, z2, z3⟩
      have hkd5 : ∀ u, kd h5 p u = kd hc p u := fun u => by
        rw [← hkd4 u]
        unfold kd
        split
        · rfl
        · exact (y4.2 (p + 1) (by have := W4.1.2.1.2.1; omega)).2.1 _
      obtain ⟨h6, u1, u2, u3⟩ := x3 h5 (hN hc4) W5 (by obtain ⟨a1, a2, a3, a4, a5, a6, a7⟩ := y5; exact ⟨a1, a2, rfl, a4, a5, a6, a7⟩) (fun _ _ _ => trivial)
      rw [hkd5] at u1 u3
      have t24 : hT h5 (kd hc p j) = 24 := by
        have := (W5.1.2.2.1 j j0 j1).1.2.2.1
        rw [hkd5] at this
        exact this
      simp only [bsome]
      rw [k8_s (by omega), e10, y1]
      simp only [bsome]
      rw [hnul_8 (by omega)]
      simp only [bsome]
      rw [if_neg (by decide), kT_s t24]
      simp only [bsome]
      rw [u1]
      have kfN : ∀ x, x < N0 → sm h5 h6 x := fun x hx => u3.2.2.2.2 x (by
        have := W.2.1 j j0 j1
        omega)
      have fz : FZ N0 hc4 h6 := ⟨⟨by rw [u3.1]; omega, by rw [u3.2.1]; omega⟩, fun x hx => sm_tr (y4.2 x (by omega)) (kfN x hx)⟩
      have B6 : BX sl n b (k + 1) q (m + 1) 0 h6 hr4 := BS_z B4 fz (by omega)
      have W6 : BW h6 hr4 K p mk r := by
        refine BW_c u2 (fun x _ _ => sm_rf) (Nat.le_refl _) (fun k f => ?_) ?_ (fun _ _ h => h) (fun x v hx => u2.2.2.2.1 x v hx)
        · rw [FC_wg fr4 1, FC_wg g3 1]
        · rw [FC_wm fr4, FC_wm g3]
      have hkd6 : ∀ u, kd h6 p u = kd hc p u := fun u => by
        rw [← hkd5 u]
        unfold kd
        split
        · rfl
        · exact (u3.2.2.2.2 (p + 1) (by have := W.2.1 j j0 j1; omega)).2.1 _
      have T6 : KT h6 hr4 K N0 (m + 1) := by
        refine KT_c T1 (fun x v' hx => ?_) (by rw [u3.1]; omega) (fun t ht i hi => ?_) (Nat.le_succ m)
        · have hx1 := (T1 x v' hx)
          have hxW := (W1.2.2.2.1 x v' hx).2.2 j j0 j1
          rw [hkd1] at hxW
          refine sm_tr (FC_x fc4 x (by omega)) (sm_tr (y4.2 x (by omega)) (u3.2.2.2.2 x (by omega)))
        · rw [nd_FR fr4 (by omega) hi, nd_FR g3 ht hi]
          show hI hr2 399 _ = _
          exact x2.2 399 _ (by omega)
      have cc4 := fz.2 17 (by omega)
      refine JK_ok (FK_tr (FK_FC f1) (FK_tr (FK_FC fc4) (FK_FZ fz))) (FW_tr gW (FW_FR fr4)) ⟨k + 1, K, by omega, ⟨q, m + 1, sl, B6, by omega, W6, T6, ⟨hN0.1, hN0.2.1, by rw [u3.1]; omega⟩, ⟨?_, ?_⟩, ⟨by rw [u3.1]; omega, by rw [u3.2.1]; omega⟩, CG_cg xC (fun k f => by rw [FC_wg fr4 1, FC_wg g3 1]), TZ_c Tz (fun u _ _ => hkd6 u) (fun u z0 z1 o o8 o12 => ?_)⟩, hkd6⟩
      · rw [cc4.2.2.1, p3]
        show hT hc1 17 = 1
        have := f1.1.1
        show hc1.2.2.2.1 17 = 1
        rw [this]
        exact t17.1
      · rw [cc4.2.2.2, p3]
        show hc1.2.2.2.2.1 17 = 4000
        have := f1.1.1
        rw [this]
        exact t17.2
      · have hku := (W.1.2.2.1 u z0 z1).1.2.1
        have hbu := W.2.1 u z0 z1
        refine sm_tr (FC_x f1 _ (by omega)) (sm_tr (FC_x fc4 _ (by omega)) (sm_tr (y4.2 _ (by omega)) (u3.2.2.2.2 _ ?_)))
        by_cases c : u = j
        · rw [c]; omega
        · by_cases c2 : u < j
          · have := W.2.2.1 u j z0 c2 j1
            omega
          · have := W.2.2.1 j u j0 (by omega) z1
            omega
    · rw [p1, p2]
      have kb : kB (0 : Int) = some () := rfl
      simp only [bsome, kb]
      exact JK_no (FK_tr (FK_FC f1) (FK_FC fc4)) (FW_tr gW (FW_FR fr4)) (FLR_FC (FC_tr f1 fc4) p3 ⟨by omega, by omega⟩)
  · rw [e1, e2]
    simp only [bsome]
    exact JK_no (FK_FC f1) (FW_FR g1) (FLR_FC f1 L1 ⟨by omega, by omega⟩)
end MBE
