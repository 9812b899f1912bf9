/-! the other side reckons an expression: its nodes, its chain -/
def gn (tx i : Nat) : Int := ((1200 * tx + i : Nat) : Int)
/-- its number, its chain from nc on, its failure: these alone are other -/
def fe (nc : Nat) (h h' : hS) : Prop := fp (fun x j => (x = 395 ∧ (j = 39 ∨ j = 52 ∨ j = 54)) ∨ (x = 417 ∧ nc ≤ j)) h h'
/-- what both need to work out an expression of the creature c -/
def XCt (h t : hS) (K : Nat → Int → Prop) (p m q : Nat) (r : Int → Nat) (F x c d : Nat) : Prop := RT h t K p m q r ∧ FCT h F x ∧ (c < 40 ∧ hR h F 0 = 215 + 4 * c ∧ hI h (215 + 4 * c) 1 = 1) ∧ d < 21 ∧ hI t 408 d = (c : Int) ∧ hI h F 6 = hI t 409 d ∧ hI h F 5 = hI t 410 d
/-- what working out an expression rests on, for the creature that stands at a -/
def XCg (h t : hS) (F x a c d : Nat) : Prop := FCT h F x ∧ (c < 40 ∧ hR h F 0 = a) ∧ d < 21 ∧ hI t 408 d = (c : Int) ∧ hI h F 6 = hI t 409 d ∧ hI h F 5 = hI t 410 d ∧ ∀ h' t', chg (fun x => (20 ≤ x ∧ x ≤ 47) ∨ (375 ≤ x ∧ x < 395)) h h' → (∀ y j, y ≠ 395 → y ≠ 417 → hI t' y j = hI t y j) → NVq h' t' a c
section NDS
variable {tx i f nc nc' F x c d p m q n a0 : Nat} {h h' t t' t1 : hS} {K : Nat → Int → Prop} {r : Int → Nat}
theorem fe_rf : fe nc h h := fp_rf
theorem fe_tr (a : fe nc t t1) (b : fe nc t1 t') : fe nc t t' := fp_tr a b
theorem fe_mn (a : fe nc' t t') (e : nc ≤ nc') : fe nc t t' := ⟨a.1, fun x j q => a.2 x j (by omega)⟩
theorem fe_sI {z : Int} {j : Nat} (hj : j = 39 ∨ j = 52 ∨ j = 54) : fe nc t (sI t 395 j z) := fp_sI (.inl ⟨rfl, hj⟩)
theorem ntx_fe (a : fe nc t t') (tx i j : Nat) : ntx t' tx i j = ntx t tx i j := a.2 399 _ (by omega)
theorem c256_e (ht : tx ≤ 6) (hi : i < 1200) (hf : f < 5) : c256 (gn tx i) (f : Int) t = some (ntx t tx i f) := by
  unfold c256 gn ntx
  rw [wmul_e (by omega) (by omega), wadd_e (by omega) (by omega), aIs_s (by omega) (by omega)]
  rw [show (5 * ((1200 * tx + i : Nat) : Int) + (f : Int)).toNat = 5 * (1200 * tx + i) + f by omega]
  rfl
theorem c257_e (ht : tx ≤ 6) (hi : i < 1200) (hf : f < 5) {a : Nat} (ha : ntx t tx i f = (a : Int)) (h12 : a < 1200) : c257 (gn tx i) (f : Int) t = some (gn tx a) := by
  unfold c257
  rw [c256_e ht hi hf, ha]
  simp only [bsome]
  rw [if_neg (show ¬ ((a : Int) = -1) by omega)]
  unfold gn
  rw [wdiv_e (by omega) (by omega) (by omega) (by omega), show ((1200 * tx + i : Nat) : Int) / 1200 = (tx : Int) by omega, wmul_e (by omega) (by omega), wadd_e (by omega) (by omega)]
  congr 1
  omega
theorem c257_m (ht : tx ≤ 6) (hi : i < 1200) (hf : f < 5) (ha : ntx t tx i f = -1) : c257 (gn tx i) (f : Int) t = some (-1) := by
  unfold c257
  rw [c256_e ht hi hf, ha]
  simp only [bsome]
  rw [if_pos trivial]
theorem ce_chg (C : FCT h F x) (a : ceF F h h') : chg (fun x => (20 ≤ x ∧ x ≤ 47) ∨ (375 ≤ x ∧ x < 395)) h h' := chg_fp a (fun y j hy => by have := C.2.2.2.2.2; omega)
theorem XC_c (X : XCt h t K p m q r F x c d) (a : ceF F h h') (b : fe nc t t') : XCt h' t' K p m q r F x c d := by
  obtain ⟨R, C, ⟨c1, c2, c3⟩, d1, d2, d3, d4⟩ := X
  have hF := C.2.2.2.2.2
  have eR : ∀ x j, hR h' x j = hR h x j := fun x j => by show h'.2.1 x j = h.2.1 x j; rw [a.1]
  refine ⟨RT_c R (ce_chg C a) (fun y j hy => b.2 y j (by omega)), FCT_ce C a, ⟨c1, by rw [eR]; exact c2, by rw [a.2 (215 + 4 * c) 1 (by omega)]; exact c3⟩, d1, by rw [b.2 408 d (by omega)]; exact d2, ?_, ?_⟩
  · rw [a.2 F 6 (by omega), b.2 409 d (by omega)]; exact d3
  · rw [a.2 F 5 (by omega), b.2 410 d (by omega)]; exact d4
theorem XG_c (X : XCg h t F x a0 c d) (a : ceF F h h') (b : fe nc t t') : XCg h' t' F x a0 c d := by
  obtain ⟨C, ⟨c1, c2⟩, d1, d2, d3, d4, NV⟩ := X
  have hF := C.2.2.2.2.2
  have eR : ∀ x j, hR h' x j = hR h x j := fun x j => by show h'.2.1 x j = h.2.1 x j; rw [a.1]
  refine ⟨FCT_ce C a, ⟨c1, by rw [eR]; exact c2⟩, d1, by rw [b.2 408 d (by omega)]; exact d2, ?_, ?_, fun h2 t2 q1 q2 => NV h2 t2 (chg_tr (ce_chg C a) q1) (fun y j h1 h2 => by rw [q2 y j h1 h2, b.2 y j (by omega)])⟩
  · rw [a.2 F 6 (by omega), b.2 409 d (by omega)]; exact d3
  · rw [a.2 F 5 (by omega), b.2 410 d (by omega)]; exact d4
theorem XC_G (X : XCt h t K p m q r F x c d) : XCg h t F x (215 + 4 * c) c d := by
  obtain ⟨R, C, ⟨c1, c2, c3⟩, d1, d2, d3, d4⟩ := X
  refine ⟨C, ⟨c1, c2⟩, d1, d2, d3, d4, fun h' t' q1 q2 => ?_⟩
  obtain ⟨S, P, T, CC, hp, -⟩ := R
  have W : ∀ k f, wg t' 0 k f = wg t 0 k f := fun k f => q2 400 _ (by omega) (by omega)
  have en : hN h ≤ hN h' := by rw [q1.2.2.2.1]; exact Nat.le_refl _
  have sp : same (pnd h p) h h' := fun y hy => ⟨fun j => q1.2.2.2.2.2 y (by obtain ⟨hy, -⟩ := hy; omega) j, by rw [q1.2.1], by rw [q1.2.2.1]⟩
  have P' : PW h' t' K p 0 m r := PW_cg P sp en W (q2 400 _ (by omega) (by omega)) (fun _ _ z => z)
  have T' : TB h' t' p 0 m := TB_cg P T sp W
  obtain ⟨s1, s2, s3, s4, s5, s6, s7⟩ := (S.1 c c1).2
  have S' : SHc h' (215 + 4 * c) c := ⟨by rw [q1.2.1]; exact s1, by rw [(q1.2.2.2.2.2 _ (by omega) 3).2]; exact s2, by rw [(q1.2.2.2.2.2 _ (by omega) 4).2]; exact s3, by rw [(q1.2.2.2.2.2 _ (by omega) 5).2]; exact s4, by rw [q1.2.1]; exact s5, by rw [q1.2.2.1]; exact s6, by rw [(q1.2.2.2.2.2 _ (by omega) 0).1]; exact s7⟩
  refine NVg S' P' T' c1 ?_
  obtain ⟨⟨k0, k1, k2⟩, hv⟩ := (CC.2.2.2 c c1).2.2.2 c3
  have e4 : hI t' 404 c = hI t 404 c := q2 404 c (by omega) (by omega)
  refine ⟨⟨by rw [e4]; exact k0, by rw [e4]; exact k1, by rw [(q1.2.2.2.2.2 _ (by omega) 2).2, e4, kd_cg P sp]; exact k2⟩, fun n hn => ?_⟩
  obtain ⟨y1, y2, y3, y4⟩ := hv n hn
  rw [e4, fAt_cg W, (q1.2.2.2.2.2 _ (by omega) n).1, (q1.2.2.2.2.2 _ (by omega) n).1, (q1.2.2.2.2.2 _ (by omega) n).1, q2 405 _ (by omega) (by omega), q2 406 _ (by omega) (by omega), q2 407 _ (by omega) (by omega)]
  exact ⟨y1, y2, y3, y4⟩
/-- a name's value -/
theorem name_s (X : XCg h t F x a0 c d) {pl : Nat} {nm : Int} (n0 : 0 ≤ nm ∧ nm < 40) (hq : hI h F 4 = (pl : Int)) (hl : pl + 1 < hL h x) (c0 : hI h x pl = 1) (c1 : hI h x (pl + 1) = nm) (hn : hI h 22 5 = (n : Int)) (h64 : n < 64) (h7 : hI h 22 7 = -1) : (∃ v h', stepE F h = some h' ∧ okE F pl 2 n h h' v ∧ ∀ (β : Type) (L : Int → Option β) (Z : Option β), ((c260 (c : Int) nm t).bind (fun v16 => if v16 = -1 then Z else if v16 = 0 then (aIs t 405 1600 (wadd (wmul 40 (c : Int)) nm)).bind L else if v16 = 2 then (aIs t 406 1600 (wadd (wmul 40 (c : Int)) nm)).bind L else (aIs t 404 40 (c : Int)).bind (fun v20 => (c248 0 v20 nm t).bind (fun v21 => (aIs t 404 40 (c : Int)).bind (fun v22 => (c248 0 v22 nm t).bind (fun v23 => (c208 0 v23 nm t).bind (fun v24 => (c199 0 v21 (wadd 35 v24) t).bind L))))))) = L v) ∨ (∃ h', stepE F h = some h' ∧ noE F h h' 1001 ∧ c260 (c : Int) nm t = some (-1)) := by
  obtain ⟨C, ⟨e1, e2⟩, -, -, -, -, NV⟩ := X
  have hF := C.2.2.2.2.2
  have hx := C.2.2.1
  obtain ⟨h2, d2⟩ : ∃ h2, h2 = sI (sI h F 4 ((pl + 1 : Nat) : Int)) F 4 ((pl + 1 + 1 : Nat) : Int) := ⟨_, rfl⟩
  have cf2 : ceF F h h2 := by rw [d2]; exact fp_tr (fp_sI (.inr (.inr ⟨rfl, rfl⟩))) (fp_sI (.inr (.inr ⟨rfl, rfl⟩)))
  have k1 : c119 F (sI h F 4 ((pl + 1 : Nat) : Int)) = some (nm, h2) := by
    rw [c119_e (h := sI h F 4 ((pl + 1 : Nat) : Int)) (FCT_4 C) (by rw [hI_sI, if_pos ⟨rfl, rfl⟩]) (by exact hl), hI_sI, if_neg (by omega), c1, d2]
  have st : ∀ h', c122 a0 nm h2 = some h' → stepE F h = some h' := fun h' e => by
    unfold stepE
    refine bnd (c119_e C hq (by omega)) ?_
    rw [c0]
    have e2' : c120 F 1 (sI h F 4 ((pl + 1 : Nat) : Int)) = some (1, h') := by
      unfold c120
      rw [if_pos rfl, gR_s (h := sI h F 4 ((pl + 1 : Nat) : Int)) (x := F) (t := 12) C.1, hR_sI, e2]
      refine bnd rfl ?_
      rw [kT_s (h := sI h F 4 ((pl + 1 : Nat) : Int)) (x := F) (t := 12) C.1]
      refine bnd rfl ?_
      refine bnd k1 ?_
      exact bnd e rfl
    refine bnd e2' ?_
    exact if_neg (show ¬ (1 : Int) = 0 by omega)
  rcases NV h2 t (ce_chg C cf2) (fun _ _ _ _ => rfl) nm n0 with ⟨v, w1, w2⟩ | ⟨w1, w2⟩
  · obtain ⟨p1, p2⟩ := push_ok (v := v) C (h2 := h2) (q := pl) (q2 := pl + 2) (L := 2) (.inr ⟨_, d2⟩) rfl hn h64 h7
    exact .inl ⟨v, _, st _ (w1.trans p1), p2, w2⟩
  · refine .inr ⟨_, st _ (w1.trans c123_e), ⟨⟨cf2.1, fun y j hy => ?_⟩, by rw [hI_sI, if_pos ⟨rfl, rfl⟩], by rw [hI_sI, if_neg (by omega), hI_sI, if_pos ⟨rfl, rfl⟩], by rw [hI_sI, if_neg (by omega), hI_sI, if_neg (by omega), d2, hI_sI, if_neg (by omega), hI_sI, if_neg (by omega), hn]; omega⟩, w2⟩
    rw [hI_sI, if_neg (by omega), hI_sI, if_neg (by omega)]
    exact cf2.2 y j hy
end NDS
