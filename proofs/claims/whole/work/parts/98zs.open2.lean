/-! an act is opened by both (2) -/
section OPP
variable {h h' t t' : hS} {K : Nat → Int → Prop} {p m q κ e n c F x a j k : Nat} {r : Int → Nat} {v : Int} {B N G : Nat → Int}
/-- level e is laid: the creature c, the act n, with v -/
def lvL (e : Nat) (t t' : hS) : Prop := fp (fun x j => (408 ≤ x ∧ x ≤ 413 ∧ j = e) ∨ (414 ≤ x ∧ x ≤ 416 ∧ 12 * e ≤ j ∧ j < 12 * e + 12)) t t'
theorem OPr (R : RT h t K p m q r) (he : e ≤ 20) (hn : n < 40) (c40 : c < 40) (lv : hI h (215 + 4 * c) 1 = 1) : ∃ (k : Nat) (t2 : hS), c252 (e : Int) (c : Int) (n : Int) v t = some (if aAt t 0 (hI t 404 c) n = -1 then 0 else 1, t2) ∧ lvL e t t2 ∧ (aAt t 0 (hI t 404 c) n ≠ -1 → (hI t2 408 e = (c : Int) ∧ hI t2 409 e = v ∧ hI t2 410 e = 0 ∧ hI t2 411 e = (k : Int) ∧ hI t2 412 e = 0 ∧ hI t2 413 e = (n : Int)) ∧ k ≤ 12 ∧ ACH h K n (fun i => hI t2 414 (12 * e + i)) (fun i => hI t2 415 (12 * e + i)) (fun i => hI t2 416 (12 * e + i)) k (kd h p (aAt t 0 (hI t 404 c) n)) 0) := by
  obtain ⟨S, P, T, C, hp, D⟩ := id R
  obtain ⟨u1, u2, u3, u4⟩ := C.2.2.2 c c40
  obtain ⟨⟨k0, k1, k2⟩, -⟩ := u4 lv
  obtain ⟨jj, hj⟩ : ∃ jj, hI t 404 c = jj := ⟨_, rfl⟩
  rw [hj] at k0 k1 ⊢
  obtain ⟨w1, -⟩ := P.1.2.2 jj k0 k1
  obtain ⟨k, t1, a1, a2, a3, -, a5, a6⟩ := c253_l (e := e) (n := n) R he hn 12 0 hF0 jj t (.inr ⟨⟨k0, k1⟩, w1⟩) (by omega) (hF0_lt (by omega)) fp_rf
  rw [Nat.zero_add] at a1
  obtain ⟨t2, ht2⟩ : ∃ t2, t2 = sI (sI (sI (sI (sI (sI t1 411 e (k : Int)) 412 e 0) 408 e (c : Int)) 409 e v) 410 e 0) 413 e (n : Int) := ⟨_, rfl⟩
  have i2 : ∀ y j, hI t2 y j = if y = 413 ∧ j = e then (n : Int) else if y = 410 ∧ j = e then 0 else if y = 409 ∧ j = e then v else if y = 408 ∧ j = e then (c : Int) else if y = 412 ∧ j = e then 0 else if y = 411 ∧ j = e then (k : Int) else hI t1 y j := fun y j => by rw [ht2, hI_sI, hI_sI, hI_sI, hI_sI, hI_sI, hI_sI]
  have e252 : c252 (e : Int) (c : Int) (n : Int) v t = some (if (k : Int) ≤ 0 then 0 else 1, t2) := by
    unfold c252
    refine bnd (show aIs t 404 40 (c : Int) = some jj by rw [aIs_s (by omega) (by omega), Int.toNat_natCast, hj]) ?_
    refine bnd (show c253 (e : Int) jj (n : Int) t = some ((k : Int), t1) by unfold c253; exact bnd a1 rfl) ?_
    have ws : ∀ (y : Nat) (z : Int) (T : hS), wIs T y 21 (e : Int) z = some (sI T y e z) := fun y z T => by rw [wIs_s (by omega) (by omega), Int.toNat_natCast]
    refine bnd (ws 411 _ _) ?_
    refine bnd (ws 412 _ _) ?_
    refine bnd (ws 408 _ _) ?_
    refine bnd (ws 409 _ _) ?_
    refine bnd (ws 410 _ _) ?_
    refine bnd (ws 413 _ _) ?_
    rw [← ht2]
    refine bnd (show aIs t2 411 21 (e : Int) = some (k : Int) by rw [aIs_s (by omega) (by omega), Int.toNat_natCast, i2, if_neg (by omega), if_neg (by omega), if_neg (by omega), if_neg (by omega), if_neg (by omega), if_pos ⟨rfl, rfl⟩]) ?_
    by_cases z : (k : Int) ≤ 0
    · rw [if_pos z, if_pos z]
    · rw [if_neg z, if_neg z]
  refine ⟨k, t2, ?_, ⟨by rw [ht2]; exact a3.1, fun y j hy => ?_⟩, fun ha => ⟨⟨?_, ?_, ?_, ?_, ?_, ?_⟩, a2, ?_⟩⟩
  · rw [e252]
    by_cases z : aAt t 0 jj n = -1
    · rw [if_pos z, if_pos (by have := a5 z; omega)]
    · rw [if_neg z, if_neg (by have := ACH_k (a6 z); omega)]
  · rw [i2, if_neg (by omega), if_neg (by omega), if_neg (by omega), if_neg (by omega), if_neg (by omega), if_neg (by omega)]
    exact a3.2 y j (by omega)
  · rw [i2, if_neg (by omega), if_neg (by omega), if_neg (by omega), if_pos ⟨rfl, rfl⟩]
  · rw [i2, if_neg (by omega), if_neg (by omega), if_pos ⟨rfl, rfl⟩]
  · rw [i2, if_neg (by omega), if_pos ⟨rfl, rfl⟩]
  · rw [i2, if_neg (by omega), if_neg (by omega), if_neg (by omega), if_neg (by omega), if_neg (by omega), if_pos ⟨rfl, rfl⟩]
  · rw [i2, if_neg (by omega), if_neg (by omega), if_neg (by omega), if_neg (by omega), if_pos ⟨rfl, rfl⟩]
  · rw [i2, if_pos ⟨rfl, rfl⟩]
  · have er : ∀ y i, 414 ≤ y → hI t2 y i = hI t1 y i := fun y i hy => by rw [i2, if_neg (by omega), if_neg (by omega), if_neg (by omega), if_neg (by omega), if_neg (by omega), if_neg (by omega)]
    exact ACH_c (a6 ha) (fun a Q => ⟨Q, fun _ _ _ => sm_rf⟩) (fun i _ _ => ⟨er 414 _ (by omega), er 415 _ (by omega), er 416 _ (by omega)⟩)
theorem KD_chg {S : Nat → Prop} (ch : chg S h h') (hS : ∀ x, S x → x < 448) (Q : KD h a) : KD h' a ∧ ∀ o, o ≤ 12 → o ≠ 5 → sm h h' (a + o) := by
  obtain ⟨c1, c2, c3, c4, c5, c6⟩ := ch
  have s : ∀ o, sm h h' (a + o) := fun o => ⟨fun j => (c6 _ (fun z => by have := hS _ z; have := Q.1; omega) j).1, fun j => (c6 _ (fun z => by have := hS _ z; have := Q.1; omega) j).2, by rw [c2], by rw [c3]⟩
  refine ⟨⟨Q.1, by rw [c4]; exact Q.2.1, by rw [c2]; exact Q.2.2.1, fun e he => ?_⟩, fun o _ _ => s o⟩
  have := Q.2.2.2 e he
  have s0 := (s 0).2.1 e.1
  rw [Nat.add_zero] at s0
  rw [s0, c2, c3]
  exact this
theorem ACH_1 (A : ACH h K n B N G k a j) : KD h a ∧ hI h a 0 = N j ∧ hI h a 2 = G j := by
  match k, A with
  | 0, A => exact False.elim A
  | k + 1, ⟨⟨q1, _, _⟩, _, q5, q6, _⟩ => exact ⟨q1, q5, q6⟩
/-- the class's frame is laid -/
theorem OPc (C : CT h t K κ) (A : ACH h K n B N G k a j) (hn : n < 40) (hT12 : hT h F = 12) (hF : F = 24 ∨ (27 ≤ F ∧ F ≤ 47) ∨ (375 ≤ F ∧ F < 395)) (c40 : c < 40) : ∃ h', c116 F (215 + 4 * c) a (n : Int) v h = some h' ∧ chg (fun x => x = F) h h' ∧ (hR h' F 0 = 215 + 4 * c ∧ hR h' F 1 = a ∧ hI h' F 2 = (n : Int) ∧ hR h' F 3 = cdo h a n ∧ hI h' F 4 = 0 ∧ hI h' F 5 = 0 ∧ hI h' F 6 = v) ∧ K (cdo h a n) (B j) := by
  match k, A with
  | 0, A => exact False.elim A
  | k + 1, ⟨⟨q1, q2, q3⟩, q4, _⟩ =>
    obtain ⟨h3, e3⟩ : ∃ h3, h3 = sI (sR (sR h F 0 (215 + 4 * c)) F 1 a) F 2 (n : Int) := ⟨_, rfl⟩
    have t3 : ∀ y, hT h3 y = hT h y := fun y => by rw [e3]; rfl
    have l3 : ∀ y, hL h3 y = hL h y := fun y => by rw [e3]; rfl
    have r3 : ∀ y i, hR h3 y i = if y = F ∧ i = 1 then a else if y = F ∧ i = 0 then 215 + 4 * c else hR h y i := fun y i => by rw [e3, hR_sI, hR_sR, hR_sR]
    have i3 : ∀ y i, hI h3 y i = if y = F ∧ i = 2 then (n : Int) else hI h y i := fun y i => by rw [e3, hI_sI, hI_sR, hI_sR]
    have ha := q1.1
    refine ⟨sI (sI (sI (sR h3 F 3 (cdo h a n)) F 4 0) F 5 0) F 6 v, ?_, ⟨by rw [e3]; rfl, by rw [e3]; rfl, by rw [e3]; rfl, by rw [e3]; rfl, by rw [e3]; rfl, fun y hy i => ⟨?_, ?_⟩⟩, ⟨?_, ?_, ?_, ?_, ?_, ?_, ?_⟩, q4⟩
    · unfold c116
      rw [pR_s hT12]
      refine bnd rfl ?_
      rw [pR_s (h := sR h F 0 (215 + 4 * c)) (x := F) (t := 12) hT12]
      refine bnd rfl ?_
      rw [pI_s (h := sR (sR h F 0 (215 + 4 * c)) F 1 a) (x := F) (t := 12) hT12, ← e3]
      refine bnd rfl ?_
      rw [gR_s (h := h3) (x := a) (t := 24) (by rw [t3]; exact q1.2.2.1), r3, if_neg (by omega), if_neg (by omega), (KD13 q1).1]
      refine bnd rfl ?_
      rw [gR_s (h := h3) (x := a) (t := 24) (by rw [t3]; exact q1.2.2.1), r3, if_neg (by omega), if_neg (by omega), (KD18 q1).1]
      refine bnd rfl ?_
      rw [aI_s (h := h3) (x := a + 12) (t := 1) (by rw [t3]; exact (KD18 q1).2.1) (by omega) (by rw [l3, (KD18 q1).2.2]; omega), Int.toNat_natCast, i3, if_neg (by omega)]
      refine bnd rfl ?_
      rw [aR_s (h := h3) (x := a + 7) (t := 21) (by rw [t3]; exact (KD13 q1).2.1) q2.1 (by rw [l3, (KD13 q1).2.2]; exact q2.2), r3, if_neg (by omega), if_neg (by omega)]
      refine bnd rfl ?_
      show (pR h3 F 12 3 (cdo h a n)).bind _ = _
      rw [pR_s (h := h3) (x := F) (t := 12) (by rw [t3]; exact hT12)]
      refine bnd rfl ?_
      rw [pI_s (h := sR h3 F 3 (cdo h a n)) (x := F) (t := 12) (by show hT h3 F = 12; rw [t3]; exact hT12)]
      refine bnd rfl ?_
      rw [pI_s (h := sI (sR h3 F 3 (cdo h a n)) F 4 0) (x := F) (t := 12) (by show hT h3 F = 12; rw [t3]; exact hT12)]
      refine bnd rfl ?_
      rw [pI_s (h := sI (sI (sR h3 F 3 (cdo h a n)) F 4 0) F 5 0) (x := F) (t := 12) (by show hT h3 F = 12; rw [t3]; exact hT12)]
      rfl
    · have hy : y ≠ F := hy
      rw [hI_sI, if_neg (by omega), hI_sI, if_neg (by omega), hI_sI, if_neg (by omega), hI_sR, i3, if_neg (by omega)]
    · have hy : y ≠ F := hy
      rw [hR_sI, hR_sI, hR_sI, hR_sR, if_neg (by omega), r3, if_neg (by omega), if_neg (by omega)]
    · rw [hR_sI, hR_sI, hR_sI, hR_sR, if_neg (by omega), r3, if_neg (by omega), if_pos ⟨rfl, rfl⟩]
    · rw [hR_sI, hR_sI, hR_sI, hR_sR, if_neg (by omega), r3, if_pos ⟨rfl, rfl⟩]
    · rw [hI_sI, if_neg (by omega), hI_sI, if_neg (by omega), hI_sI, if_neg (by omega), hI_sR, i3, if_pos ⟨rfl, rfl⟩]
    · rw [hR_sI, hR_sI, hR_sI, hR_sR, if_pos ⟨rfl, rfl⟩]
    · rw [hI_sI, if_neg (by omega), hI_sI, if_neg (by omega), hI_sI, if_pos ⟨rfl, rfl⟩]
    · rw [hI_sI, if_neg (by omega), hI_sI, if_pos ⟨rfl, rfl⟩]
    · rw [hI_sI, if_pos ⟨rfl, rfl⟩]
/-- a body that was begun is noted -/
theorem NTe (S : SH h) (Q : FRQ h t K e F x c) (he : e ≤ 20) (n1 : hI h 22 11 = hI t 395 60) (rn : rnnR h t) : ∃ h' t', c117 F h = some h' ∧ c266 (e : Int) t = some t' ∧ rnnR h' t' ∧ fp (fun y j => (y = 22 ∧ j = 13) ∨ y = 26) h h' ∧ fp (fun y j => (y = 395 ∧ j = 66) ∨ (419 ≤ y ∧ y ≤ 422)) t t' := by
  obtain ⟨⟨c1, c2, c3, c4, c5, c6⟩, ⟨d1, d2, d3⟩, g1, g2, g3, n, j, k, ⟨m1, m2, m3⟩, m4, m5, m6, m7, m8⟩ := Q
  have hk := ACH_k m7
  obtain ⟨r1, ⟨r2, r3⟩, r4⟩ := id rn
  have hsc := (S.1 c d1).2
  have cnum : hI h (215 + 4 * c) 0 = (c : Int) := hsc.2.2.2.2.2.2
  have ctag : hT h (215 + 4 * c) = 16 := hsc.1
  obtain ⟨Qa, nm, gnn⟩ := ACH_1 m7
  have nm : hI h (hR h F 1) 0 = hI t 415 (12 * e + j) := nm
  have gnn : hI h (hR h F 1) 2 = hI t 416 (12 * e + j) := gnn
  have ka := Qa.1
  by_cases z : hI h 22 11 = 0
  · refine ⟨h, t, ?_, ?_, rn, fp_rf, fp_rf⟩
    · unfold c117
      rw [if_pos z]
    · unfold c266
      rw [if_pos (by rw [← n1]; exact z)]
  · by_cases z50 : hI h 22 13 = 50
    · refine ⟨h, t, ?_, ?_, rn, fp_rf, fp_rf⟩
      · unfold c117
        rw [if_neg z, if_neg (by omega)]
      · unfold c266
        rw [if_neg (by rw [← n1]; exact z), if_pos (by rw [← r1]; exact z50)]
    · obtain ⟨i, hi⟩ : ∃ i : Nat, hI h 22 13 = (i : Int) := ⟨(hI h 22 13).toNat, by omega⟩
      have hi50 : i < 50 := by omega
      obtain ⟨hA, eA⟩ : ∃ hA, hA = sI (sI (sI (sI h 26 (4 * i) (c : Int)) 26 (4 * i + 1) (n : Int)) 26 (4 * i + 2) (hI h (hR h F 1) 0)) 26 (4 * i + 3) (hI h (hR h F 1) 2) := ⟨_, rfl⟩
      obtain ⟨tA, eT⟩ : ∃ tA, tA = sI (sI (sI (sI t 419 i (c : Int)) 420 i (n : Int)) 421 i (hI t 415 (12 * e + j))) 422 i (hI t 416 (12 * e + j)) := ⟨_, rfl⟩
      have iA : ∀ y u, hI hA y u = if y = 26 ∧ u = 4 * i + 3 then hI h (hR h F 1) 2 else if y = 26 ∧ u = 4 * i + 2 then hI h (hR h F 1) 0 else if y = 26 ∧ u = 4 * i + 1 then (n : Int) else if y = 26 ∧ u = 4 * i then (c : Int) else hI h y u := fun y u => by rw [eA, hI_sI, hI_sI, hI_sI, hI_sI]
      have iT : ∀ y u, hI tA y u = if y = 422 ∧ u = i then hI t 416 (12 * e + j) else if y = 421 ∧ u = i then hI t 415 (12 * e + j) else if y = 420 ∧ u = i then (n : Int) else if y = 419 ∧ u = i then (c : Int) else hI t y u := fun y u => by rw [eT, hI_sI, hI_sI, hI_sI, hI_sI]
      refine ⟨sI hA 22 13 ((i + 1 : Nat) : Int), sI tA 395 66 ((i + 1 : Nat) : Int), ?_, ?_, ⟨?_, ?_, fun u hu => ?_⟩, ?_, ?_⟩
      · unfold c117
        rw [if_neg z, if_pos (by omega), hi, wmul_e (by omega) (by omega), gR_s c1, d2]
        refine bnd rfl ?_
        rw [gI_s ctag, cnum]
        refine bnd rfl ?_
        have ws : ∀ (T : hS) (w : Int) (u : Nat) (z : Int), w = (u : Int) → u < 200 → wIs T 26 200 w z = some (sI T 26 u z) := fun T w u z e h => by rw [e, wIs_s (by omega) (by omega), Int.toNat_natCast]
        refine bnd (ws h _ (4 * i) _ (by omega) (by omega)) ?_
        rw [gI_s (h := sI h 26 (4 * i) (c : Int)) (x := F) (t := 12) c1, hI_sI, if_neg (by omega), m2]
        refine bnd rfl ?_
        rw [wadd_e (x := (i : Int) * 4) (by omega) (by omega), wadd_e (x := (i : Int) * 4) (y := 2) (by omega) (by omega), wadd_e (x := (i : Int) * 4) (y := 3) (by omega) (by omega)]
        refine bnd (ws _ _ (4 * i + 1) _ (by omega) (by omega)) ?_
        rw [gR_s (h := sI (sI h 26 (4 * i) (c : Int)) 26 (4 * i + 1) (n : Int)) (x := F) (t := 12) c1]
        refine bnd rfl ?_
        rw [hR_sI, hR_sI, gI_s (h := sI (sI h 26 (4 * i) (c : Int)) 26 (4 * i + 1) (n : Int)) (x := hR h F 1) (t := 24) Qa.2.2.1]
        refine bnd rfl ?_
        rw [hI_sI, if_neg (by omega), hI_sI, if_neg (by omega)]
        refine bnd (ws _ _ (4 * i + 2) _ (by omega) (by omega)) ?_
        rw [gR_s (h := sI (sI (sI h 26 (4 * i) (c : Int)) 26 (4 * i + 1) (n : Int)) 26 (4 * i + 2) (hI h (hR h F 1) 0)) (x := F) (t := 12) c1]
        refine bnd rfl ?_
        rw [hR_sI, hR_sI, hR_sI, gI_s (h := sI (sI (sI h 26 (4 * i) (c : Int)) 26 (4 * i + 1) (n : Int)) 26 (4 * i + 2) (hI h (hR h F 1) 0)) (x := hR h F 1) (t := 24) Qa.2.2.1]
        refine bnd rfl ?_
        rw [hI_sI, if_neg (by omega), hI_sI, if_neg (by omega), hI_sI, if_neg (by omega)]
        refine bnd (ws _ _ (4 * i + 3) _ (by omega) (by omega)) ?_
        rw [← eA]
        refine bnd rfl ?_
        rw [iA, if_neg (by omega), if_neg (by omega), if_neg (by omega), if_neg (by omega), hi, wadd_n (by omega)]
      · unfold c266
        rw [if_neg (by rw [← n1]; exact z), if_neg (by rw [← r1]; exact z50), ← r1, hi]
        have as21 : ∀ (T : hS) (y : Nat), aIs T y 21 (e : Int) = some (hI T y e) := fun T y => by rw [aIs_s (by omega) (by omega), Int.toNat_natCast]
        have ws : ∀ (T : hS) (y : Nat) (z : Int), wIs T y 50 (i : Int) z = some (sI T y i z) := fun T y z => by rw [wIs_s (by omega) (by omega), Int.toNat_natCast]
        have ar : ∀ (T : hS) (y : Nat), aIs T y 252 (wadd (wmul 12 (e : Int)) (j : Int)) = some (hI T y (12 * e + j)) := fun T y => by
          rw [wmul_e (by omega) (by omega), wadd_e (by omega) (by omega), aIs_s (by omega) (by omega), show (12 * (e : Int) + (j : Int)).toNat = 12 * e + j by omega]
        refine bnd (as21 t 412) ?_
        rw [m4]
        refine bnd (as21 t 408) ?_
        rw [g1]
        refine bnd (ws t 419 _) ?_
        refine bnd (as21 _ 413) ?_
        rw [hI_sI, if_neg (by omega), ← r1, hi, hI_sI, if_neg (by omega), m3]
        refine bnd (ws _ 420 _) ?_
        refine bnd (ar _ 415) ?_
        rw [hI_sI, if_neg (by omega), hI_sI, if_neg (by omega), hI_sI, if_neg (by omega), hI_sI, if_neg (by omega), ← r1, hi]
        refine bnd (ws _ 421 _) ?_
        refine bnd (ar _ 416) ?_
        rw [hI_sI, if_neg (by omega), hI_sI, if_neg (by omega), hI_sI, if_neg (by omega), hI_sI, if_neg (by omega), hI_sI, if_neg (by omega), hI_sI, if_neg (by omega), ← r1, hi]
        refine bnd (ws _ 422 _) ?_
        rw [← eT]
        refine bnd rfl ?_
        rw [iT, if_neg (by omega), if_neg (by omega), if_neg (by omega), if_neg (by omega), ← r1, hi, wadd_n (by omega)]
      · rw [hI_sI, if_pos ⟨rfl, rfl⟩, hI_sI, if_pos ⟨rfl, rfl⟩]
      · rw [hI_sI, if_pos ⟨rfl, rfl⟩]; omega
      · rw [hI_sI, if_pos ⟨rfl, rfl⟩] at hu
        rw [hI_sI, if_neg (by omega), hI_sI, if_neg (by omega), hI_sI, if_neg (by omega), hI_sI, if_neg (by omega), hI_sI, if_neg (by omega), hI_sI, if_neg (by omega), hI_sI, if_neg (by omega), hI_sI, if_neg (by omega)]
        by_cases cu : u = i
        · subst cu
          rw [iA, if_neg (by omega), if_neg (by omega), if_neg (by omega), if_pos ⟨rfl, rfl⟩, iT, if_neg (by omega), if_neg (by omega), if_neg (by omega), if_pos ⟨rfl, rfl⟩, iA, if_neg (by omega), if_neg (by omega), if_pos ⟨rfl, rfl⟩, iT, if_neg (by omega), if_neg (by omega), if_pos ⟨rfl, rfl⟩, iA, if_neg (by omega), if_pos ⟨rfl, rfl⟩, iT, if_neg (by omega), if_pos ⟨rfl, rfl⟩, iA, if_pos ⟨rfl, rfl⟩, iT, if_pos ⟨rfl, rfl⟩]
          exact ⟨rfl, rfl, nm, gnn⟩
        · have := r4 u (by omega)
          rw [iA, if_neg (by omega), if_neg (by omega), if_neg (by omega), if_neg (by omega), iT, if_neg (by omega), if_neg (by omega), if_neg (by omega), if_neg (by omega), iA, if_neg (by omega), if_neg (by omega), if_neg (by omega), if_neg (by omega), iT, if_neg (by omega), if_neg (by omega), if_neg (by omega), if_neg (by omega), iA, if_neg (by omega), if_neg (by omega), if_neg (by omega), if_neg (by omega), iT, if_neg (by omega), if_neg (by omega), if_neg (by omega), if_neg (by omega), iA, if_neg (by omega), if_neg (by omega), if_neg (by omega), if_neg (by omega), iT, if_neg (by omega), if_neg (by omega), if_neg (by omega), if_neg (by omega)]
          exact this
      · rw [eA]
        exact fp_tr (fp_tr (fp_tr (fp_tr (fp_sI (.inr rfl)) (fp_sI (.inr rfl))) (fp_sI (.inr rfl))) (fp_sI (.inr rfl))) (fp_sI (.inl ⟨rfl, rfl⟩))
      · rw [eT]
        exact fp_tr (fp_tr (fp_tr (fp_tr (fp_sI (.inr (by omega))) (fp_sI (.inr (by omega)))) (fp_sI (.inr (by omega)))) (fp_sI (.inr (by omega)))) (fp_sI (.inl ⟨rfl, rfl⟩))
end OPP
