/-! a patch is made: what is left behind -/
/-- a patch that was made leaves the rest of the class alone -/
def mdH (P pt : Nat) (h h' : hS) : Prop := (hN h ≤ hN h' ∧ hM h ≤ hM h') ∧ ∀ x, x < P → (hT h' x = hT h x ∧ hL h' x = hL h x) ∧ (∀ j, ¬ ((x = 24 ∧ (j = 0 ∨ j = 3)) ∨ x = 51 ∨ (53 ≤ x ∧ x < 213 ∧ j = 2 ∧ (x - 53) % 4 = 0) ∨ (215 ≤ x ∧ x < 375 ∧ (x - 215) % 4 = 0 ∧ j = 2) ∨ (x = 48 ∧ (j = 7 ∨ j = 8))) → hR h' x j = hR h x j) ∧ ∀ j, ¬ ((x = 22 ∧ (j = 5 ∨ j = 7 ∨ j = 8 ∨ j = 9)) ∨ x = 25 ∨ (x = 24 ∧ (j = 4 ∨ j = 5 ∨ j = 6)) ∨ x = 52 ∨ (53 ≤ x ∧ x < 213 ∧ ¬ ((x - 53) % 4 = 0 ∧ j ≠ 1)) ∨ (x = 48 ∧ j = 9) ∨ (x = pt ∧ j = 1) ∨ (215 ≤ x ∧ x < 375 ∧ ¬ ((x - 215) % 4 = 0 ∧ j ≠ 1))) → hI h' x j = hI h x j
def mdT (t t' : hS) : Prop := fp (fun x j => (x = 395 ∧ (j = 27 ∨ j = 29 ∨ j = 39 ∨ j = 52 ∨ j = 54)) ∨ x = 400 ∨ (403 ≤ x ∧ x ≤ 407) ∨ (408 ≤ x ∧ x ≤ 410 ∧ j = 0) ∨ x = 417 ∨ x = 423 ∨ x = 431 ∨ (438 ≤ x ∧ x ≤ 447)) t t'
/-- both at the end, from hZ, hY, t5 -/
def FNq (hZ hY t5 h8 t7 : hS) (p pt k q : Nat) (G : Int) : Prop := (hT h8 = hT hZ ∧ hL h8 = hL hZ ∧ hN h8 = hN hZ ∧ hM h8 = hM hZ) ∧ (∀ x, ((448 ≤ x ∧ x ≠ pt) ∨ x = 213 ∨ x = 214) → sm hZ h8 x) ∧ (hI h8 8 8 = hI hZ 8 8 ∧ ∀ c, c < 40 → (hR h8 19 c = 215 + 4 * c ∧ SHc h8 (215 + 4 * c) c) ∧ (hR h8 49 c = 53 + 4 * c ∧ SHc h8 (53 + 4 * c) c)) ∧ (∀ c, c < 40 → hR h8 (215 + 4 * c) 2 = hR hY (53 + 4 * c) 2 ∧ hI h8 (215 + 4 * c) 1 = hI hY (53 + 4 * c) 1 ∧ ∀ n, n < 40 → hI h8 (216 + 4 * c) n = hI hY (54 + 4 * c) n ∧ hI h8 (217 + 4 * c) n = hI hY (55 + 4 * c) n ∧ hI h8 (218 + 4 * c) n = hI hY (56 + 4 * c) n) ∧ (fp (fun x j => (x = 395 ∧ (j = 27 ∨ j = 29 ∨ j = 39 ∨ j = 52 ∨ j = 54)) ∨ x = 403 ∨ x = 417 ∨ x = 423 ∨ x = 431 ∨ (408 ≤ x ∧ x ≤ 410 ∧ j = 0)) t5 t7 ∧ (∀ c, (c < q ∧ gnq t5 c → hI t7 403 c = 0) ∧ (¬ (c < q ∧ gnq t5 c) → hI t7 403 c = hI t5 403 c)) ∧ ∀ l, ((l < 10 ∧ hI t5 423 l ≠ 0 ∧ ∃ c, c < q ∧ gnq t5 c ∧ hI t5 426 l = (c : Int)) → hI t7 423 l = 0 ∧ hI t7 431 l = 3) ∧ (¬ (l < 10 ∧ hI t5 423 l ≠ 0 ∧ ∃ c, c < q ∧ gnq t5 c ∧ hI t5 426 l = (c : Int)) → hI t7 423 l = hI t5 423 l ∧ hI t7 431 l = hI t5 431 l)) ∧ (hI h8 48 9 = G ∧ hI t7 395 27 = G ∧ hI t7 395 29 = (k : Int) ∧ hR h8 48 7 = pt ∧ hR h8 48 8 = p ∧ hI h8 pt 1 = 2 ∧ hI t7 395 54 = 0)
section FIN
variable {h h' h0 hX hZ hY h6 h8 t t' tX tZ tY t5 t6 t7 : hS} {K : Nat → Int → Prop} {p m0 m q k pt S A qq N0 : Nat} {r0 r : Int → Nat} {G : Int} {us Lc : List Nat} {f : Nat} {P tx pk : Nat} {fi : Int}
theorem FN_e (B : CAB hZ tZ h0 K p P m0 m q r0 r G pt S A qq N0 tx pk us Lc fi) (fz : fw t tZ) (C : CYq hZ tZ P m q 40 hY tY) (M : MVq tY t5 m q) (BB : CKB hY t5 K P m q r) (cH : ckH hY h6) (cT : ckT t5 t6) (e54 : hI t6 395 54 = 0) (e27 : hI t6 395 27 = G - 1) (rN : hN h0 ≤ hN hZ ∧ hM h0 ≤ hM hZ) : ∃ h8 t7, (lp (fun s => c139_b96 s.1 s.2) hF0 (0, h6)).bind (fun r18 => (some (sI r18 48 9 (wadd (hI r18 48 9) 1))).bind (fun h19 => (pI h19 pt 26 1 2).bind (fun h20 => (some (sR h20 48 7 pt)).bind (fun h21 => (some (sR h21 48 8 p)).bind (fun h22 => some (P, h22)))))) = some (P, h8) ∧ mkT (k : Int) t6 = some (1, t7) ∧ FNq hZ hY t5 h8 t7 p pt k q G ∧ mdH P pt h0 h8 ∧ mdT t t7 ∧ hJ h8 = hJ h6 := by
  obtain ⟨RT0, NW, ⟨C0, P448, hP⟩, ⟨hpt, LL, N8, A8, l6, p448⟩, Sm, -, -, T24, -, BL, G0, G1, eG⟩ := id B
  obtain ⟨SH0, Pw0, TB0', CR0, hp, KD0⟩ := RT0
  obtain ⟨⟨cHY, cTY⟩, -, D, -⟩ := id C
  obtain ⟨-, -, -, ⟨e33, q40⟩, SFY, CC, -, -⟩ := id BB
  have c6 : cyH hZ h6 := cyH_tr cHY (ckH_cy cH)
  have gT : ∀ x, hT h6 x = hT hZ x := fun x => by rw [c6.1.2.1]
  have gL : ∀ x, hL h6 x = hL hZ x := fun x => by rw [c6.1.2.2.1]
  have i6 : ∀ x j, 53 ≤ x → x < 213 → hI h6 x j = hI hY x j := fun x j x1 x2 => cH.2.2 x j (by omega)
  have r6 : ∀ x j, 53 ≤ x → x < 213 → hR h6 x j = hR hY x j := fun x j x1 x2 => cH.2.1 x j (by omega)
  have F6 : ∀ c, c < 40 → (hR h6 19 c = 215 + 4 * c ∧ hR h6 49 c = 53 + 4 * c) ∧ SHc h6 (215 + 4 * c) c ∧ SHc h6 (53 + 4 * c) c ∧ (hI h6 (53 + 4 * c) 1 = 0 ∨ hI h6 (53 + 4 * c) 1 = 1) ∧ ∀ n, n < 40 → hI h6 (55 + 4 * c) n = 0 ∨ hI h6 (55 + 4 * c) n = 1 := fun c c40 => by
    obtain ⟨s1, s2, s3, s4, s5, s6, s7⟩ := (SH0.1 c c40).2
    obtain ⟨f1, f2, f3, f4, f5, f6, f7⟩ := (SH0.2 c c40).2
    have rr : ∀ j, hR h6 (215 + 4 * c) j = hR hZ (215 + 4 * c) j := fun j => c6.2.1 _ _ (by omega)
    have rf : ∀ j, j ≠ 2 → hR h6 (53 + 4 * c) j = hR hZ (53 + 4 * c) j := fun j hj => c6.2.1 _ _ (by omega)
    exact ⟨⟨by rw [c6.2.1 19 c (by omega)]; exact (SH0.1 c c40).1, by rw [c6.2.1 49 c (by omega)]; exact (SH0.2 c c40).1⟩, ⟨by rw [gT]; exact s1, by rw [rr]; exact s2, by rw [rr]; exact s3, by rw [rr]; exact s4, by rw [gT, gT, gT]; exact s5, by rw [gL, gL, gL]; exact s6, by rw [c6.2.2 _ _ (by omega)]; exact s7⟩, ⟨by rw [gT]; exact f1, by rw [rf 3 (by omega)]; exact f2, by rw [rf 4 (by omega)]; exact f3, by rw [rf 5 (by omega)]; exact f4, by rw [gT, gT, gT]; exact f5, by rw [gL, gL, gL]; exact f6, by rw [c6.2.2 _ _ (by omega)]; exact f7⟩, by rw [i6 _ _ (by omega) (by omega)]; exact (CC c c40).1, fun n hn => by rw [i6 _ _ (by omega) (by omega)]; exact (D c c40).2.2 n hn⟩
  obtain ⟨h7, a1, ⟨b1, b2, b3, b4, b5⟩, b6, b7, b8⟩ := c139_96 F6 40 0 hF0 h6 (by omega) (hF0_lt (by omega)) ⟨⟨rfl, rfl, rfl, rfl, rfl⟩, fun _ _ _ => rfl, fun _ _ _ => rfl, fun c hc => by omega⟩
  obtain ⟨h8, e8⟩ : ∃ h8, h8 = sR (sR (sI (sI h7 48 9 G) pt 1 2) 48 7 pt) 48 8 p := ⟨_, rfl⟩
  have e489 : hI h7 48 9 = G - 1 := by rw [b7 48 9 (by omega), c6.2.2 48 9 (by omega)]; exact eG
  have w9 : wadd (hI h7 48 9) 1 = G := by rw [e489, wadd_e (by omega) (by omega)]; omega
  have i8 : ∀ x j, ¬ ((x = 48 ∧ j = 9) ∨ (x = pt ∧ j = 1)) → hI h8 x j = hI h7 x j := fun x j hx => by rw [e8, hI_sR, hI_sR, hI_sI, if_neg (by omega), hI_sI, if_neg (by omega)]
  have r8 : ∀ x j, ¬ (x = 48 ∧ (j = 7 ∨ j = 8)) → hR h8 x j = hR h7 x j := fun x j hx => by rw [e8, hR_sR, if_neg (by omega), hR_sR, if_neg (by omega), hR_sI, hR_sI]
  have T8 : hT h8 = hT hZ := by rw [e8]; exact b2.trans c6.1.2.1
  have L8 : hL h8 = hL hZ := by rw [e8]; exact b3.trans c6.1.2.2.1
  have N8' : hN h8 = hN hZ := by rw [e8]; exact b4.trans c6.1.2.2.2.1
  have M8 : hM h8 = hM hZ := by rw [e8]; exact b5.trans c6.1.2.2.2.2
  have gT8 : ∀ x, hT h8 x = hT hZ x := fun x => by rw [T8]
  have gL8 : ∀ x, hL h8 x = hL hZ x := fun x => by rw [L8]
  -- the other side
  obtain ⟨ta, ea⟩ : ∃ ta, ta = sI t6 395 27 G := ⟨_, rfl⟩
  obtain ⟨tb, eb⟩ : ∃ tb, tb = sI ta 395 29 (k : Int) := ⟨_, rfl⟩
  have w27 : wadd (hI t6 395 27) 1 = G := by rw [e27, wadd_e (by omega) (by omega)]; omega
  have ob : ∀ x j, ¬ (x = 395 ∧ (j = 27 ∨ j = 29)) → hI tb x j = hI t6 x j := fun x j hx => by rw [eb, hI_sI, if_neg (by omega), ea, hI_sI, if_neg (by omega)]
  have oc : ∀ x j, ¬ (x = 395 ∧ (j = 27 ∨ j = 29 ∨ j = 39 ∨ j = 52 ∨ j = 54)) → ¬ (x = 417) → ¬ (408 ≤ x ∧ x ≤ 410 ∧ j = 0) → hI tb x j = hI t5 x j := fun x j h1 h2 h3 => by rw [ob x j (by omega), cT.2 x j (by omega)]
  obtain ⟨t7, d1, d2, d3, d4⟩ := c283_515 (t0 := tb) (q := q) (by rw [oc 395 33 (by omega) (by omega) (by omega)]; exact e33) q40 q 0 hF0 tb (by omega) (hF0_lt (by omega)) ⟨fp_rf, fun c => ⟨fun y => by have := y.1; omega, fun _ => rfl⟩, fun l => ⟨fun y => by obtain ⟨-, -, c, y, -⟩ := y; omega, fun _ => ⟨rfl, rfl⟩⟩⟩
  have gq : ∀ c, gnq tb c ↔ gnq t5 c := fun c => by
    unfold gnq
    rw [oc 403 c (by omega) (by omega) (by omega), oc 446 c (by omega) (by omega) (by omega)]
  have f57 : fp (fun x j => (x = 395 ∧ (j = 27 ∨ j = 29 ∨ j = 39 ∨ j = 52 ∨ j = 54)) ∨ x = 403 ∨ x = 417 ∨ x = 423 ∨ x = 431 ∨ (408 ≤ x ∧ x ≤ 410 ∧ j = 0)) t5 t7 := ⟨by rw [d2.1, eb, ea]; exact cT.1, fun x j hx => by rw [d2.2 x j (by omega), oc x j (by omega) (by omega) (by omega)]⟩
  refine ⟨h8, t7, ?_, ?_, ⟨⟨T8, L8, N8', M8⟩, fun x hx => ?_, ⟨by rw [i8 8 8 (by omega), b7 8 8 (by omega), c6.2.2 8 8 (by omega)], fun c c40 => ?_⟩, fun c c40 => ?_, ⟨f57, fun c => ?_, fun l => ?_⟩, ?_⟩, ⟨⟨by omega, by omega⟩, fun x hx => ?_⟩, ?_, by rw [e8]; exact b1⟩
  · refine bnd a1 ?_
    refine bnd rfl ?_
    rw [w9]
    refine bnd (pI_s (by show hT h7 pt = 26; rw [b2, gT, (Sm pt hpt.2.2).2.2.1]; exact hpt.1)) ?_
    show some (P, sR (sR (sI (sI h7 48 9 G) pt 1 2) 48 7 pt) 48 8 p) = some (P, h8)
    rw [← e8]
  · unfold mkT
    rw [w27, ← ea]
    refine bnd rfl ?_
    rw [← eb]
    refine bnd rfl ?_
    refine bnd d1 ?_
    rfl
  · refine ⟨fun j => ?_, fun j => ?_, gT8 x, gL8 x⟩
    · rw [i8 x j (by omega), b7 x j (by omega), c6.2.2 x j (by omega)]
    · rw [r8 x j (by omega), b6 x j (by omega), c6.2.1 x j (by omega)]
  · obtain ⟨⟨x1, x2⟩, ⟨s1, s2, s3, s4, s5, s6, s7⟩, ⟨f1, f2, f3, f4, f5, f6, f7⟩, -, -⟩ := F6 c c40
    have z6 : ∀ x, hT h8 x = hT h6 x := fun x => (gT8 x).trans (gT x).symm
    have z7 : ∀ x, hL h8 x = hL h6 x := fun x => (gL8 x).trans (gL x).symm
    have ra : ∀ j, j ≠ 2 → hR h8 (215 + 4 * c) j = hR h6 (215 + 4 * c) j := fun j hj => by rw [r8 _ j (by omega), b6 _ j (by omega)]
    have rb : ∀ j, hR h8 (53 + 4 * c) j = hR h6 (53 + 4 * c) j := fun j => by rw [r8 _ j (by omega), b6 _ j (by omega)]
    refine ⟨⟨by rw [r8 19 c (by omega), b6 19 c (by omega)]; exact x1, ⟨by rw [z6]; exact s1, by rw [ra 3 (by omega)]; exact s2, by rw [ra 4 (by omega)]; exact s3, by rw [ra 5 (by omega)]; exact s4, by rw [z6, z6, z6]; exact s5, by rw [z7, z7, z7]; exact s6, ?_⟩⟩, ⟨by rw [r8 49 c (by omega), b6 49 c (by omega)]; exact x2, ⟨by rw [z6]; exact f1, by rw [rb]; exact f2, by rw [rb]; exact f3, by rw [rb]; exact f4, by rw [z6, z6, z6]; exact f5, by rw [z7, z7, z7]; exact f6, ?_⟩⟩⟩
    · rw [i8 _ _ (by omega), b7 _ _ (by omega)]; exact s7
    · rw [i8 _ _ (by omega), b7 _ _ (by omega)]; exact f7
  · obtain ⟨x1, x2, x3⟩ := b8 c c40
    refine ⟨by rw [r8 _ _ (by omega), x1, r6 _ _ (by omega) (by omega)], by rw [i8 _ _ (by omega), x2, i6 _ _ (by omega) (by omega)], fun n hn => ?_⟩
    obtain ⟨y1, y2, y3⟩ := x3 n hn
    exact ⟨by rw [i8 _ _ (by omega), y1, i6 _ _ (by omega) (by omega)], by rw [i8 _ _ (by omega), y2, i6 _ _ (by omega) (by omega)], by rw [i8 _ _ (by omega), y3, i6 _ _ (by omega) (by omega)]⟩
  · have := d3 c
    rw [gq, oc 403 c (by omega) (by omega) (by omega)] at this
    exact this
  · have := d4 l
    rw [oc 423 l (by omega) (by omega) (by omega), oc 426 l (by omega) (by omega) (by omega), oc 431 l (by omega) (by omega) (by omega)] at this
    refine ⟨fun y => this.1 ?_, fun y => this.2 (fun z => y ?_)⟩
    · obtain ⟨y1, y2, c, y3, y4, y5⟩ := y
      exact ⟨y1, y2, c, y3, (gq c).2 y4, y5⟩
    · obtain ⟨y1, y2, c, y3, y4, y5⟩ := z
      exact ⟨y1, y2, c, y3, (gq c).1 y4, y5⟩
  · have ne : ¬ (48 = pt ∧ (9 : Nat) = 1) := by omega
    refine ⟨by rw [e8, hI_sR, hI_sR, hI_sI, if_neg ne, hI_sI, if_pos ⟨rfl, rfl⟩], ?_, ?_, by rw [e8, hR_sR, if_neg (by omega), hR_sR, if_pos ⟨rfl, rfl⟩], by rw [e8, hR_sR, if_pos ⟨rfl, rfl⟩], by rw [e8, hI_sR, hI_sR, hI_sI, if_pos ⟨rfl, rfl⟩], ?_⟩
    · rw [d2.2 395 27 (by omega), eb, hI_sI, if_neg (by omega), ea, hI_sI, if_pos ⟨rfl, rfl⟩]
    · rw [d2.2 395 29 (by omega), eb, hI_sI, if_pos ⟨rfl, rfl⟩]
    · rw [d2.2 395 54 (by omega), ob 395 54 (by omega)]; exact e54
  · obtain ⟨s1, s2, s3, s4⟩ := Sm x hx
    refine ⟨⟨by rw [gT8]; exact s3, by rw [gL8]; exact s4⟩, fun j hj => ?_, fun j hj => ?_⟩
    · rw [r8 x j (by omega), b6 x j (by omega), c6.2.1 x j (by omega)]
      exact s2 j
    · rw [i8 x j (by omega), b7 x j (by omega), c6.2.2 x j (by omega)]
      exact s1 j
  · refine ⟨by rw [f57.1, M.1.1, cTY.1, fz.1], fun x j hx => ?_⟩
    rw [f57.2 x j (by omega), M.1.2 x j (by omega), cTY.2 x j (by omega), fz.2 x j (by omega)]
end FIN
