/-! the quiet point: a patch has been made -/
section QU5
variable {h h' h0 h1 h2 h3 h6 h8 h9 hZ hY t t' t1 t2 t5 t6 t7 t9 tZ tY : hS} {K : Nat → Int → Prop} {p P m m0 q κ k pt S A qq N0 tx pk : Nat} {r r0 : Int → Nat} {G s fi : Int} {R0 R1 : Nat → Nat} {us Lc : List Nat}
theorem qc_rf : qcH h h := ⟨⟨Nat.le_refl _, Nat.le_refl _⟩, JQ_rf, fun x _ => ⟨⟨rfl, rfl⟩, fun _ _ => rfl, fun _ _ => rfl⟩⟩
/-- the long acts have been looked at: all holds again -/
theorem Q_tl (U2 : RUNp K p m q r κ h2 t) (E : ENq h2 h3 10) (L3 : SL h3 ∧ LA h3 t ∧ LRs h3 t K κ) (pt : PT h2 t κ) (Pk : PKs h2 t K p m κ R0 R1) (Gn : GNq h2 t m G) (X : XTq h2 t) (rf : rfsR h2 t) (e87 : hR h2 8 7 = p) (Lt : LTq h2 t K p m κ G R0 R1) (h448 : 448 ≤ hN h2) : INq K p m q r κ G R0 R1 h3 t := by
  have Pw := U2.1.2.1
  have hp := U2.1.2.2.2.2.1
  obtain ⟨⟨c1, c2, c3, c4, c5⟩, c6, c7, -⟩ := id E
  have i3 : ∀ x j, ¬ (375 ≤ x ∧ x < 395) → hI h3 x j = hI h2 x j := fun x j hx => c7 x j (fun w => by obtain ⟨l, w1, w2, -⟩ := w; omega)
  have ch : chg (fun x => (20 ≤ x ∧ x ≤ 47) ∨ (375 ≤ x ∧ x < 395)) h2 h3 := ⟨c1, c2, c3, c4, c5, fun x hx j => ⟨i3 x j (by omega), c6 x j⟩⟩
  have U3 : RUNp K p m q r κ h3 t := RUN_c U2 ch (fun _ _ _ => rfl) (fun j _ => c6 23 j) (rnn_c U2.2.2.2.2.1 (fun x j hx => i3 x j (by omega)) (fun _ _ _ => rfl)) (i3 22 11 (by omega))
  have kh := qc_kp Pw qc_rf E h448
  have kt : kpT t t := qc_kt fp_rf
  obtain ⟨x1, x2, x3⟩ := X
  refine ⟨U3, L3, PT_E pt E, PKs_k Pw hp Pk kh kt, GN_k Pw.1 Gn kh kt, ⟨by rw [c2, c3]; exact x1, fun c n hc hn => by rw [i3 _ _ (by omega)]; exact x2 c n hc hn, x3⟩, ?_, by rw [c6]; exact e87, LT_k Pw hp Lt kh kt⟩
  unfold rfsR
  rw [i3 48 10 (by omega), i3 48 11 (by omega), i3 48 12 (by omega)]
  exact rf
/-- those that die end their long acts, on both sides -/
theorem Q_dy (U : RUNp K p m0 q r0 κ h t) (La : LA h t) (LR : LRs h t K κ) (BB : CKB hY t5 K P m q r) (F : FNq hZ hY t5 h8 t7 p pt k q G) (rows : ∀ y j, (y = 403 ∨ (423 ≤ y ∧ y ≤ 437)) → hI t5 y j = hI t y j) {l : Nat} (hl : l < 10) : ((hI t 423 l = 1 ∧ ∃ c : Nat, c < 40 ∧ hI t 426 l = (c : Int) ∧ hI h8 (215 + 4 * c) 1 = 0) → hI t7 423 l = 0 ∧ hI t7 431 l = 3) ∧ (¬ (hI t 423 l = 1 ∧ ∃ c : Nat, c < 40 ∧ hI t 426 l = (c : Int) ∧ hI h8 (215 + 4 * c) 1 = 0) → hI t7 423 l = hI t 423 l ∧ hI t7 431 l = hI t 431 l) := by
  obtain ⟨-, -, -, fc, ⟨-, -, fl⟩, -⟩ := F
  obtain ⟨f1, f2⟩ := fl l
  have r3 := rows 423 l (by omega)
  have r6 := rows 426 l (by omega)
  have r1 := rows 431 l (by omega)
  rw [r3, r6] at f1 f2
  rw [r1] at f2
  have CC := BB.2.2.2.2.2.1
  have q40 := U.1.2.2.2.1.2.2.1
  refine ⟨fun w => f1 ?_, fun w => f2 (fun z => w ?_)⟩
  · obtain ⟨w1, c, w2, w3, w4⟩ := w
    obtain ⟨x, c', Fr, -⟩ := LR l hl w1
    obtain ⟨-, ⟨d1, d2, d3⟩, g1, -⟩ := Fr
    obtain rfl : c' = c := by omega
    obtain ⟨-, v2, v3, -⟩ := U.1.2.2.2.1.2.2.2 c' w2
    have cq : c' < q := by
      by_cases y : c' < q
      · exact y
      · have := v3 (by omega)
        omega
    refine ⟨hl, by omega, c', cq, ⟨?_, ?_⟩, w3⟩
    · rw [rows 403 c' (.inl rfl), v2 cq, d3]; omega
    · by_cases y : hI t5 446 c' = -1
      · exact y
      · have := ((CC c' w2).2.1 cq).2 ⟨by rw [rows 403 c' (.inl rfl), v2 cq, d3]; omega, y⟩
        rw [← (fc c' w2).2.1, w4] at this
        omega
  · obtain ⟨z1, z2, c, z3, z4, z5⟩ := z
    have run : hI t 423 l = 1 := by
      rcases (La l hl).2.2.2.1 with y | y
      · exact absurd y z2
      · exact y
    refine ⟨run, c, by omega, z5, ?_⟩
    rw [(fc c (by omega)).2.1]
    obtain ⟨y1, y2, -⟩ := CC c (by omega)
    rcases y1 with y | y
    · exact y
    · exact absurd z4.2 ((y2 z3).1 y).2
end QU5
