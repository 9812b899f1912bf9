/-! the calls, one by one: patch -/
section OPW
variable {h h' hc hr hc' hr' t t' : hS} {K K' : Nat → Int → Prop} {p m q κ n : Nat} {r : Int → Nat} {G : Int} {R0 R1 : Nat → Nat}
theorem BK_f {N : Nat → Nat → Int} {lo k M q : Nat} {f : Int} {C : List Int} (B : BK N lo (k + 1) M q f C) : f = -1 ∨ ∃ a : Nat, f = (a : Int) := by
  obtain ⟨L, h1, -, -⟩ := B
  cases L with
  | nil => exact .inl h1
  | cons a r => exact .inr ⟨a, h1.1⟩
/-- the new codes of a kept patch are known -/
theorem CT_p (C : CT hc' hr' K κ) (h448 : 448 ≤ hN hc) (eK : ∀ x v, K' x v → (K x v ∨ (hN hc ≤ x ∧ ∃ (lo i : Nat) (f : Int), i ≤ 1200 ∧ BDc (ntx hr' (κ + 1)) hc' (hN hc) lo i x f ∧ v = gf (κ + 1) f))) : CT hc' hr' K' (κ + 1) := fun x v hx => by
  rcases eK x v hx with z | ⟨z1, lo, i, f, z2, B, z3⟩
  · obtain ⟨c1, c2, c3, tx, fn, D, c4, c5⟩ := C x v z
    exact ⟨c1, c2, c3, tx, fn, D, by omega, c5⟩
  · obtain ⟨d1, d2, d3, D, d4, d5, d6⟩ := B
    refine ⟨by omega, d2, d3, κ + 1, f, D, Nat.le_refl _, BK_up (BK_lo (Nat.zero_le _) d4) z2, ?_, d5, d6⟩
    rw [z3]
    unfold gf gn
    rcases BK_f d4 with w | ⟨a, w⟩
    · rw [if_pos w, if_pos w]
    · subst w
      rw [if_neg (by omega), if_neg (by omega), Int.toNat_natCast]
      omega
/-- patch -/
theorem op4 : OPq c92 c227 := fun n hc hr n5 I => by
  obtain ⟨K, p, m, q, r, κ, G, R0, R1, I', Q, Sc, g, ro⟩ := id I
  obtain ⟨U, ⟨Ss, La, LR⟩, PTh, Pk, Gn, X, rf, e87, Lt⟩ := id I'
  have h448 := Q.2.2.2.2.2.2.2
  obtain ⟨s1, s2, s3, s4, s5, s6, s7⟩ := id Sc
  obtain ⟨v, hc', hr', e1, e2, ⟨tp, lr, nm, fl, q7⟩, cs, nB, mB⟩ := patch_e Q s1 s2 PTh.1 PTh.2.1 PTh.2.2.1
  have jq : JQr hc hc' := j_c92 JQ_rf _ e1
  rcases cs with ⟨-, fx, fy⟩ | ⟨k6, -, ⟨p1, p2, p3, p4, p5⟩, r402, PK1h, ⟨k4, k25⟩, ⟨⟨n1, n2⟩, fc⟩, y1, y2, y3, y4⟩
  · exact ⟨v, hc', hr', e1, e2, op_fail I fx fy jq tp lr nm fl q7 ⟨nB, mB⟩⟩
  · have S5 : S5q (hN hc) (hN hc) hc' := s_c92 (N0 := hN hc) (B := hN hc) ⟨⟨h448, Nat.le_refl _, Nat.le_refl _⟩, fun y y0 y1 => by omega⟩ _ e1
    have hp := U.1.2.2.2.2.1
    have pN := U.1.2.1.2.1.2.1
    have ih : igH κ hc hc' := ⟨n1, fun x hx _ => by
      obtain ⟨z1, z2, z3, z4⟩ := fc x hx
      exact ⟨⟨z1, z2⟩, fun j hj => z3 j (by omega), fun j hj => z4 j (by omega)⟩⟩
    have it : igT κ hr hr' := fun x j x1 x2 hx => y3 x j (by omega)
    obtain ⟨K', eK⟩ : ∃ K' : Nat → Int → Prop, ∀ x v, K' x v ↔ (K x v ∨ (hN hc ≤ x ∧ ∃ (lo i : Nat) (f : Int), i ≤ 1200 ∧ BDc (ntx hr' (κ + 1)) hc' (hN hc) lo i x f ∧ v = gf (κ + 1) f)) := ⟨_, fun _ _ => Iff.rfl⟩
    have C' : CT hc' hr' K' (κ + 1) := CT_p (CT_i U.2.1 ih it) h448 (fun x v hx => (eK x v).1 hx)
    obtain ⟨U', LL', Pk', Gn', X', rf', e87', Lt'⟩ := INq_i (K' := K') I' h448 ih it (fun x v hx => (eK x v).2 (.inl hx)) (fun x v hx => by
      rcases (eK x v).1 hx with z | ⟨z1, lo, i, f, z2, B, z3⟩
      · exact .inl z
      · exact .inr ⟨z1, B.2.1, B.2.2.1⟩) (show κ ≤ κ + 1 by omega) (by omega) C'
    obtain ⟨t1, t2, t3, t4, t5, t6⟩ := id PTh
    have e50 : ∀ j, j < κ → hR hc' 50 j = hR hc 50 j := fun j hj => (ih.2 50 (by omega) (by omega)).2.1 j (by omega)
    have PT' : PT hc' hr' (κ + 1) := by
      refine ⟨k4, k25, by omega, fun j hj => ?_, fun j k hj hk e => ?_, ?_⟩
      · by_cases z : j = κ
        · rw [z, p5, r402]
          exact ⟨⟨p1, p3, p4⟩, rfl⟩
        · obtain ⟨⟨w1, w2, w3⟩, w4⟩ := t4 j (by omega)
          have sx := ig_s ih w2 (.inr (.inr w1))
          rw [e50 j (by omega), sx.2.2.1, sx.1, it 402 j (by omega) (by omega) (by omega)]
          exact ⟨⟨w1, by omega, w3⟩, w4⟩
      · by_cases zj : j = κ
        · by_cases zk : k = κ
          · omega
          · rw [zj, e50 k (by omega)] at e
            have := (t4 k (by omega)).1.2.1
            omega
        · by_cases zk : k = κ
          · rw [zk, e50 j (by omega)] at e
            have := (t4 j (by omega)).1.2.1
            omega
          · rw [e50 j (by omega), e50 k (by omega)] at e
            exact t5 j k (by omega) (by omega) e
      · rw [it 395 28 (by omega) (by omega) (by omega), it 395 26 (by omega) (by omega) (by omega), (ih.2 48 (by omega) (by omega)).2.2 6 (by omega), (ih.2 48 (by omega) (by omega)).2.1 5 (by omega)]
        rcases t6 with z | ⟨z1, z2, z3, z4⟩
        · exact .inl z
        · exact .inr ⟨z1, by omega, by rw [e50 _ (by omega)]; exact z3, z4⟩
    obtain ⟨R0', a0⟩ : ∃ R0' : Nat → Nat, ∀ k, R0' k = if k = κ then hN hc else R0 k := ⟨_, fun _ => rfl⟩
    obtain ⟨R1', a1⟩ : ∃ R1' : Nat → Nat, ∀ k, R1' k = if k = κ then hN hc' else R1 k := ⟨_, fun _ => rfl⟩
    have ec : cutN (hN hc') hc' = hc' := rfl
    have PKn : PKq hc' hr' K' κ (hN hc) (hN hc') := by
      obtain ⟨b0, S, A, qq, us, L, f, b1, b2, b3, b4, b5, b6, b7, b8⟩ := PK1h
      refine ⟨⟨h448, n1, Nat.le_refl _⟩, S, A, qq, us, L, f, b1, by rw [ec]; exact b2, b7, b8, b3, b4, b5, by rw [ec]; exact b6, fun y hy => ?_⟩
      obtain ⟨i, hi⟩ := List.getElem?_of_mem hy
      obtain ⟨-, w1, w2, w3⟩ := b2.2.2.2 i y hi
      refine ⟨S5.2 y w1 w2 w3, ?_⟩
      rw [ec]
      exact ⟨w2, fun lo i f hi B => (eK _ _).2 (.inr ⟨B.1, lo, i, f, hi, B, rfl⟩)⟩
    have Pk'' : PKs hc' hr' K' p m (κ + 1) R0' R1' := fun k hk => by
      rw [a0, a1]
      by_cases z : k = κ
      · rw [if_pos z, if_pos z, z]
        refine ⟨PKn, ⟨p1, p3⟩, fun j j0 j1 => .inl ?_⟩
        rw [kd_i ih hp pN]
        have := (U.1.2.1.2.2.1 j j0 j1).1.2.1
        omega
      · rw [if_neg z, if_neg z]
        exact Pk' k (by omega)
    have Lt'' : LTq hc' hr' K' p m (κ + 1) G R0' R1' := by
      rcases Lt' with z | ⟨l, p0, m0, r0, q1, q2, q3, q4, q5, q6⟩
      · exact .inl z
      · refine .inr ⟨l, p0, m0, r0, by omega, q2, q3, q4, q5, fun k hk j j0 j1 => ?_⟩
        rw [a0, a1]
        by_cases z : k = κ
        · rw [if_pos z, if_pos z]
          have := (q5.2.2.2.2.2.2.1.2.1 j j0 j1).1
          exact .inl (by omega)
        · rw [if_neg z, if_neg z]
          exact q6 k (by omega) j j0 j1
    have In : INq K' p m q r (κ + 1) G R0' R1' hc' hr' := ⟨U', LL', PT', Pk'', Gn', X', rf', e87', Lt''⟩
    have i : ∀ x j, x < 448 → ¬ (x = 11 ∨ x = 12 ∨ x = 13 ∨ x = 16 ∨ x = 17 ∨ (x = 9 ∧ (j = 5 ∨ j = 1)) ∨ (x = 15 ∧ 2 ≤ j ∧ j ≤ 10) ∨ (x = 48 ∧ j = 4)) → hI hc' x j = hI hc x j := fun x j hx hj => (fc x (by omega)).2.2.2 j hj
    have s : ∀ x, x < 448 → ¬ (9 ≤ x ∧ x ≤ 13) → ¬ (15 ≤ x ∧ x ≤ 17) → x ≠ 48 → x ≠ 50 → sm hc hc' x := fun x hx h1 h2 h3 h4 => by
      obtain ⟨z1, z2, z3, z4⟩ := fc x (by omega)
      exact ⟨fun j => z4 j (by omega), fun j => z3 j (by omega), z1, z2⟩
    refine ⟨v, hc', hr', e1, e2, ⟨K', p, m, q, r, κ + 1, G, R0', R1', In, ?_, ?_, by omega, ?_⟩, fun x j x1 x2 => ⟨i x j (by omega) (by omega), jq.2 x (by omega) j⟩, ⟨⟨?_, ?_, ?_, ?_, y1⟩, fun x j hx => y3 x j (by omega)⟩⟩
    · exact RQ_g Q tp lr nm q7 (fun x hx => s x (by omega) (by omega) (by omega) (by omega) (by omega)) ⟨(fc 16 (by omega)).1, (fc 16 (by omega)).2.1, (fc 17 (by omega)).1, (fc 17 (by omega)).2.1⟩ n1
    · exact SCL_g Sc ⟨(fc 6 (by omega)).1, (fc 6 (by omega)).2.1⟩ fl ⟨by rw [i 8 11 (by omega) (by omega), y3 395 56 (by omega)]; exact s3.1, by rw [i 8 12 (by omega) (by omega), y3 395 57 (by omega)]; exact s3.2.1, by rw [i 8 13 (by omega) (by omega), y3 395 58 (by omega)]; exact s3.2.2⟩ (i 8 9 (by omega) (by omega)) (y3 395 59 (by omega)) (fun c hcc => by rw [i 20 c (by omega) (by omega), y3 418 c (by omega)]; exact s5 c hcc) (i 8 10 (by omega) (by omega)) (y3 395 30 (by omega)) (y3 395 60 (by omega))
    · unfold ROq wtq at *
      rw [y3 395 28 (by omega)]
      omega
    · show hr'.2.2.2.1 = hr.2.2.2.1; rw [y2]
    · show hr'.2.2.2.2.1 = hr.2.2.2.2.1; rw [y2]
    · show hr'.2.2.2.2.2.1 = hr.2.2.2.2.2.1; rw [y2]
    · show hr'.2.2.2.2.2.2 = hr.2.2.2.2.2.2; rw [y2]
end OPW
