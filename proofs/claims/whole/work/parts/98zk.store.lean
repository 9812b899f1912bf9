/-! a value is written by both -/
section STO
variable {hc hr hc' hr' : hS} {K : Nat → Int → Prop} {p m q : Nat} {r : Int → Nat}
/-- values of creatures and statics of the pond's kinds alone are other -/
def SWc (p m : Nat) (h h' : hS) : Prop := fp (fun x _ => (215 ≤ x ∧ x < 375 ∧ (x - 215) % 4 ≠ 0 ∧ (x - 215) % 4 ≠ 2) ∨ ∃ j : Int, 0 ≤ j ∧ j < m ∧ x = kd h p j + 5) h h'
def SWr (h h' : hS) : Prop := fp (fun x j => x = 405 ∨ x = 406 ∨ (x = 400 ∧ j < 769 ∧ 35 ≤ (j + 63) % 64 ∧ (j + 63) % 64 < 39)) h h'
theorem RT_cre (R : RT hc hr K p m q r) {c N : Nat} {v : Int} (c40 : c < 40) (hN : N < 40) (lv : hI hc (215 + 4 * c) 1 = 1) (w : (fAt hr 0 (hI hr 404 c) N ≠ -1 ∧ hc' = sI hc (215 + 4 * c + 1) N v ∧ hr' = sI hr 405 (40 * c + N) v) ∨ (hc' = sI hc (215 + 4 * c + 3) N v ∧ hr' = sI hr 406 (40 * c + N) v)) : RT hc' hr' K p m q r := by
  obtain ⟨S, P, T, C, hp, D⟩ := R
  have a : chg (fun x => 215 ≤ x ∧ x < 375) hc hc' := by
    rcases w with ⟨-, w1, -⟩ | ⟨w1, -⟩
    · rw [w1]; exact chg_sI (by omega)
    · rw [w1]; exact chg_sI (by omega)
  have er : ∀ x j, x ≠ 405 → x ≠ 406 → hI hr' x j = hI hr x j := fun x j h1 h2 => by
    rcases w with ⟨-, -, w1⟩ | ⟨-, w1⟩
    · rw [w1, hI_sI, if_neg (by omega)]
    · rw [w1, hI_sI, if_neg (by omega)]
  have ew : ∀ k f, wg hr' 0 k f = wg hr 0 k f := fun k f => er 400 _ (by omega) (by omega)
  have em : wm hr' 0 = wm hr 0 := er 400 _ (by omega) (by omega)
  have sp : same (pnd hc p) hc hc' := chg_same a (fun x hx => by
    rcases hx.1 with z | z | ⟨z, -⟩ <;> omega)
  have eR : ∀ x j, hR hc' x j = hR hc x j := fun x j => by
    rcases w with ⟨-, w1, -⟩ | ⟨w1, -⟩ <;> rw [w1] <;> rfl
  have eI : ∀ x j, x ≠ 215 + 4 * c + 1 → x ≠ 215 + 4 * c + 3 → hI hc' x j = hI hc x j := fun x j h1 h2 => by
    rcases w with ⟨-, w1, -⟩ | ⟨w1, -⟩ <;> rw [w1, hI_sI, if_neg (by omega)]
  have hk : ∀ u, kd hc' p u = kd hc p u := kd_cg P sp
  refine ⟨SH_cg S (fun x j _ => eR x j) a.2.1 a.2.2.1 (fun x j _ _ _ => eR x j) (fun c' hc40 => ⟨eI _ 0 (by omega) (by omega), eI _ 0 (by omega) (by omega)⟩), PW_cg P sp (by rw [a.2.2.2.1]; exact Nat.le_refl _) ew em (fun _ _ h => h), TB_cg P T sp ew, ?_, hp, fun x v hx => ?_⟩
  · obtain ⟨r1, r2, r3, r4⟩ := C
    refine ⟨by rw [eI 8 8 (by omega) (by omega)]; exact r1, by rw [er 395 33 (by omega) (by omega)]; exact r2, r3, fun c' hc40 => ?_⟩
    obtain ⟨u1, u2, u3, u4⟩ := r4 c' hc40
    rw [eI (215 + 4 * c') 1 (by omega) (by omega), er 403 c' (by omega) (by omega)]
    refine ⟨u1, u2, u3, fun h1 => ?_⟩
    obtain ⟨⟨x1, x2, x3⟩, x4⟩ := u4 h1
    unfold C1
    rw [er 404 c' (by omega) (by omega), hk, eR]
    refine ⟨⟨x1, x2, x3⟩, fun i hi => ?_⟩
    obtain ⟨y1, y2, y3, y4⟩ := x4 i hi
    rw [fAt_cg ew, eI (215 + 4 * c' + 2) i (by omega) (by omega), er 407 _ (by omega) (by omega)]
    refine ⟨fun h2 => ?_, y2, y3, fun h2 => ?_⟩
    · rcases w with ⟨-, w1, w2⟩ | ⟨w1, w2⟩
      · rw [w1, w2, hI_sI, hI_sI]
        by_cases e : c' = c ∧ i = N
        · rw [if_pos (by omega), if_pos (by omega)]
        · rw [if_neg (by omega), if_neg (by omega)]
          exact y1 h2
      · rw [w1, w2, hI_sI, if_neg (by omega), hI_sI, if_neg (by omega)]
        exact y1 h2
    · rcases w with ⟨-, w1, w2⟩ | ⟨w1, w2⟩
      · rw [w1, w2, hI_sI, if_neg (by omega), hI_sI, if_neg (by omega)]
        exact y4 h2
      · rw [w1, w2, hI_sI, hI_sI]
        by_cases e : c' = c ∧ i = N
        · rw [if_pos (by omega), if_pos (by omega)]
        · rw [if_neg (by omega), if_neg (by omega)]
          exact y4 h2
  · obtain ⟨⟨d1, d2, d3⟩, d4⟩ := D x v hx
    exact ⟨⟨d1, by rw [a.2.2.2.1]; exact d2, by rw [a.2.1]; exact d3⟩, fun j j0 j1 => by rw [hk]; exact d4 j j0 j1⟩
/-- a static is written -/
theorem RT_sta (R : RT hc hr K p m q r) {u : Int} {i : Nat} {v : Int} (u0 : 0 ≤ u) (u1 : u < m) (hi : (i : Int) < wg hr 0 u 30) : RT (sI hc (kd hc p u + 5) i v) (wset hr 0 u (35 + i) v) K p m q r := by
  obtain ⟨S, P, T, C, hp, D⟩ := R
  have Q := P.2.2.1 u u0 u1
  obtain ⟨-, -, -, w4, -⟩ := P.1.2.2 u u0 u1
  have hm := P.1.2.1
  have h448 := Q.1.1
  have ewx : ∀ k f : Int, 0 ≤ k → k < m → 0 ≤ f → f < 64 → wg (wset hr 0 u (35 + i) v) 0 k f = if k = u ∧ f = 35 + (i : Int) then v else wg hr 0 k f := fun k f k0 k1 f0 f1 => by
    rw [wg_set (by omega) u0 (by omega) (by omega) (by omega) (by omega) k0 f0 f1 (by omega)]
    by_cases c : k = u ∧ f = 35 + (i : Int)
    · rw [if_pos ⟨rfl, c⟩, if_pos c]
    · rw [if_neg (fun z => c z.2), if_neg c]
  have em : wm (wset hr 0 u (35 + i) v) 0 = wm hr 0 := wm_set (by omega) u0 (by omega) (by omega) (by omega) (by omega)
  have er : ∀ x j, x ≠ 400 → hI (wset hr 0 u (35 + i) v) x j = hI hr x j := fun x j h1 => by
    unfold wset
    rw [hI_sI, if_neg (by omega)]
  generalize wset hr 0 u (35 + i) v = hr2 at *
  have ag : agx 0 0 m hr hr2 := fun k f k0 k1 f0 f1 hf => by rw [ewx k f k0 k1 f0 f1, if_neg (by omega)]
  have hkp : ∀ w, kd (sI hc (kd hc p u + 5) i v) p w = kd hc p w := fun _ => rfl
  have ne5 : ∀ j : Int, 0 ≤ j → j < m → ∀ o, o ≤ 12 → ¬ (j = u ∧ o = 5) → kd hc p j + o ≠ kd hc p u + 5 := fun j j0 j1 o ho hn => by
    by_cases c : j = u
    · rw [c]; omega
    · have := kd_ne P j0 j1 u0 u1 c
      omega
  have eI : ∀ x j, x ≠ kd hc p u + 5 → hI (sI hc (kd hc p u + 5) i v) x j = hI hc x j := fun x j h1 => by rw [hI_sI, if_neg (fun z => h1 z.1)]
  have np : p ≠ kd hc p u + 5 ∧ p + 1 ≠ kd hc p u + 5 := by
    obtain ⟨-, -, p3, -, p5, -⟩ := P.2.1
    have t5 := (KD10 Q.1).2.1
    refine ⟨fun z => ?_, fun z => ?_⟩
    · rw [← z, p3] at t5; omega
    · rw [← z, p5] at t5; omega
  refine ⟨⟨fun c hc40 => ?_, fun c hc40 => ?_⟩, ⟨WF_x ag P.1 em, ?_, fun j j0 j1 => ?_, fun a b a0 a1 b0 b1 => ?_⟩, fun j j0 j1 n hn => ?_, ?_, hp, fun x v' hx => D x v' hx⟩
  · obtain ⟨a1, a2, a3, a4, a5, a6, a7, a8⟩ := S.1 c hc40
    exact ⟨a1, a2, a3, a4, a5, a6, a7, by rw [eI _ 0 (by omega)]; exact a8⟩
  · obtain ⟨a1, a2, a3, a4, a5, a6, a7, a8⟩ := S.2 c hc40
    exact ⟨a1, a2, a3, a4, a5, a6, a7, by rw [eI _ 0 (by omega)]; exact a8⟩
  · obtain ⟨p1, p2, p3, p4, p5, p6, p7⟩ := P.2.1
    exact ⟨p1, p2, p3, p4, p5, p6, by rw [eI p 1 np.1]; exact p7⟩
  · obtain ⟨q1, q2, q3, q4, q5, q6, q7⟩ := P.2.2.1 j j0 j1
    obtain ⟨-, w2, w3, w4', w5⟩ := P.1.2.2 j j0 j1
    have k0 := ne5 j j0 j1 0 (by omega) (by omega)
    rw [Nat.add_zero] at k0
    refine ⟨q1, ?_, ?_, ?_, ?_, ?_, ?_⟩
    · rw [hkp, eI _ 0 k0, ewx j 0 j0 j1 (by omega) (by omega), if_neg (by omega)]; exact q2
    · rw [hkp, ewx j 1 j0 j1 (by omega) (by omega), if_neg (by omega), hkp]; exact q3
    · rw [hkp, eI _ 2 k0, ewx j 2 j0 j1 (by omega) (by omega), if_neg (by omega)]; exact q4
    · rw [hkp, eI _ 4 k0, ewx j 5 j0 j1 (by omega) (by omega), if_neg (by omega)]
      refine ⟨q5.1, fun t ht => ?_⟩
      rw [eI _ t (ne5 j j0 j1 1 (by omega) (by omega)), eI _ t (ne5 j j0 j1 2 (by omega) (by omega)), ewx j _ j0 j1 (by omega) (by omega), if_neg (by omega), ewx j _ j0 j1 (by omega) (by omega), if_neg (by omega)]
      exact q5.2 t ht
    · rw [hkp, eI _ 8 k0, ewx j 30 j0 j1 (by omega) (by omega), if_neg (by omega)]
      refine ⟨q6.1, fun t ht => ?_⟩
      obtain ⟨z1, z2, z3⟩ := q6.2 t ht
      rw [eI _ t (ne5 j j0 j1 4 (by omega) (by omega)), ewx j _ j0 j1 (by omega) (by omega), if_neg (by omega), ewx j _ j0 j1 (by omega) (by omega)]
      refine ⟨z1, ?_, z3⟩
      by_cases c : j = u
      · rw [c, hI_sI]
        by_cases c2 : t = i
        · rw [if_pos ⟨rfl, c2⟩, if_pos (by omega)]
        · rw [if_neg (fun z => c2 z.2), if_neg (by omega), ← c]
          exact z2
      · rw [eI _ t (ne5 j j0 j1 5 (by omega) (by omega)), if_neg (by omega)]
        exact z2
    · rw [hkp, eI _ 11 k0, ewx j 39 j0 j1 (by omega) (by omega), if_neg (by omega)]
      refine ⟨q7.1, fun t ht => ?_⟩
      rw [eI _ t (ne5 j j0 j1 6 (by omega) (by omega)), ewx j _ j0 j1 (by omega) (by omega), if_neg (by omega), ewx j _ j0 j1 (by omega) (by omega), if_neg (by omega)]
      exact q7.2 t ht
  · rw [ewx a 0 a0 a1 (by omega) (by omega), if_neg (by omega), ewx b 0 b0 b1 (by omega) (by omega), if_neg (by omega)]
    exact P.2.2.2 a b a0 a1 b0 b1
  · obtain ⟨t1, ⟨t2, t3⟩, t4, t5⟩ := T j j0 j1 n hn
    rw [fAt_x ag P.1 (.inr ⟨j0, j1⟩), sAt_x ag P.1 (.inr ⟨j0, j1⟩), aAt_x ag P.1 (.inr ⟨j0, j1⟩)]
    rw [hkp, hkp, hkp, eI _ n (ne5 j j0 j1 8 (by omega) (by omega)), eI _ n (ne5 j j0 j1 10 (by omega) (by omega)), eI _ n (ne5 j j0 j1 12 (by omega) (by omega))]
    refine ⟨t1, ⟨t2, fun h => ?_⟩, t4, fun h => ?_⟩
    · obtain ⟨⟨b0, b1⟩, -⟩ := (sAt_b (n := (n : Int)) P.1 (.inr ⟨j0, j1⟩)).resolve_left h
      rw [sIx_x ag P.1 b0 b1]
      exact t3 h
    · obtain ⟨⟨b0, b1⟩, -⟩ := (aAt_b (n := (n : Int)) P.1 (.inr ⟨j0, j1⟩)).resolve_left h
      rw [aIx_x ag P.1 b0 b1]
      exact t5 h
  · obtain ⟨r1, r2, r3, r4⟩ := C
    refine ⟨by rw [eI 8 8 (by omega)]; exact r1, by rw [er 395 33 (by omega)]; exact r2, r3, fun c' hc40 => ?_⟩
    obtain ⟨u1', u2, u3, u4⟩ := r4 c' hc40
    rw [eI (215 + 4 * c') 1 (by omega), er 403 c' (by omega)]
    refine ⟨u1', u2, u3, fun h1 => ?_⟩
    obtain ⟨⟨x1, x2, x3⟩, x4⟩ := u4 h1
    unfold C1
    rw [er 404 c' (by omega), hkp]
    refine ⟨⟨x1, x2, x3⟩, fun i' hi' => ?_⟩
    obtain ⟨y1, y2, y3, y4⟩ := x4 i' hi'
    rw [fAt_x ag P.1 (.inr ⟨x1, x2⟩), eI (215 + 4 * c' + 1) i' (by omega), eI (215 + 4 * c' + 2) i' (by omega), eI (215 + 4 * c' + 3) i' (by omega), er 405 _ (by omega), er 406 _ (by omega), er 407 _ (by omega)]
    exact ⟨y1, y2, y3, y4⟩
end STO
