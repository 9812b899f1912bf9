/-! create and pond: what more is known of what they leave -/
section CR3
variable {hc hr : hS} {C : Nat → Int → Prop} {p m q : Nat} {r : Int → Nat}
theorem api8b (S : SH hc) (P : PW hc hr C p 0 m r) (L : CL hr 0 m) (R : CR hc hr p m q) (hp : hR hc 8 7 = p) (hp2 : p = 213 ∨ 448 ≤ p) (n : Int) : ∃ v hc' hr' q', c100 n hc = some (v, hc') ∧ c236 n hr = some (v, hr') ∧ CR hc' hr' p m q' ∧ ((q' = q ∧ hc' = hc ∧ hr' = hr) ∨ (q' = q + 1 ∧ q < 40 ∧ hI hc' 20 q = 3 ∧ hI hr' 418 q = 3 ∧ hI hc' (215 + 4 * q) 1 = 1)) ∧ chg (fun x => x = 8 ∨ x = 20 ∨ (215 + 4 * q ≤ x ∧ x < 215 + 4 * q + 4)) hc hc' ∧ (∀ j, j ≠ 8 → hI hc' 8 j = hI hc 8 j) ∧ (∀ j, hR hc' 8 j = hR hc 8 j) ∧ (∀ j, j ≠ q → hI hc' 20 j = hI hc 20 j) ∧ SH hc' ∧ fp (fun x j => (x = 395 ∧ j = 33) ∨ (x = 403 ∧ j = q) ∨ (x = 404 ∧ j = q) ∨ x = 405 ∨ x = 407 ∨ (x = 418 ∧ j = q)) hr hr' ∧ ∀ x j, (x = 405 ∨ x = 407) → j < 1600 → ¬ (40 * q ≤ j ∧ j < 40 * q + 40) → hI hr' x j = hI hr x j := by
  obtain ⟨p1, p2, p3, p4, p5, p6, p7⟩ := P.2.1
  have hm := P.1.2.1
  obtain ⟨r1, r2, r3, r4⟩ := R
  unfold c100 c236
  rw [hp, kT_s p3]
  simp only [bsome]
  rw [c47_e P, c197_e (m := m) (by omega) (by omega) P.1.1 P.1.2.1]
  simp only [bsome]
  rcases ix_kind P n with e | ⟨k0, k1⟩
  · rw [e]
    simp only [kd, if_true, hnul_0, bsome]
    exact ⟨_, _, _, q, rfl, rfl, ⟨r1, r2, r3, r4⟩, .inl ⟨rfl, rfl, rfl⟩, chg_rf, fun _ _ => rfl, fun _ => rfl, fun _ _ => rfl, S, fp_rf, fun _ _ _ _ _ => rfl⟩
  · generalize ix (fun j : Nat => wg hr 0 (j : Int) 0) n m = u at k0 k1
    have K := P.2.2.1 u k0 k1
    have K8 := kd_8 P k0 k1
    rw [hnul_8 (by omega), if_neg (show ¬ u = -1 by omega)]
    simp only [bsome]
    rw [if_neg (show ¬ (false = true) by simp), r1, r2]
    by_cases hq : q = 40
    · rw [if_neg (by omega), if_pos (by omega)]
      exact ⟨_, _, _, q, rfl, rfl, ⟨r1, r2, r3, r4⟩, .inl ⟨rfl, rfl, rfl⟩, chg_rf, fun _ _ => rfl, fun _ => rfl, fun _ _ => rfl, S, fp_rf, fun _ _ _ _ _ => rfl⟩
    · rw [if_pos (by omega), if_neg (by omega), aRs_s (by omega) (by omega)]
      simp only [bsome, Int.toNat_natCast]
      obtain ⟨s1, sc⟩ := S.1 q (by omega)
      rw [s1, kT_s sc.1]
      simp only [bsome]
      -- the class comes to life
      have hA : ∃ hA, c101 (215 + 4 * q) (kd hc p u) hc = some hA ∧ chg (fun x => 215 ≤ x ∧ x < 375) hc hA ∧ SH hA ∧ (∀ x, 215 + 4 * q ≤ x ∧ x < 215 + 4 * q + 4 ∨ (hI hA x = hI hc x ∧ hR hA x = hR hc x)) ∧ hI hA (215 + 4 * q) 1 = 1 ∧ hR hA (215 + 4 * q) 2 = kd hc p u ∧ ∀ i : Nat, i < 40 → hI hA (215 + 4 * q + 2) i = 0 ∧ (fAt hr 0 u i ≠ -1 → hI hA (215 + 4 * q + 1) i = fV hr 0 u i) := by
        have x0 := sc
        obtain ⟨x2, x3, x4, x5, ⟨t1, t2, t3⟩, ⟨l1, l2, l3⟩, x6⟩ := sc
        unfold c101
        rw [pI_s x2]
        simp only [bsome]
        rw [pR_s (show hT (sI hc (215 + 4 * q) 1 1) (215 + 4 * q) = 16 from x2)]
        simp only [bsome]
        generalize hh2 : sR (sI hc (215 + 4 * q) 1 1) (215 + 4 * q) 2 (kd hc p u) = h2
        have ch2 : chg (fun x => x = 215 + 4 * q) hc h2 := by rw [← hh2]; exact chg_tr (chg_sI rfl) (chg_sR rfl)
        have SC2 : SHc h2 (215 + 4 * q) q := by
          rw [← hh2]
          refine ⟨x2, ?_, ?_, ?_, ⟨t1, t2, t3⟩, ⟨l1, l2, l3⟩, ?_⟩
          · rw [hR_sR, if_neg (by omega)]; exact x3
          · rw [hR_sR, if_neg (by omega)]; exact x4
          · rw [hR_sR, if_neg (by omega)]; exact x5
          · rw [hI_sR, hI_sI, if_neg (by omega)]; exact x6
        obtain ⟨h3, g1, g2, g3⟩ := c101_lo (c := q) (by omega) SC2 40 0 hF0 h2 (by omega) (hF0_lt (by omega)) fp_rf
        have g1 : lp (fun s => c101_b12 (215 + 4 * q) s.1 s.2) hF0 (0, h2) = some h3 := g1
        rw [g1]
        simp only [bsome]
        have ch3 : chg (fun x => x = 215 + 4 * q ∨ x = 215 + 4 * q + 2) hc h3 := chg_tr (chg_mono ch2 (fun x e => .inl e)) (chg_fp g2 (fun x j e => .inr e))
        have P3 : PW h3 hr C p 0 m r := PW_cg P (chg_same ch3 (by rintro x ⟨e1 | e1 | ⟨e1, -⟩, e2⟩ <;> omega)) (by rw [ch3.2.2.2.1]; omega) (fun _ _ => rfl) rfl (fun _ _ x => x)
        have hk3 : kd h3 p u = kd hc p u := kd_cg P (chg_same ch3 (by rintro x ⟨e1 | e1 | ⟨e1, -⟩, e2⟩ <;> omega)) u
        have SC3 : SHc h3 (215 + 4 * q) q := by
          obtain ⟨y2, y3, y4, y5, y6, y7, y8⟩ := SC2
          have eR : hR h3 = hR h2 := by show h3.2.1 = h2.2.1; rw [g2.1]
          have eT : hT h3 = hT h2 := by show h3.2.2.2.1 = h2.2.2.2.1; rw [g2.1]
          have eL : hL h3 = hL h2 := by show h3.2.2.2.2.1 = h2.2.2.2.2.1; rw [g2.1]
          unfold SHc
          rw [eR, eT, eL, g2.2 (215 + 4 * q) 0 (by omega)]
          exact ⟨y2, y3, y4, y5, y6, y7, y8⟩
        obtain ⟨h4, q1, q2, q3⟩ := c101_ch (c := q) P3 L (by omega) (by omega) SC3 12 hF0 u h3 (.inr ⟨⟨k0, k1⟩, (P.1.2.2 u k0 k1).1⟩) (hF0_lt (by omega)) fp_rf
        rw [hk3] at q1
        rw [q1]
        simp only [bsome]
        have ch4 : chg (fun x => x = 215 + 4 * q ∨ x = 215 + 4 * q + 2 ∨ x = 215 + 4 * q + 1) hc h4 := chg_tr (chg_mono ch3 (fun x e => by omega)) (chg_fp q2 (fun x j e => .inr (.inr e)))
        have eR4 : hR h4 = hR h2 := by
          have a1 : hR h4 = hR h3 := by show h4.2.1 = h3.2.1; rw [q2.1]
          have a2 : hR h3 = hR h2 := by show h3.2.1 = h2.2.1; rw [g2.1]
          rw [a1, a2]
        have eI0 : ∀ j, hI h4 (215 + 4 * q) j = hI h2 (215 + 4 * q) j := fun j => by rw [q2.2 _ j (by omega), g2.2 _ j (by omega)]
        refine ⟨h4, rfl, chg_mono ch4 (fun x e => by omega), ?_, ?_, ?_, ?_, ?_⟩
        · refine SH_cg S ?_ ch4.2.1 ch4.2.2.1 ?_ ?_
          · intro x j e
            exact (ch4.2.2.2.2.2 x (by omega) j).2
          · intro x j e1 e2 e3
            rw [eR4, ← hh2, hR_sR, if_neg (by omega)]
            rfl
          · intro c hc40
            refine ⟨?_, (ch4.2.2.2.2.2 (53 + 4 * c) (by omega) 0).1⟩
            by_cases e : c = q
            · rw [e, eI0, ← hh2, hI_sR, hI_sI, if_neg (by omega)]
            · exact (ch4.2.2.2.2.2 (215 + 4 * c) (by omega) 0).1
        · intro x
          by_cases e : 215 + 4 * q ≤ x ∧ x < 215 + 4 * q + 4
          · exact .inl e
          · exact .inr ⟨funext fun j => (ch4.2.2.2.2.2 x (by omega) j).1, funext fun j => (ch4.2.2.2.2.2 x (by omega) j).2⟩
        · rw [eI0, ← hh2, hI_sR, hI_sI, if_pos ⟨rfl, rfl⟩]
        · rw [eR4, ← hh2, hR_sR, if_pos ⟨rfl, rfl⟩]
        · intro i hi
          refine ⟨?_, fun e => ?_⟩
          · rw [q2.2 _ i (by omega), g3 i hi, if_pos (by omega)]
          · rw [q3 i hi, if_neg e]
      obtain ⟨hA, a1, a2, a3, a4, a5, a6, a7⟩ := hA
      rw [a1]
      simp only [bsome]
      have b88 : hI hA 8 8 = q := by rw [(a2.2.2.2.2.2 8 (by omega) 8).1]; exact r1
      rw [b88, wIs_s (by omega) (by omega)]
      simp only [bsome, Int.toNat_natCast]
      have b88' : hI (sI hA 20 q 3) 8 8 = q := by rw [hI_sI, if_neg (by omega)]; exact b88
      rw [b88', wadd_e (by omega) (by omega)]
      have b88'' : hI (sI (sI hA 20 q 3) 8 8 ((q : Int) + 1)) 8 8 = (q : Int) + 1 := by rw [hI_sI, if_pos ⟨rfl, rfl⟩]
      rw [b88'', wsub_e (by omega) (by omega)]
      -- the other side
      have d33 : hI (sI hr 395 33 ((q : Int) + 1)) 395 33 = (q : Int) + 1 := by rw [hI_sI, if_pos ⟨rfl, rfl⟩]
      rw [wIs_s (by omega) (by omega)]
      simp only [bsome, Int.toNat_natCast]
      rw [wIs_s (by omega) (by omega), wbol_1]
      simp only [bsome, Int.toNat_natCast]
      generalize hb0 : sI (sI (sI hr 395 33 ((q : Int) + 1)) 403 q 1) 404 q u = hB
      have f0 : fp (fun x j => (x = 395 ∧ j = 33) ∨ (x = 403 ∧ j = q) ∨ (x = 404 ∧ j = q)) hr hB := by
        rw [← hb0]
        exact fp_tr (fp_tr (fp_sI (.inl ⟨rfl, rfl⟩)) (fp_sI (.inr (.inl ⟨rfl, rfl⟩)))) (fp_sI (.inr (.inr ⟨rfl, rfl⟩)))
      have ewB : ∀ k f, wg hB 0 k f = wg hr 0 k f := fun k f => f0.2 400 _ (by omega)
      have emB : wm hB 0 = wm hr 0 := f0.2 400 _ (by omega)
      obtain ⟨hD, g1, g2, g3⟩ := c236_l (hr := hB) (c := q) (by omega) (WF_cg P.1 ewB emB) k0 k1 40 0 hF0 hB (by omega) (hF0_lt (by omega)) fp_rf
      have g1 : lp (fun s => c236_b55 u q s.1 s.2) hF0 (0, hB) = some hD := g1
      rw [g1]
      simp only [bsome]
      rw [wIs_s (by omega) (by omega)]
      simp only [bsome, Int.toNat_natCast]
      have fD : fp (fun x j => (x = 395 ∧ j = 33) ∨ (x = 403 ∧ j = q) ∨ (x = 404 ∧ j = q) ∨ x = 405 ∨ x = 407 ∨ (x = 418 ∧ j = q)) hr (sI hD 418 q 3) := by
        refine fp_tr (fp_tr ⟨f0.1, fun x j e => f0.2 x j (by omega)⟩ ⟨g2.1, fun x j e => g2.2 x j (by omega)⟩) (fp_sI (by omega))
      have ewD : ∀ k f, wg (sI hD 418 q 3) 0 k f = wg hr 0 k f := fun k f => fD.2 400 _ (by omega)
      have hkA : ∀ v, kd (sI (sI hA 20 q 3) 8 8 ((q : Int) + 1)) p v = kd hc p v := fun v => by
        unfold kd
        split
        · rfl
        · exact (a2.2.2.2.2.2 (p + 1) (by omega) _).2
      refine ⟨_, _, _, q + 1, rfl, by rw [show (q : Int) + 1 - 1 = q by omega], ?_, .inr ⟨rfl, by omega, ?_, ?_, ?_⟩, ?_, ?_, ?_, ?_, ?_, ?_, fun x j hx hj hn => ?_⟩
      · refine ⟨by rw [b88'']; omega, ?_, by omega, fun c hc40 => ?_⟩
        · rw [hI_sI, if_neg (by omega), g2.2 395 33 (by omega), ← hb0, hI_sI, if_neg (by omega), hI_sI, if_neg (by omega), d33]
          omega
        · obtain ⟨u1, u2, u3, u4⟩ := r4 c hc40
          have e403 : ∀ c', hI (sI hD 418 q 3) 403 c' = if c' = q then 1 else hI hr 403 c' := fun c' => by
            have t1 : hI (sI hD 418 q 3) 403 c' = hI hB 403 c' := by
              rw [hI_sI, if_neg (by omega)]
              exact g2.2 403 c' (by omega)
            rw [t1, ← hb0]
            by_cases cc : c' = q
            · rw [if_pos cc, hI_sI, if_neg (by omega), hI_sI, if_pos ⟨rfl, cc⟩]
            · rw [if_neg cc, hI_sI, if_neg (by omega), hI_sI, if_neg (by omega), hI_sI, if_neg (by omega)]
          have e404 : ∀ c', hI (sI hD 418 q 3) 404 c' = if c' = q then u else hI hr 404 c' := fun c' => by
            have t1 : hI (sI hD 418 q 3) 404 c' = hI hB 404 c' := by
              rw [hI_sI, if_neg (by omega)]
              exact g2.2 404 c' (by omega)
            rw [t1, ← hb0]
            by_cases cc : c' = q
            · rw [if_pos cc, hI_sI, if_pos ⟨rfl, cc⟩]
            · rw [if_neg cc, hI_sI, if_neg (by omega), hI_sI, if_neg (by omega), hI_sI, if_neg (by omega)]
          have eC : ∀ x j, x ≠ 20 → x ≠ 8 → hI (sI (sI hA 20 q 3) 8 8 ((q : Int) + 1)) x j = hI hA x j := fun x j x1 x2 => by
            rw [hI_sI, if_neg (by omega), hI_sI, if_neg (by omega)]
          rw [eC _ _ (by omega) (by omega), e403]
          by_cases hcq : c = q
          · subst hcq
            rw [a5, if_pos rfl]
            refine ⟨.inr rfl, fun _ => rfl, fun h => by omega, fun _ => ?_⟩
            unfold C1
            rw [e404, if_pos rfl, hkA]
            refine ⟨⟨k0, k1, a6⟩, fun i hi => ?_⟩
            obtain ⟨a71, a72⟩ := a7 i hi
            obtain ⟨g4, g5⟩ := g3 (40 * c + i) (by omega)
            have z405 : hI (sI hD 418 c 3) 405 (40 * c + i) = if fAt hr 0 u i = -1 then 0 else fV hr 0 u i := by
              have t1 : hI (sI hD 418 c 3) 405 (40 * c + i) = hI hD 405 (40 * c + i) := by rw [hI_sI, if_neg (by omega)]
              rw [t1, g4, if_pos (by omega), show 40 * c + i - 40 * c = i by omega, fAt_cg ewB]
              unfold fV
              rw [fAt_cg ewB, fIx_cg ewB, ewB]
            have z407 : hI (sI hD 418 c 3) 407 (40 * c + i) = 0 := by
              have t1 : hI (sI hD 418 c 3) 407 (40 * c + i) = hI hD 407 (40 * c + i) := by rw [hI_sI, if_neg (by omega)]
              rw [t1, g5, if_pos (by omega)]
            rw [fAt_cg ewD, eC _ _ (by omega) (by omega), eC _ _ (by omega) (by omega), eC _ _ (by omega) (by omega), a71, z405, z407]
            refine ⟨fun h => ?_, .inl rfl, rfl, fun h => by omega⟩
            rw [a72 h, if_neg h]
          · rcases a4 (215 + 4 * c) with hx | ⟨hx, hx2⟩
            · omega
            rw [hx, if_neg hcq]
            refine ⟨u1, fun h => u2 (by omega), fun h => u3 (by omega), fun h1 => ?_⟩
            obtain ⟨⟨x1, x2, x3⟩, x4⟩ := u4 h1
            unfold C1
            rw [e404, if_neg hcq, hkA]
            have eR : hR (sI (sI hA 20 q 3) 8 8 ((q : Int) + 1)) (215 + 4 * c) 2 = hR hc (215 + 4 * c) 2 := by
              show hR hA (215 + 4 * c) 2 = _
              rw [hx2]
            refine ⟨⟨x1, x2, by rw [eR]; exact x3⟩, fun i hi => ?_⟩
            obtain ⟨y1, y2, y3, y4⟩ := x4 i hi
            obtain ⟨g4, g5⟩ := g3 (40 * c + i) (by omega)
            have eo : ∀ o : Nat, o ≤ 3 → hI hA (215 + 4 * c + o) = hI hc (215 + 4 * c + o) := fun o ho => by
              rcases a4 (215 + 4 * c + o) with hx | ⟨hx, -⟩
              · omega
              · exact hx
            have e405 : hI (sI hD 418 q 3) 405 (40 * c + i) = hI hr 405 (40 * c + i) := by
              rw [hI_sI, if_neg (by omega), g4, if_neg (by omega)]
              exact f0.2 405 _ (by omega)
            have e407 : hI (sI hD 418 q 3) 407 (40 * c + i) = hI hr 407 (40 * c + i) := by
              rw [hI_sI, if_neg (by omega), g5, if_neg (by omega)]
              exact f0.2 407 _ (by omega)
            have e406 : hI (sI hD 418 q 3) 406 (40 * c + i) = hI hr 406 (40 * c + i) := fD.2 406 _ (by omega)
            rw [fAt_cg ewD, eC _ _ (by omega) (by omega), eC _ _ (by omega) (by omega), eC _ _ (by omega) (by omega), eo 1 (by omega), eo 2 (by omega), eo 3 (by omega), e405, e406, e407]
            exact ⟨y1, y2, y3, y4⟩
      · rw [hI_sI, if_neg (by omega), hI_sI, if_pos ⟨rfl, rfl⟩]
      · rw [hI_sI, if_pos ⟨rfl, rfl⟩]
      · rw [hI_sI, if_neg (by omega), hI_sI, if_neg (by omega)]
        exact a5
      · have a2' : chg (fun x => 215 + 4 * q ≤ x ∧ x < 215 + 4 * q + 4) hc hA := ⟨a2.1, a2.2.1, a2.2.2.1, a2.2.2.2.1, a2.2.2.2.2.1, fun x hx j => by
          rcases a4 x with z | ⟨z1, z2⟩
          · exact absurd z hx
          · rw [z1, z2]
            exact ⟨rfl, rfl⟩⟩
        exact chg_tr (chg_mono a2' (fun x e => .inr (.inr e))) (chg_tr (chg_sI (.inr (.inl rfl))) (chg_sI (.inl rfl)))
      · intro j hj
        rw [hI_sI, if_neg (by omega), hI_sI, if_neg (by omega)]
        exact (a2.2.2.2.2.2 8 (by omega) j).1
      · intro j
        exact (a2.2.2.2.2.2 8 (by omega) j).2
      · intro j hj
        rw [hI_sI, if_neg (by omega), hI_sI, if_neg (by omega)]
        exact (a2.2.2.2.2.2 20 (by omega) j).1
      · refine SH_cg a3 (fun _ _ _ => rfl) rfl rfl (fun _ _ _ _ _ => rfl) (fun c hc40 => ⟨?_, ?_⟩)
        · rw [hI_sI, if_neg (by omega), hI_sI, if_neg (by omega)]
        · rw [hI_sI, if_neg (by omega), hI_sI, if_neg (by omega)]
      · exact ⟨fD.1, fun x j e => fD.2 x j (by omega)⟩
      · obtain ⟨g4, g5⟩ := g3 j hj
        rcases hx with hx | hx
        · subst hx
          rw [hI_sI, if_neg (by omega), g4, if_neg (by omega)]
          exact f0.2 405 _ (by omega)
        · subst hx
          rw [hI_sI, if_neg (by omega), g5, if_neg (by omega)]
          exact f0.2 407 _ (by omega)
end CR3
section PNK2
variable {hc0 hr0 hc hr : hS} {n l mk p N0 M0 : Nat} {b : Nat → Int} {K : Nat → Int → Prop}
theorem pond_kb (h448 : 448 ≤ hN hc0) (hS0 : ∀ c : Nat, c < 40 → hR hc0 19 c = 215 + 4 * c ∧ hT hc0 (215 + 4 * c) = 16) (hS1 : ∀ c : Nat, c < 10 → hR hc0 21 c = 375 + 2 * c ∧ hT hc0 (375 + 2 * c) = 20) (f : FX hc0 hc) (fr : FY hr0 hr) (Q : MP n b N0 M0 l K p mk rN hc hr) (ep : p = hN hc0) (e9 : hI hc 9 1 = 0) : ∃ hc' hr', F41 p (1, hc) = some ((mk : Int), hc') ∧ G183 (1, hr) = some ((mk : Int), hr') ∧ EN hc' hr' ∧ PZ hc0 hr0 hc' hr' p mk K ∧ (∀ x v, K x v → ∀ j : Int, 0 ≤ j → j < mk → x < kd hc' p j ∨ kd hc' p j + 13 ≤ x) ∧ (∀ j : Int, 0 ≤ j → j < mk → hI hc' (kd hc' p j) 2 = 0) ∧ (∀ c n : Nat, c < 40 → hI hc' (217 + 4 * c) n = hI hc0 (217 + 4 * c) n) ∧ (hN hc' = hN hc ∧ hM hc' = hM hc) := by
  obtain ⟨W, Cf, ⟨hN0, hN1, hN2⟩, -⟩ := MP_BW Q
  obtain ⟨hl, hmk, e11, ⟨m, hm, e16, T⟩, Nm, Lr, e4, e5, e7⟩ := MP_room Q
  obtain ⟨h1, s1, s2, s3, s4, s5, s6⟩ := pond_s Q
  obtain ⟨h1', h', a1, a2, a3, ⟨n1, n2, n3, n4⟩, rF, iF, ⟨v1, v2, v3⟩, ⟨w1, w2, w3, w4, w5⟩, z1, z2⟩ := pond_c Q (fun c h => ⟨by rw [(f.2 19 (by omega)).2.2.1 c (by omega)]; exact (hS0 c h).1, by rw [(f.2 (215 + 4 * c) (by omega)).1]; exact (hS0 c h).2⟩) (fun c h => ⟨by rw [(f.2 21 (by omega)).2.2.1 c (by omega)]; exact (hS1 c h).1, by rw [(f.2 (375 + 2 * c) (by omega)).1]; exact (hS1 c h).2⟩)
  rw [s1] at a1
  obtain rfl := Option.some.inj a1
  obtain ⟨hr', b1, b2, b3, ⟨⟨b4, b5, b6⟩, x25, x27, x28, x29, x30, x33⟩, b8, b9, b10, b11⟩ := pond_g (m := m) (by omega) e11 e16
  have Wm : wm hr 1 = (mk : Int) := W.1.1.1
  have lowk := W.2.1
  have hp2 := W.1.2.1.2.1
  have c1 : ∀ x, x < p + 2 → (∀ j, hR h1 x j = hR hc x j) ∧ ∀ j, hI h1 x j = hI hc x j := fun x hx => by
    obtain ⟨y1, y2⟩ := s2.2.2.2.2 x (fun u u0 u1 => by have := lowk u u0 u1; omega)
    exact ⟨y1, fun j => y2 j (fun u u0 u1 => by have := lowk u u0 u1; omega)⟩
  have c2 : ∀ x, 395 ≤ x → sm h1 h' x := fun x hx => ⟨fun j => iF x j (fun z => by rcases z with z | z | ⟨-, c, z⟩ | ⟨-, c, z⟩ <;> omega), fun j => rF x j (by omega), by rw [n3], by rw [n4]⟩
  have c3 : ∀ x j, x < 215 → ¬ ((x = 8 ∧ (j = 8 ∨ j = 10)) ∨ (x = 48 ∧ (j = 4 ∨ j = 9))) → hI h' x j = hI hc x j := fun x j hx hj => by
    rw [iF x j (fun z => by rcases z with z | z | ⟨-, c, z⟩ | ⟨-, c, z⟩ <;> omega), (c1 x (by omega)).2 j]
  have eJ : ∀ x j, hJ hr' x j = hJ hr x j := fun x j => by
    show hr'.2.2.1 x j = hr.2.2.1 x j
    rw [b2]
  have ag : agw 0 mk hr hr' := fun k g k0 k1 g0 g1 => b10 k g k0 (by omega) g0 g1
  have hk1 : ∀ u, kd h1 p u = kd hc p u := gch_kd W s2
  have hk : ∀ u, kd h' p u = kd hc p u := fun u => by
    unfold kd
    split
    · rfl
    · rw [(c2 (p + 1) (by omega)).2.1, (c1 (p + 1) (by omega)).1]
  have T1 : hT h1 = hT hc := s2.2.2.1
  have L1 : hL h1 = hL hc := s2.2.2.2.1
  have N1 : hN h1 = hN hc := s2.1
  have M1 : hM h1 = hM hc := s2.2.1
  refine ⟨h', hr', a3, by rw [b1, Wm], ⟨⟨?_, ?_, fun i hi => ?_⟩, ⟨?_, fun i hi => ?_⟩, ?_, ⟨?_, ?_⟩, ?_⟩, ⟨⟨v1, ep⟩, ?_, ?_, CF_w ag W.1.1 Cf.1, fun j j0 j1 => ?_, ?_, ⟨v2, x33, z1⟩, fun l hl => ⟨z2 l hl, b8 l hl⟩, ⟨v3, x30⟩, ⟨w1, x25, w2, x28, w3, w4, x29, w5, x27⟩, ⟨⟨?_, ?_⟩, fun x hx => ⟨?_, ?_, fun j hj => ?_, fun j hj => ?_⟩⟩, ⟨?_, ?_, fun x j hx => ?_, fun x j hx => ?_⟩⟩, fun x v hx j j0 j1 => by rw [hk]; exact (W.2.2.2.1 x v hx).2.2 j j0 j1, fun j j0 j1 => by rw [hk, (c2 (kd hc p j) (by have := lowk j j0 j1; omega)).1]; exact s3 j j0 j1, fun c n hc => by
    rw [iF _ n (fun z => by rcases z with z | z | ⟨-, c', c40, z⟩ | ⟨-, c', c10, z⟩ <;> omega), (c1 _ (by omega)).2]
    exact (f.2 _ (by omega)).2.2.2 n (by omega), by omega, by omega⟩
  · rw [c3 9 1 (by omega) (by omega), e9, b4]
  · rw [c3 9 1 (by omega) (by omega)]; omega
  · rw [c3 9 1 (by omega) (by omega)] at hi; omega
  · rw [b3 395 9 (by omega)]; exact Lr.1
  · rw [eJ]; exact Lr.2 i hi
  · exact nmR_r (nmR_c Nm (c3 15 2 (by omega) (by omega)) (fun j => c3 16 j (by omega) (by omega))) (b3 395 7 (by omega)) (fun j => eJ 397 j)
  · rw [c3 15 4 (by omega) (by omega), e4, b5]
  · rw [c3 15 5 (by omega) (by omega), e5, b6]
  · rw [c3 15 7 (by omega) (by omega)]; exact e7
  · exact PW_w s5 ag b9 (fun x hx _ => c2 x (by omega)) (fun j j0 j1 => by have := lowk j j0 j1; rw [hk1]; omega) (by omega) (fun _ _ h => h)
  · exact TB_w W.1.1 ag hk (fun j j0 j1 o ho => by
      have := lowk j j0 j1
      have := c2 (kd hc p j + o) (by omega)
      exact ⟨this.1, this.2.1⟩) s4
  · obtain ⟨y1, y2⟩ := s6 j j0 j1
    have hlow := lowk j j0 j1
    obtain ⟨-, -, w5', -, -⟩ := W.1.1.2.2 j j0 j1
    rw [hk1] at y1
    refine ⟨?_, fun i hi => ?_⟩
    · rw [hk, (c2 (kd hc p j) (by omega)).1, ag j 3 j0 j1 (by omega) (by omega)]
      exact y1
    · rw [ag j 5 j0 j1 (by omega) (by omega)] at hi
      have y3 := y2 i hi
      rw [hk1] at y3
      rw [hk, (c2 (kd hc p j + 3) (by omega)).1, ag j _ j0 j1 (by omega) (by omega)]
      exact y3
  · intro x v hx
    obtain ⟨t1, t2, t3, C, t4, t5, t6⟩ := T x v hx
    obtain ⟨u1, u2, u3⟩ := W.2.2.2.1 x v hx
    obtain ⟨g1, g2⟩ := s2.2.2.2.2 x (fun u u0 u1 => by have := u3 u u0 u1; omega)
    have g3 : ∀ j, hI h1 x j = hI hc x j := fun j => g2 j (fun u u0 u1 => by have := u3 u u0 u1; omega)
    have g4 := c2 x (by omega)
    refine ⟨by omega, by omega, by rw [n3, T1]; exact t3, 0, v, C, by omega, BK_up (BK_c1 t4 (fun t ht j hj => b11 t ht j hj)) (by omega), ?_, ⟨by rw [n4, L1]; exact t5.1, t5.2⟩, fun i z hz => ?_⟩
    · by_cases c : v = -1
      · rw [if_pos c, c]
      · rw [if_neg c]; omega
    · rw [g4.1, g3]
      exact t6 i z hz
  · rw [n1, N1]; exact f.1.1
  · rw [n2, M1]; exact f.1.2
  · rw [n3, T1]; exact (f.2 x hx).1
  · rw [n4, L1]; exact (f.2 x hx).2.1
  · rw [rF x j (by omega), (c1 x (by omega)).1]
    exact (f.2 x hx).2.2.1 j (by omega)
  · rw [iF x j (fun z => by rcases z with z | z | ⟨z3, c, z⟩ | ⟨z3, c, z⟩ <;> omega), (c1 x (by omega)).2]
    exact (f.2 x hx).2.2.2 j (by omega)
  · rw [b2]; exact fr.1
  · rw [b2]; exact fr.2.1
  · rw [b3 x j (by omega)]
    exact fr.2.2.1 x j (by omega)
  · rw [eJ]
    exact fr.2.2.2 x j hx
end PNK2
section PNE2
variable {hc hr : hS}
theorem pond_eb (Q : RQ hc hr) (hS0 : ∀ c : Nat, c < 40 → hR hc 19 c = 215 + 4 * c ∧ hT hc (215 + 4 * c) = 16) (hS1 : ∀ c : Nat, c < 10 → hR hc 21 c = 375 + 2 * c ∧ hT hc (375 + 2 * c) = 20) : ∃ (v : Int) (hc' hr' : hS), c41 hc = some (v, hc') ∧ c183 hr = some (v, hr') ∧ EN hc' hr' ∧ ((v = -1 ∧ FX hc hc' ∧ FY2 hr hr') ∨ ∃ (mk : Nat) (K : Nat → Int → Prop), v = (mk : Int) ∧ PZ hc hr hc' hr' (hN hc) mk K ∧ (∀ x v, K x v → ∀ j : Int, 0 ≤ j → j < mk → x < kd hc' (hN hc) j ∨ kd hc' (hN hc) j + 13 ≤ x) ∧ (∀ j : Int, 0 ≤ j → j < mk → hI hc' (kd hc' (hN hc) j) 2 = 0) ∧ ∀ c n : Nat, c < 40 → hI hc' (217 + 4 * c) n = hI hc (217 + 4 * c) n) ∧ hN hc' ≤ hN hc + 1165 ∧ hM hc' ≤ hM hc + 13000 := by
  have h448 := Q.2.2.2.2.2.2.2
  obtain ⟨x, v3, y, n, b, e41, e183, E⟩ := pond_r Q
  rcases E with ⟨hc', hr', z1, z2, z3, z4, z5, z6, z7⟩ | ⟨hc1, hr1, l', K', mk', z1, z2, z3, z4, z5, z6⟩
  · rw [z1] at e41
    rw [z2] at e183
    refine ⟨-1, hc', _, e41.trans rfl, e183.trans ?_, tells_EN z5.1 z6 z7, .inl ⟨rfl, z3, tells_FY z4⟩, z5.2.1, z5.2.2⟩
    unfold G183
    refine bnd c224_e ?_
    exact if_pos rfl
  · rw [z1] at e41
    rw [z2] at e183
    obtain ⟨hc', hr', k1, k2, k3, k4, k4', k4'', k4a, k5, k6⟩ := pond_kb h448 hS0 hS1 z3 z4 z5 rfl z6
    obtain ⟨-, -, -, r1, r2⟩ := MP_BW z5
    obtain ⟨r3, r4, -⟩ := MP_room z5
    exact ⟨(mk' : Int), hc', hr', e41.trans k1, e183.trans k2, k3, .inr ⟨mk', K', rfl, k4, k4', k4'', k4a⟩, by omega, by omega⟩
end PNE2
