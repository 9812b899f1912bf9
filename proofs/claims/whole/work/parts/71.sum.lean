/-! sum -/
section SUM
variable {hc hr : hS} {C : Nat → Int → Prop} {p m q : Nat} {r : Int → Nat}
theorem c181_l (S : SH hc) (P : PW hc hr C p 0 m r) (T : TB hc hr p 0 m) (R : CR hc hr p m q) (f : Int) : ∀ (k c N M : Nat) (t : Int64), c + k = q → k < N → k < M → ∃ v, lp (fun s => c181_b5 f hc s.1 s.2) N (t, (c : Int)) = some v ∧ lp (fun s => c249_b5 f hr s.1 s.2) M (t, (c : Int)) = some v
  | 0, c, N, M, t, e1, e2, e3 => by
    obtain ⟨N, rfl⟩ : ∃ N1, N = N1 + 1 := ⟨N - 1, by omega⟩
    obtain ⟨M, rfl⟩ : ∃ M1, M = M1 + 1 := ⟨M - 1, by omega⟩
    refine ⟨t, lp_d ?_, lp_d ?_⟩
    · show c181_b5 f hc t c = _
      unfold c181_b5
      rw [R.1, if_pos (by omega)]
    · show c249_b5 f hr t c = _
      unfold c249_b5
      rw [R.2.1, if_pos (by omega)]
  | k + 1, c, N, M, t, e1, e2, e3 => by
    obtain ⟨N, rfl⟩ : ∃ N1, N = N1 + 1 := ⟨N - 1, by omega⟩
    obtain ⟨M, rfl⟩ : ∃ M1, M = M1 + 1 := ⟨M - 1, by omega⟩
    have q40 := R.2.2.1
    have ec : wadd (c : Int) 1 = ((c + 1 : Nat) : Int) := by rw [wadd_e (by omega) (by omega)]; omega
    by_cases g : hsf hc hr c f = true
    · obtain ⟨a, b, d⟩ := hsf_b g
      obtain ⟨⟨⟨k0, k1, k2⟩, hv⟩, hq⟩ := lvs_1 R a
      simp only [Int.toNat_natCast] at k0 k1 k2 hv d
      obtain ⟨s1, s2, s3, s4, s5, ⟨t1, t2, t3⟩, ⟨l1, l2, l3⟩, -⟩ := S.1 c (by omega)
      have K := P.2.2.1 _ k0 k1
      have hf := (hv f.toNat (by omega)).1
      rw [show ((f.toNat : Nat) : Int) = f by omega] at hf
      obtain ⟨v, g1, g2⟩ := c181_l S P T R f k (c + 1) N M (t + wlng (hI hc (215 + 4 * c + 1) f.toNat)) (by omega) (by omega) (by omega)
      refine ⟨v, (lp_n (s' := (t + wlng (hI hc (215 + 4 * c + 1) f.toNat), ((c + 1 : Nat) : Int))) ?_).trans g1, (lp_n (s' := (t + wlng (hI hc (215 + 4 * c + 1) f.toNat), ((c + 1 : Nat) : Int))) ?_).trans g2⟩
      · show c181_b5 f hc t c = _
        unfold c181_b5
        rw [R.1, if_neg (by omega), c103_e S R, if_pos a]
        simp only [bsome]
        rw [if_neg (show ¬ (1 : Int) = 0 by omega), aRs_s (by omega) (by omega)]
        simp only [bsome, Int.toNat_natCast]
        rw [s1, gR_s s2]
        simp only [bsome]
        rw [k2, kT_s K.1.2.2.1]
        simp only [bsome]
        rw [c106_1 P T k0 k1 b d]
        simp only [bsome]
        rw [if_neg (show ¬ (1 : Int) = 0 by omega), gR_s s2]
        simp only [bsome]
        rw [s3, aI_s t1 (by omega) (by rw [l1]; omega), ec]
        rfl
      · show c249_b5 f hr t c = _
        unfold c249_b5
        rw [R.2.1, if_neg (by omega), c243_e P R, if_pos g]
        simp only [bsome]
        rw [if_neg (show ¬ (1 : Int) = 0 by omega), wmul_e (by omega) (by omega), wadd_e (x := 40 * (c : Int)) (by omega) (by omega), aIs_s (by omega) (by omega), ec]
        simp only [bsome]
        rw [show (40 * (c : Int) + f).toNat = 40 * c + f.toNat by omega, ← hf d]
    · obtain ⟨v, g1, g2⟩ := c181_l S P T R f k (c + 1) N M t (by omega) (by omega) (by omega)
      refine ⟨v, (lp_n (s' := (t, ((c + 1 : Nat) : Int))) ?_).trans g1, (lp_n (s' := (t, ((c + 1 : Nat) : Int))) ?_).trans g2⟩
      · show c181_b5 f hc t c = _
        unfold c181_b5
        rw [R.1, if_neg (by omega), c103_e S R]
        simp only [bsome]
        by_cases a : lvs hc c = true
        · obtain ⟨⟨⟨k0, k1, k2⟩, hv⟩, hq⟩ := lvs_1 R a
          simp only [Int.toNat_natCast] at k0 k1 k2 hv
          obtain ⟨s1, s2, s3, s4, s5, ⟨t1, t2, t3⟩, ⟨l1, l2, l3⟩, -⟩ := S.1 c (by omega)
          have K := P.2.2.1 _ k0 k1
          have d : ¬ ((0 ≤ f ∧ f < 40) ∧ fAt hr 0 (hI hr 404 c) f ≠ -1) := by
            rintro ⟨d1, d2⟩
            apply g
            unfold hsf
            simp [a, d1, d2]
          rw [if_pos a, if_neg (show ¬ (1 : Int) = 0 by omega), aRs_s (by omega) (by omega)]
          simp only [bsome, Int.toNat_natCast]
          rw [s1, gR_s s2]
          simp only [bsome]
          rw [k2, kT_s K.1.2.2.1]
          simp only [bsome]
          rw [c106_0 P T k0 k1 d]
          simp only [bsome]
          rw [if_pos trivial, ec]
        · rw [if_neg a, if_pos rfl, ec]
      · show c249_b5 f hr t c = _
        unfold c249_b5
        rw [R.2.1, if_neg (by omega), c243_e P R, if_neg g]
        simp only [bsome]
        rw [if_pos trivial, ec]
        show some (Sum.inl (t + 0, _)) = _
        rw [Int64.add_zero]
theorem api28 (S : SH hc) (P : PW hc hr C p 0 m r) (T : TB hc hr p 0 m) (R : CR hc hr p m q) (f : Int) : ∃ v, c181 f hc = some v ∧ c249 f hr = some v := by
  have q40 := R.2.2.1
  exact c181_l S P T R f q 0 hF0 hF0 (Int64.ofNat 0) (by omega) (hF0_lt (by omega)) (hF0_lt (by omega))
end SUM
