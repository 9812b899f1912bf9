/-! names: numberOf and the search of named -/
theorem wcmp_0 (x y : Int64) : wcmp x y = 0 ↔ x = y := by
  unfold wcmp lg_cmp
  by_cases h : x > y
  · rw [if_pos h]
    constructor
    · intro e; exact absurd e (by decide)
    · intro e
      subst e
      have := Int64.lt_iff_toInt_lt.mp h
      omega
  · rw [if_neg h]
    by_cases e : x = y
    · rw [if_pos e]
      exact ⟨fun _ => e, fun _ => rfl⟩
    · rw [if_neg e]
      constructor
      · intro c; exact absurd c (by decide)
      · intro c; exact absurd c e
section NMS
variable {hc hr : hS}
/-- the names of both sides, in the same order -/
def nmR (hc hr : hS) : Prop := nmcR hc hr ∧ ∀ i : Nat, (i : Int) < hI hc 15 2 → W2R (hI hc 16 i) (hJ hr 397 i)
/-- the number of the name with this key, -1 if there is none -/
def nix (hc : hS) (key : Int) : Int := ix (fun i => hI hc 16 i) key (hI hc 15 2).toNat
theorem nix_b (key : Int) : nix hc key = -1 ∨ (0 ≤ nix hc key ∧ nix hc key < hI hc 15 2) := by
  unfold nix
  rcases ix_b (fun i => hI hc 16 i) key (hI hc 15 2).toNat with e | ⟨j, e, h1, -⟩
  · exact .inl e
  · exact .inr ⟨by omega, by omega⟩
/-- a loop that searches, and hands the heap on with what it finds -/
theorem lp_ixh {f : Int → Option (Int ⊕ (Unit ⊕ (Int × hS)))} (g : Nat → Int) (n : Int) (c : Nat) (h : hS) (step : ∀ i : Nat, i < c → f (i : Int) = if g i = n then some (.inr (.inr ((i : Int), h))) else some (.inl ((i : Int) + 1))) (stop : f (c : Int) = some (.inr (.inl ()))) : ∀ (m i N : Nat), i + m = c → m < N → lp f N (i : Int) = some (if ixf g n i m = -1 then .inl () else .inr (ixf g n i m, h))
  | 0, i, N, h1, h2 => by
    obtain ⟨N, rfl⟩ : ∃ N1, N = N1 + 1 := ⟨N - 1, by omega⟩
    have : i = c := by omega
    subst this
    rw [lp_d stop]
    rfl
  | m + 1, i, N, h1, h2 => by
    obtain ⟨N, rfl⟩ : ∃ N1, N = N1 + 1 := ⟨N - 1, by omega⟩
    have hs := step i (by omega)
    unfold ixf
    by_cases q : g i = n
    · rw [if_pos q] at hs
      rw [lp_d hs, if_pos q, if_neg (by omega)]
    · rw [if_neg q] at hs
      rw [lp_n hs, if_neg q]
      have := lp_ixh g n c h step stop m (i + 1) N (by omega) (by omega)
      rw [show ((i : Int) + 1) = ((i + 1 : Nat) : Int) by omega]
      exact this
theorem c40_e (N : nmcR hc hr) (t16 : hT hc 16 = 1) (l16 : hL hc 16 = 40) (key : Int) : c40 key hc = some (if nix hc key = -1 then (if 40 ≤ hI hc 15 2 then (-1, hc) else (hI hc 15 2, sI (sI hc 16 (hI hc 15 2).toNat key) 15 2 (hI hc 15 2 + 1))) else (nix hc key, hc)) := by
  obtain ⟨n1, n2, n3⟩ := N
  unfold c40
  have ec : (((hI hc 15 2).toNat : Nat) : Int) = hI hc 15 2 := by omega
  have e := lp_ixh (f := fun s => c40_b2 key hc s) (fun i => hI hc 16 i) key (hI hc 15 2).toNat hc (by
    intro i hi
    show c40_b2 key hc i = _
    unfold c40_b2
    rw [if_neg (show ¬ hI hc 15 2 ≤ (i : Int) by omega), aIs_s (by omega) (by omega)]
    simp only [bsome, Int.toNat_natCast]
    rw [wadd_e (by omega) (by omega)]) (by
    show c40_b2 key hc _ = _
    unfold c40_b2
    rw [ec, if_pos (Int.le_refl _)]) (hI hc 15 2).toNat 0 hF0 (by omega) (hF0_lt (by omega))
  have e : lp (fun s => c40_b2 key hc s) hF0 0 = some (if nix hc key = -1 then .inl () else .inr (nix hc key, hc)) := e
  rw [e]
  simp only [bsome]
  by_cases q : nix hc key = -1
  · rw [if_pos q, if_pos q]
    show (if hI hc 15 2 < 40 then _ else some ((-1 : Int), hc)) = _
    by_cases b : 40 ≤ hI hc 15 2
    · rw [if_pos b, if_neg (show ¬ hI hc 15 2 < 40 by omega)]
    · rw [if_neg b, if_pos (show hI hc 15 2 < 40 by omega), wIs_s (by omega) (by omega)]
      simp only [bsome]
      have e2 : hI (sI hc 16 (hI hc 15 2).toNat key) 15 2 = hI hc 15 2 := by rw [hI_sI, if_neg (by omega)]
      have e3 : ∀ z, hI (sI (sI hc 16 (hI hc 15 2).toNat key) 15 2 z) 15 2 = z := fun z => by rw [hI_sI, if_pos ⟨rfl, rfl⟩]
      rw [e2, wadd_e (by omega) (by omega), e3, wsub_e (by omega) (by omega), show hI hc 15 2 + 1 - 1 = hI hc 15 2 by omega]
  · rw [if_neg q, if_neg q]
    rfl
theorem c196_s (N : nmR hc hr) {key : Int} (hk : W2R key (hJ hr 395 10)) : ∀ (m i K : Nat), (i : Int) + m = hI hc 15 2 → m < K → lp (fun s => c196_b16 hr s) K (i : Int) = some (if ixf (fun i => hI hc 16 i) key i m = -1 then hI hc 15 2 else ixf (fun i => hI hc 16 i) key i m)
  | 0, i, K, h1, h2 => by
    obtain ⟨K, rfl⟩ : ∃ K1, K = K1 + 1 := ⟨K - 1, by omega⟩
    obtain ⟨⟨n1, n2, n3⟩, n4⟩ := N
    rw [lp_d (r := (i : Int))]
    · show some (i : Int) = some (hI hc 15 2)
      rw [show (i : Int) = hI hc 15 2 by omega]
    · show c196_b16 hr i = _
      unfold c196_b16
      rw [← n1, if_pos (by omega)]
  | m + 1, i, K, h1, h2 => by
    obtain ⟨K, rfl⟩ : ∃ K1, K = K1 + 1 := ⟨K - 1, by omega⟩
    have N' := N
    obtain ⟨⟨n1, n2, n3⟩, n4⟩ := N
    have hi := W2R_iff (n4 i (by omega)) hk
    unfold ixf
    by_cases q : hI hc 16 i = key
    · rw [if_pos q, if_neg (show ¬ (i : Int) = -1 by omega), lp_d (r := (i : Int))]
      show c196_b16 hr i = _
      unfold c196_b16
      rw [← n1, if_neg (by omega), aJs_s (by omega) (by omega)]
      simp only [bsome, Int.toNat_natCast]
      rw [if_pos ((wcmp_0 _ _).mpr (hi.mp q))]
    · rw [if_neg q, lp_n (s' := ((i + 1 : Nat) : Int))]
      · exact c196_s N' hk m (i + 1) K (by omega) (by omega)
      · show c196_b16 hr i = _
        unfold c196_b16
        rw [← n1, if_neg (by omega), aJs_s (by omega) (by omega)]
        simp only [bsome, Int.toNat_natCast]
        rw [if_neg (fun c => q (hi.mpr ((wcmp_0 _ _).mp c))), wadd_e (by omega) (by omega)]
        rfl
end NMS
