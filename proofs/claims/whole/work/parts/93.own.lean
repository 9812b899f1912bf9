/-! own values and those above, on both sides -/
def hOw (h : hS) (w k n : Int) : Bool := decide (¬ (fIx h w k n = -1 ∧ sIx h w k n = -1))
def hAt (h : hS) (w k n : Int) : Int := clb (fun u => hOw h w u n) (fun u => wg h w u 1) 13 k
section OWN
variable {hc hr : hS} {C : Nat → Int → Prop} {p m : Nat} {w : Int} {r : Int → Nat} {j n : Int}
theorem ixF (K : KR hc hr C p w j) : ix (fun i => hI hc (kd hc p j + 1) i) n (wg hr w j 5).toNat = fIx hr w j n := ix_congr (fun i hi => (K.2.2.2.2.1.2 i (by omega)).1)
theorem ixS (K : KR hc hr C p w j) : ix (fun i => hI hc (kd hc p j + 4) i) n (wg hr w j 30).toNat = sIx hr w j n := ix_congr (fun i hi => (K.2.2.2.2.2.1.2 i (by omega)).1)
theorem ixA (K : KR hc hr C p w j) : ix (fun i => hI hc (kd hc p j + 6) i) n (wg hr w j 39).toNat = aIx hr w j n := ix_congr (fun i hi => (K.2.2.2.2.2.2.2 i (by omega)).1)
/-- the places of a field, a static, an act within a kind -/
theorem c80_w (P : PW hc hr C p w m r) (j0 : 0 ≤ j) (j1 : j < m) : c80 (kd hc p j) n hc = some (fIx hr w j n) := by
  have K := P.2.2.1 j j0 j1
  have W := P.1.2.2 j j0 j1
  unfold c80
  rw [gR_s K.1.2.2.1]
  simp only [bsome]
  rw [gI_s K.1.2.2.1]
  simp only [bsome]
  have e := c29_e (h := hc) (row := kd hc p j + 1) (c := (wg hr w j 5).toNat) (n := n) (KD5 K.1).2.1 (by rw [(KD5 K.1).2.2]; omega) (by omega)
  rw [(KD5 K.1).1, K.2.2.2.2.1.1, show wg hr w j 5 = (((wg hr w j 5).toNat : Nat) : Int) by omega, e, ixF K]
  rfl
theorem c81_w (P : PW hc hr C p w m r) (j0 : 0 ≤ j) (j1 : j < m) : c81 (kd hc p j) n hc = some (sIx hr w j n) := by
  have K := P.2.2.1 j j0 j1
  have W := P.1.2.2 j j0 j1
  unfold c81
  rw [gR_s K.1.2.2.1]
  simp only [bsome]
  rw [gI_s K.1.2.2.1]
  simp only [bsome]
  have e := c29_e (h := hc) (row := kd hc p j + 4) (c := (wg hr w j 30).toNat) (n := n) (KD9 K.1).2.1 (by rw [(KD9 K.1).2.2]; omega) (by omega)
  rw [(KD9 K.1).1, K.2.2.2.2.2.1.1, show wg hr w j 30 = (((wg hr w j 30).toNat : Nat) : Int) by omega, e, ixS K]
  rfl
theorem c29_a (P : PW hc hr C p w m r) (j0 : 0 ≤ j) (j1 : j < m) : c29 (kd hc p j + 6) (hI hc (kd hc p j) 11) n hc = some (aIx hr w j n) := by
  have K := P.2.2.1 j j0 j1
  have W := P.1.2.2 j j0 j1
  have e := c29_e (h := hc) (row := kd hc p j + 6) (c := (wg hr w j 39).toNat) (n := n) (KD12 K.1).2.1 (by rw [(KD12 K.1).2.2]; omega) (by omega)
  rw [K.2.2.2.2.2.2.1, show wg hr w j 39 = (((wg hr w j 39).toNat : Nat) : Int) by omega, e, ixA K]
theorem c61_w (P : PW hc hr C p w m r) (j0 : 0 ≤ j) (j1 : j < m) : c61 (kd hc p j) n hc = some (if hOw hr w j n = true then 1 else 0) := by
  have e1 := c80_w (n := n) P j0 j1
  have e2 := c81_w (n := n) P j0 j1
  have K := P.2.2.1 j j0 j1
  unfold c80 at e1
  unfold c81 at e2
  unfold c61
  rw [gR_s K.1.2.2.1] at e1 e2 ⊢
  simp only [bsome] at e1 e2 ⊢
  rw [gI_s K.1.2.2.1] at e1 e2 ⊢
  simp only [bsome] at e1 e2 ⊢
  obtain ⟨v, g1, g2⟩ := ob e1
  have g2 := Option.some.inj g2
  subst g2
  rw [g1]
  simp only [bsome]
  unfold hOw
  by_cases q : fIx hr w j n = -1
  · rw [if_pos q, gR_s K.1.2.2.1]
    simp only [bsome]
    rw [gI_s K.1.2.2.1]
    simp only [bsome]
    obtain ⟨v2, g3, g4⟩ := ob e2
    have g4 := Option.some.inj g4
    subst g4
    rw [g3]
    simp only [bsome]
    by_cases q2 : sIx hr w j n = -1
    · rw [if_pos q2, if_neg (by rw [decide_eq_true_eq]; exact fun c => c ⟨q, q2⟩)]
    · rw [if_neg q2, if_pos (by rw [decide_eq_true_eq]; exact fun c => q2 c.2)]
      rfl
  · rw [if_neg q, if_pos (by rw [decide_eq_true_eq]; exact fun c => q c.1)]
    rfl
theorem c206_h (W : WF hr w m r) (w0 : 0 ≤ w) (w1 : w < 3) (j0 : 0 ≤ j) (j1 : j < m) : c206 w j n hr = some (if hOw hr w j n = true then 1 else 0) := by
  rw [c206_w W w0 w1 j0 j1]
  unfold hOw
  by_cases q : fIx hr w j n = -1 ∧ sIx hr w j n = -1
  · rw [if_pos q, if_neg (by rw [decide_eq_true_eq]; exact fun c => c q)]
  · rw [if_neg q, if_pos (by rw [decide_eq_true_eq]; exact q)]
theorem kd_m {h : hS} : kd h p (-1) = 0 := rfl
/-- the class's climb -/
theorem c60_l (P : PW hc hr C p w m r) : ∀ (d N : Nat) (u : Int), (u = -1 ∨ ((0 ≤ u ∧ u < m) ∧ r u < d)) → d < N → lp (fun s => c60_b42 n hc s) N (kd hc p u) = some (if clb (fun u => hOw hr w u n) (fun u => wg hr w u 1) (d + 1) u = -1 then .inl () else .inr 4)
  | 0, N, u, hu, hN => by
    obtain ⟨N, rfl⟩ : ∃ N1, N = N1 + 1 := ⟨N - 1, by omega⟩
    rcases hu with rfl | ⟨-, h⟩
    · exact lp_d rfl
    · omega
  | d + 1, N, u, hu, hN => by
    obtain ⟨N, rfl⟩ : ∃ N1, N = N1 + 1 := ⟨N - 1, by omega⟩
    rcases hu with rfl | ⟨⟨u0, u1⟩, h⟩
    · exact lp_d rfl
    · have K := P.2.2.1 u u0 u1
      have up := (P.1.2.2 u u0 u1).2.1
      have e : c60_b42 n hc (kd hc p u) = if hOw hr w u n = true then some (.inr (.inr 4)) else some (.inl (kd hc p (wg hr w u 1))) := by
        unfold c60_b42
        rw [hnul_8 (by have := K.1.1; omega)]
        simp only [bsome]
        rw [if_neg (by decide), kT_s K.1.2.2.1]
        simp only [bsome]
        rw [c61_w P u0 u1]
        simp only [bsome]
        by_cases q : hOw hr w u n = true
        · rw [if_pos q, if_pos q, if_neg (by omega)]
        · rw [if_neg q, if_neg q, if_pos rfl, gR_s K.1.2.2.1]
          simp only [bsome]
          rw [K.2.2.1]
      show _ = some (if (if u = -1 then -1 else if hOw hr w u n = true then u else clb (fun u => hOw hr w u n) (fun u => wg hr w u 1) (d + 1) (wg hr w u 1)) = -1 then Sum.inl () else Sum.inr (4 : Int))
      rw [if_neg (show ¬ u = -1 by omega)]
      by_cases q : hOw hr w u n = true
      · rw [if_pos q] at e
        rw [if_pos q, if_neg (by omega)]
        exact lp_d e
      · rw [if_neg q] at e
        rw [if_neg q]
        have e' : (fun s => c60_b42 n hc s) (kd hc p u) = some (.inl (kd hc p (wg hr w u 1))) := e
        rw [lp_n e']
        exact c60_l P d N _ (by rcases up with q1 | ⟨q1, q2, q3⟩; exact .inl q1; exact .inr ⟨⟨q1, q2⟩, by omega⟩) (by omega)
theorem c209_l (W : WF hr w m r) (w0 : 0 ≤ w) (w1 : w < 3) : ∀ (d N : Nat) (u : Int), (u = -1 ∨ ((0 ≤ u ∧ u < m) ∧ r u < d)) → d < N → lp (fun s => c209_b9 w n hr s) N u = some (if clb (fun u => hOw hr w u n) (fun u => wg hr w u 1) (d + 1) u = -1 then .inl () else .inr 1)
  | 0, N, u, hu, hN => by
    obtain ⟨N, rfl⟩ : ∃ N1, N = N1 + 1 := ⟨N - 1, by omega⟩
    rcases hu with rfl | ⟨-, h⟩
    · exact lp_d rfl
    · omega
  | d + 1, N, u, hu, hN => by
    obtain ⟨N, rfl⟩ : ∃ N1, N = N1 + 1 := ⟨N - 1, by omega⟩
    rcases hu with rfl | ⟨⟨u0, u1⟩, h⟩
    · exact lp_d rfl
    · have up := (W.2.2 u u0 u1).2.1
      have hm := W.2.1
      have e : c209_b9 w n hr u = if hOw hr w u n = true then some (.inr (.inr 1)) else some (.inl (wg hr w u 1)) := by
        unfold c209_b9
        rw [if_neg (show ¬ u = -1 by omega), c206_h W w0 w1 u0 u1]
        simp only [bsome]
        by_cases q : hOw hr w u n = true
        · rw [if_pos q, if_pos q, if_neg (by omega)]
        · rw [if_neg q, if_neg q, if_pos rfl, c199_e w0 w1 u0 (by omega) (by omega) (by omega)]
          rfl
      show _ = some (if (if u = -1 then -1 else if hOw hr w u n = true then u else clb (fun u => hOw hr w u n) (fun u => wg hr w u 1) (d + 1) (wg hr w u 1)) = -1 then Sum.inl () else Sum.inr (1 : Int))
      rw [if_neg (show ¬ u = -1 by omega)]
      by_cases q : hOw hr w u n = true
      · rw [if_pos q] at e
        rw [if_pos q, if_neg (by omega)]
        exact lp_d e
      · rw [if_neg q] at e
        rw [if_neg q]
        have e' : (fun s => c209_b9 w n hr s) u = some (.inl (wg hr w u 1)) := e
        rw [lp_n e']
        exact c209_l W w0 w1 d N _ (by rcases up with q1 | ⟨q1, q2, q3⟩; exact .inl q1; exact .inr ⟨⟨q1, q2⟩, by omega⟩) (by omega)
theorem clb_n (P : Int → Bool) (up : Int → Int) : ∀ f, clb P up f (-1) = -1
  | 0 => rfl
  | _ + 1 => rfl
/-- isAbove: what stands above, not the kind's own -/
theorem c209_w (W : WF hr w m r) (w0 : 0 ≤ w) (w1 : w < 3) (j0 : 0 ≤ j) (j1 : j < m) : c209 w j n hr = some (if clb (fun u => hOw hr w u n) (fun u => wg hr w u 1) 13 (wg hr w j 1) = -1 then 0 else 1) := by
  have up := (W.2.2 j j0 j1).2.1
  have hm := W.2.1
  have l := c209_l (n := n) W w0 w1 12 hF0 (wg hr w j 1) (by rcases up with q1 | ⟨q1, q2, -⟩; exact .inl q1; exact .inr ⟨⟨q1, q2⟩, (W.2.2 _ q1 q2).1⟩) (hF0_lt (by omega))
  unfold c209
  rw [c199_e w0 w1 j0 (by omega) (by omega) (by omega)]
  simp only [bsome]
  rw [l]
  simp only [bsome]
  by_cases q : clb (fun u => hOw hr w u n) (fun u => wg hr w u 1) 13 (wg hr w j 1) = -1
  · rw [if_pos q, if_pos q]; rfl
  · rw [if_neg q, if_neg q]; rfl
/-- what a member told anew meets: 4 it is there, 5 there are too many, 0 it may come -/
def nwF (hr : hS) (w j s n : Int) : Int := if s = 205 then (if aIx hr w j n = -1 then (if wg hr w j 39 = 8 then 5 else 0) else 4) else if hAt hr w j n = -1 then (if s = 204 then (if wg hr w j 30 = 4 then 5 else 0) else (if wg hr w j 5 = 8 then 5 else 0)) else 4
theorem c60_w (P : PW hc hr C p w m r) (j0 : 0 ≤ j) (j1 : j < m) (s : Int) : c60 (kd hc p j) s n hc = some (nwF hr w j s n) := by
  have K := P.2.2.1 j j0 j1
  have W := P.1.2.2 j j0 j1
  unfold c60 nwF
  by_cases s5 : s = 205
  · rw [if_pos s5, if_pos s5, gR_s K.1.2.2.1]
    simp only [bsome]
    rw [gI_s K.1.2.2.1]
    simp only [bsome]
    rw [(KD12 K.1).1, c29_a P j0 j1]
    simp only [bsome]
    by_cases q : aIx hr w j n = -1
    · rw [if_pos q, if_pos q, K.2.2.2.2.2.2.1]
      by_cases q8 : wg hr w j 39 = 8
      · rw [if_neg (by omega), if_pos q8]
      · rw [if_pos (by omega), if_neg q8]
    · rw [if_neg q, if_neg q]
  · rw [if_neg s5, if_neg s5]
    have l := c60_l (n := n) P 12 hF0 j (.inr ⟨⟨j0, j1⟩, W.1⟩) (hF0_lt (by omega))
    have l : lp (fun s => c60_b42 n hc s) hF0 (kd hc p j) = some (if hAt hr w j n = -1 then .inl () else .inr 4) := l
    rw [l]
    simp only [bsome]
    by_cases q : hAt hr w j n = -1
    · rw [if_pos q, if_pos q, xs_il]
      by_cases s4 : s = 204
      · rw [if_pos s4, if_pos s4, gI_s K.1.2.2.1]
        simp only [bsome]
        rw [K.2.2.2.2.2.1.1]
        by_cases q4 : wg hr w j 30 = 4
        · rw [if_neg (by omega), if_pos q4]; rfl
        · rw [if_pos (by omega), if_neg q4]; rfl
      · rw [if_neg s4, if_neg s4, gI_s K.1.2.2.1]
        simp only [bsome]
        rw [K.2.2.2.2.1.1]
        by_cases q4 : wg hr w j 5 = 8
        · rw [if_neg (by omega), if_pos q4]; rfl
        · rw [if_pos (by omega), if_neg q4]; rfl
    · rw [if_neg q, if_neg q, xs_ir]
theorem hAt_st (W : WF hr w m r) (j0 : 0 ≤ j) (j1 : j < m) : hAt hr w j n = if hOw hr w j n = true then j else clb (fun u => hOw hr w u n) (fun u => wg hr w u 1) 13 (wg hr w j 1) := clb_st W (fun u => hOw hr w u n) j0 j1
end OWN
