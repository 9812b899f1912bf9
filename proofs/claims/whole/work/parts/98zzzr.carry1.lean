/-! a patch is made: one field of one creature is carried -/
/-- what carrying the creatures rests on -/
def CAB (hZ tZ h0 : hS) (K : Nat → Int → Prop) (p P m0 m q : Nat) (r0 r : Int → Nat) (G : Int) (pt S A qq N0 tx pk : Nat) (us Lc : List Nat) (f : Int) : Prop := RT hZ tZ K p m0 q r0 ∧ NWq hZ tZ K P m r m0 G ∧ (CF tZ 0 m0 ∧ 448 ≤ P ∧ hN h0 = P) ∧ ((hT h0 pt = 26 ∧ hR h0 pt 0 = S ∧ pt < P) ∧ LSt h0 N0 S us A qq ∧ 448 ≤ N0 ∧ A < P ∧ us.length ≤ 600 ∧ 448 ≤ pt) ∧ (∀ x, x < P → sm h0 hZ x) ∧ (tx ≤ 6 ∧ pk < 6 ∧ hI tZ 401 pk = gf tx f ∧ LK (ntx tZ tx) Lc f ∧ (∀ i ∈ Lc, i < 1200) ∧ Lc.length ≤ 600 ∧ CHS (ntx tZ tx) h0 N0 0 Lc us) ∧ hI tZ 395 54 = 0 ∧ hT hZ 24 = 12 ∧ (hT hZ 52 = 1 ∧ hL hZ 52 = 40) ∧ (∀ c n, c < 40 → n < 40 → hI hZ (217 + 4 * c) n = 0 ∨ hI hZ (217 + 4 * c) n = 1) ∧ 0 ≤ G ∧ G ≤ 100000 ∧ hI hZ 48 9 = G - 1
/-- n's source -/
def srN (tZ : hS) (m : Nat) (old k : Int) (n : Nat) : Int := SRC tZ 1 0 m old (fAt tZ 1 k n) n
/-- creature c, of old, is being carried to kind k: the names of pr are done -/
def FIq (hZ tZ : hS) (h1 t1 : hS) (m : Nat) (old k : Int) (c : Nat) (pr : Nat → Prop) (h t : hS) : Prop := (cyH hZ h ∧ cyT tZ t) ∧ ((∀ x j, 53 ≤ x → x < 213 → x ≠ 54 + 4 * c → hI h x j = hI h1 x j) ∧ (∀ x j, 53 ≤ x → x < 213 → hR h x j = hR h1 x j) ∧ (∀ x j, (x = 440 ∨ x = 442) → ¬ (40 * c ≤ j ∧ j < 40 * c + 40) → hI t x j = hI t1 x j) ∧ (∀ x j, x = 444 ∨ x = 445 ∨ x = 446 ∨ (408 ≤ x ∧ x ≤ 410) → hI t x j = hI t1 x j) ∧ ∀ i, hR h 51 i = hR h1 51 i) ∧ hI t 395 54 = 0 ∧ (∀ n, n < 40 → (pr n → hI t 442 (40 * c + n) = 1 ∧ hI h (54 + 4 * c) n = hI t 440 (40 * c + n)) ∧ (¬ pr n → hI t 442 (40 * c + n) = 0)) ∧ ∀ s, s < 40 → (hI h 52 s ≠ -1 ↔ ∃ n, n < 40 ∧ pr n ∧ srN tZ m old k n = (s : Int))
section CA1
variable {hZ tZ h0 h1 t1 h t h' t' : hS} {K : Nat → Int → Prop} {p P m0 m q pt S A qq N0 tx pk c : Nat} {r0 r : Int → Nat} {G f old k u : Int} {us Lc : List Nat} {pr : Nat → Prop}
theorem SRC_w {b a : Int} {n : Int} (e : wg t = wg tZ) : SRC t b a m old u n = SRC tZ b a m old u n := by
  unfold SRC sBq orgq fAt fIx
  rw [e]
theorem wg_cy (f : cyT tZ t) : wg t = wg tZ := by
  funext w a b
  exact cyT_w f w a b
theorem SRC_b {b : Int} {n : Int} (z : SRC tZ b 0 m old u n ≠ -1) (hn : 0 ≤ n ∧ n < 40) : fAt tZ 0 old (SRC tZ b 0 m old u n) ≠ -1 := by
  unfold SRC at z ⊢
  by_cases c1 : orgq tZ b u n ≠ -1 ∧ wg tZ b u 4 ≠ -1 ∧ fAt tZ 0 old (orgq tZ b u n) = wg tZ b u 4
  · rw [if_pos c1]
    rw [c1.2.2]
    exact c1.2.1
  · rw [if_neg c1] at z ⊢
    by_cases c2 : fAt tZ 0 old n = -1 ∨ fAt tZ 0 old n = wg tZ b u 4
    · rw [if_pos c2] at z
      exact absurd rfl z
    · rw [if_neg c2] at z ⊢
      by_cases c3 : anyB (sBq tZ b (fAt tZ 0 old n) n) m = true
      · rw [if_pos c3]
        exact fun y => c2 (.inl y)
      · rw [if_neg c3] at z
        exact absurd rfl z
/-- a field's name is a name -/
theorem fAt_40 {w n : Int} (Pw : PW hZ tZ K p w m0 r0) (ho : 0 ≤ old ∧ old < m0) (z : fAt tZ w old n ≠ -1) : 0 ≤ n ∧ n < 40 := by
  rcases fAt_b (n := n) Pw.1 (k := old) (.inr ho) with y | ⟨⟨y0, y1⟩, y2⟩
  · exact absurd y z
  · obtain ⟨a1, a2, a3⟩ := fIx_lt Pw.1 y0 y1 y2
    have q := ((Pw.2.2.1 _ y0 y1).2.2.2.2.1.2 (fIx tZ w (fAt tZ w old n) n).toNat (by omega)).2.2
    rw [show ((fIx tZ w (fAt tZ w old n) n).toNat : Int) = fIx tZ w (fAt tZ w old n) n by omega, a3] at q
    exact q
theorem KO_g {m0 : Nat} {G j : Int} (O : KO tZ m0 G j) : KOg tZ 1 0 m0 j := ⟨O.1, O.2.2.2.2.2.2.1, O.2.2.2.2.2.2.2⟩
/-- one field -/
theorem CA_f {i fd len : Nat} (B : CAB hZ tZ h0 K p P m0 m q r0 r G pt S A qq N0 tx pk us Lc f) (c40 : c < 40) (lv : hI hZ (215 + 4 * c) 1 = 1) (eo : hI tZ 404 c = old) (hk : 0 ≤ k ∧ k < m) (hc : chq tZ 1 k m len) (hi : i < len) (hf : (fd : Int) < wg tZ 1 (upn tZ 1 k i) 5) (ek : hR h1 (53 + 4 * c) 2 = kd hZ P k) (e4 : hI t1 408 0 = (c : Int) ∧ hI t1 409 0 = 0 ∧ hI t1 410 0 = 0) (RU : RUq h0 tZ t1 tx N0 k us) {n : Nat} (hn : wg tZ 1 (upn tZ 1 k i) (6 + fd) = (n : Int)) (F : FIq hZ tZ h1 t1 m old k c pr h t) : (∃ h' t', c155_b38 pt P (215 + 4 * c) (53 + 4 * c) (kd hZ P (upn tZ 1 k i)) (fd : Int) h = some (.inl (((fd + 1 : Nat) : Int), h')) ∧ c285_b92 (c : Int) k (upn tZ 1 k i) (fd : Int) t = some (.inl (((fd + 1 : Nat) : Int), t')) ∧ FIq hZ tZ h1 t1 m old k c (fun x => pr x ∨ x = n) h' t') ∨ (∃ h' t', c155_b38 pt P (215 + 4 * c) (53 + 4 * c) (kd hZ P (upn tZ 1 k i)) (fd : Int) h = some (.inr (.inr (0, h'))) ∧ c285_b92 (c : Int) k (upn tZ 1 k i) (fd : Int) t = some (.inr (.inr (0, t'))) ∧ cyL hZ h' ∧ cyM tZ t' ∧ hI t' 395 54 = 0 ∧ hI h' 48 10 = hI t' 395 82 ∧ hI h' 48 11 = hI t' 395 83 ∧ hI h' 48 12 = hI t' 395 84) := by
  obtain ⟨RT0, NW, ⟨C0, P448, hP⟩, ⟨hpt, LL, N8, A8, l6, p448⟩, Sm, ⟨tx6, pk6, e401, hl, h12, lc, CH⟩, -, T24, -⟩ := B
  obtain ⟨SH0, Pw0, TB0', CR0, hp, KD0⟩ := RT0
  obtain ⟨Pw1, -, C1', -, KOs⟩ := NW
  obtain ⟨⟨cH, cT⟩, ⟨fr1, fr2, fr3, fr4, fr5⟩, e54, FV, FG⟩ := id F
  have W1 := Pw1.1
  have W0 := Pw0.1
  have hm := W1.2.1
  have hm0 := W0.2.1
  obtain ⟨u0, u1⟩ := hc.2.1 i hi
  obtain ⟨ei, ea⟩ := fAt_c W1 C1' hc hi hf
  generalize hu : upn tZ 1 k i = u at *
  rw [hn] at ei ea
  obtain ⟨⟨o0, o1, o2⟩, ov⟩ := (CR0.2.2.2 c c40).2.2.2 lv
  rw [eo] at o0 o1 o2 ov
  have ho : 0 ≤ old ∧ old < m0 := ⟨o0, o1⟩
  obtain ⟨-, -, w3, -, -⟩ := W1.2.2 u u0 u1
  have wz := wg_cy cT
  -- at (h, t)
  have Pw1t : PW h t K P 1 m r := PW_cy Pw1 cH cT (.inr P448)
  have Pw0t : PW h t K p 0 m0 r0 := PW_cy Pw0 cH cT hp
  have k1 : ∀ v : Int, kd h P v = kd hZ P v := kd_cy Pw1 cH (.inr P448)
  have k0 : ∀ v : Int, kd h p v = kd hZ p v := kd_cy Pw0 cH hp
  have C0t : CF t 0 m0 := CF_cg C0 (fun a b => cyT_w cT 0 a b)
  have C1t : CF t 1 m := CF_cg C1' (fun a b => cyT_w cT 1 a b)
  have Q := (Pw1t.2.2.1 u u0 u1)
  have kn := Q.1.1
  have nb := (Q.2.2.2.2.1.2 fd (by rw [cyT_w cT]; exact hf))
  rw [cyT_w cT, hn] at nb
  have n40 : n < 40 := by omega
  have FF1 : FFq h t P 1 m := fun j j0 j1 a ha => by
    rw [cyT_w cT] at ha
    have := (KOs j j0 j1).2.1 a ha
    rw [k1, cH.2.2 _ _ (by have := (Pw1.2.2.1 j j0 j1).1.1; omega), this, cyT_w cT]
  have Og : ∀ j : Int, 0 ≤ j → j < m → KOg t 1 0 m0 j := fun j j0 j1 => by
    have := KO_g (KOs j j0 j1).1
    unfold KOg fIx at this ⊢
    rw [wz]
    exact this
  obtain ⟨s, hs⟩ : ∃ s, srN tZ m old k n = s := ⟨_, rfl⟩
  have hs' : SRC tZ 1 0 m old u n = s := by rw [← hs]; unfold srN; rw [ea]
  have e158 : c158 P (kd hZ P u) (fd : Int) (kd hZ p old) h = some s := by
    have := c158_e (i := fd) Pw1t FF1 Pw0t C0t C1t Og u0 u1 (by rw [cyT_w cT]; exact hf) ho (show wg t 1 u (6 + fd) = (n : Int) by rw [cyT_w cT]; exact hn)
    rw [k1, k0, SRC_w wz, hs'] at this
    exact this
  have e287 : c287 0 old 1 k n t = some s := by
    have := c287_e (n := (n : Int)) Pw1t.1 (by omega) Pw0t.1 (by omega) hk ho (show fAt t 1 k n = u by unfold fAt fIx; rw [wz]; exact ea) (by omega)
    rw [SRC_w wz, hs'] at this
    exact this
  have sb : s ≠ -1 → fAt tZ 0 old s ≠ -1 := fun z => by rw [← hs'] at z ⊢; exact SRC_b z (by omega)
  have s40 : s ≠ -1 → 0 ≤ s ∧ s < 40 := fun z => fAt_40 Pw0 ho (sb z)
  -- the creatures' cells
  obtain ⟨a1, a2, a3, a4, a5, a6, a7⟩ := (SH0.1 c c40).2
  obtain ⟨b1, b2, b3, b4, b5, b6, b7⟩ := (SH0.2 c c40).2
  have tT : ∀ x, hT h x = hT hZ x := fun x => by rw [cH.1.2.1]
  have tL : ∀ x, hL h x = hL hZ x := fun x => by rw [cH.1.2.2.1]
  have rO : ∀ j, hR h (215 + 4 * c) j = hR hZ (215 + 4 * c) j := fun j => cH.2.1 _ _ (by omega)
  have iO : ∀ o j, o ≤ 3 → hI h (215 + 4 * c + o) j = hI hZ (215 + 4 * c + o) j := fun o j ho => cH.2.2 _ _ (by omega)
  have rF : ∀ j, j ≠ 2 → hR h (53 + 4 * c) j = hR hZ (53 + 4 * c) j := fun j hj => cH.2.1 _ _ (by omega)
  have rF2 : hR h (53 + 4 * c) 2 = kd hZ P k := by rw [fr2 _ _ (by omega) (by omega)]; exact ek
  have TPt : hT h pt = 26 := by rw [tT, (Sm pt hpt.2.2).2.2.1]; exact hpt.1
  have T18 : hT h P = 18 := Pw1t.2.1.2.2.1
  -- the value ahead of the rule
  obtain ⟨v0, hv0⟩ : ∃ v0, v0 = if s = -1 then wg tZ 1 u (14 + fd) else hI tZ 405 (40 * c + s.toNat) := ⟨_, rfl⟩
  obtain ⟨hA, eA⟩ : ∃ hA, hA = sI h (54 + 4 * c) n v0 := ⟨_, rfl⟩
  obtain ⟨hB, eB⟩ : ∃ hB, hB = if s = -1 then hA else sI hA 52 s.toNat (n : Int) := ⟨_, rfl⟩
  have qA : cyH h hA := by rw [eA]; exact cyH_sI (.inr (.inl ⟨by omega, by omega, by omega⟩))
  have qB : cyH h hB := by
    rw [eB]
    by_cases z : s = -1
    · rw [if_pos z]; exact qA
    · rw [if_neg z]; exact cyH_tr qA (cyH_sI (.inl rfl))
  have cHB := cyH_tr cH qB
  have bT : ∀ x, hT hB x = hT hZ x := fun x => by rw [cHB.1.2.1]
  have bL : ∀ x, hL hB x = hL hZ x := fun x => by rw [cHB.1.2.2.1]
  have bR : ∀ x j, hR hB x j = hR h x j := fun x j => by
    rw [eB]
    by_cases z : s = -1
    · rw [if_pos z, eA, hR_sI]
    · rw [if_neg z, hR_sI, eA, hR_sI]
  have bV : ∀ j, hI hB (54 + 4 * c) j = if j = n then v0 else hI h (54 + 4 * c) j := fun j => by
    have : hI hB (54 + 4 * c) j = hI hA (54 + 4 * c) j := by
      rw [eB]
      by_cases z : s = -1
      · rw [if_pos z]
      · rw [if_neg z, hI_sI, if_neg (by omega)]
    rw [this, eA, hI_sI]
    by_cases z : j = n
    · rw [if_pos ⟨rfl, z⟩, if_pos z]
    · rw [if_neg (fun y => z y.2), if_neg z]
  have bG : ∀ j, hI hB 52 j = if s = (j : Int) then (n : Int) else hI h 52 j := fun j => by
    rw [eB]
    by_cases z : s = -1
    · rw [if_pos z, if_neg (by omega), eA, hI_sI, if_neg (by omega)]
    · rw [if_neg z, hI_sI]
      have := s40 z
      by_cases y : s = (j : Int)
      · rw [if_pos ⟨rfl, by omega⟩, if_pos y]
      · rw [if_neg (by omega), if_neg y, eA, hI_sI, if_neg (by omega)]
  have bO : ∀ x j, 53 ≤ x → x < 213 → x ≠ 54 + 4 * c → hI hB x j = hI h x j := fun x j x1 x2 x3 => by
    rw [eB]
    by_cases z : s = -1
    · rw [if_pos z, eA, hI_sI, if_neg (by omega)]
    · rw [if_neg z, hI_sI, if_neg (by omega), eA, hI_sI, if_neg (by omega)]
  -- the class, up to the rule
  have eC : ∀ R, c155_j119 pt (215 + 4 * c) (53 + 4 * c) (fd : Int) (n : Int) hB = R → c155_b38 pt P (215 + 4 * c) (53 + 4 * c) (kd hZ P u) (fd : Int) h = R := fun R eR => by
    rw [← k1]
    unfold c155_b38
    refine bnd (gI_s Q.1.2.2.1) ?_
    rw [Q.2.2.2.2.1.1, cyT_w cT, if_neg (by omega)]
    refine bnd (gR_s Q.1.2.2.1) ?_
    rw [(KD5 Q.1).1]
    refine bnd (aI_s (KD5 Q.1).2.1 (by omega) (by rw [(KD5 Q.1).2.2]; omega)) ?_
    rw [Int.toNat_natCast, nb.1]
    refine bnd (gR_s (by rw [tT]; exact a1)) ?_
    refine bnd (kT_s T18) ?_
    rw [rO, o2, k1]
    refine bnd e158 ?_
    refine bnd (gR_s (by rw [tT]; exact b1)) ?_
    rw [rF 3 (by omega), b2]
    have j103 : ∀ v, v = v0 → c155_j103 (54 + 4 * c) (n : Int) v pt (215 + 4 * c) (53 + 4 * c) (fd : Int) (n : Int) s h = R := fun v ev => by
      subst ev
      unfold c155_j103
      refine bnd ((wI_s (by rw [tT]; have := b5.1; rw [show 53 + 4 * c + 1 = 54 + 4 * c by omega] at this; exact this) (by omega) (by rw [tL]; have := b6.1; rw [show 53 + 4 * c + 1 = 54 + 4 * c by omega] at this; rw [this]; omega)).trans (congrArg some (show sI h (54 + 4 * c) ((n : Int)).toNat v = hA by rw [Int.toNat_natCast]; exact eA.symm))) ?_
      by_cases z : s = -1
      · rw [if_pos z] at eB ⊢
        rw [← eB]
        exact eR
      · rw [if_neg z] at eB ⊢
        have := s40 z
        refine bnd ((wIs_s this.1 (by omega)).trans (congrArg some eB.symm)) ?_
        exact eR
    rw [show 53 + 4 * c + 1 = 54 + 4 * c by omega]
    have K6 := KD6 Q.1
    have T6 := Q.1.2.2.1
    have nb2 := nb
    rw [k1] at K6 T6 nb2
    by_cases z : s = -1
    · rw [if_pos z] at hv0 ⊢
      refine bnd (gR_s T6) ?_
      rw [K6.1]
      refine bnd (aI_s K6.2.1 (by omega) (by rw [K6.2.2]; omega)) ?_
      rw [Int.toNat_natCast, nb2.2.1, cyT_w cT]
      exact j103 _ hv0.symm
    · rw [if_neg z] at hv0 ⊢
      have hs40 := s40 z
      refine bnd (gR_s (by rw [tT]; exact a1)) ?_
      rw [rO, a2]
      refine bnd (aI_s (by rw [tT]; exact a5.1) hs40.1 (by rw [tL, a6.1]; omega)) ?_
      rw [iO 1 _ (by omega)]
      refine j103 _ ?_
      have := (ov s.toNat (by omega)).1 (by rw [show ((s.toNat : Nat) : Int) = s by omega]; exact sb z)
      rw [this, hv0]
  -- the other side, up to the rule
  obtain ⟨tA, etA⟩ : ∃ tA, tA = sI t 442 (40 * c + n) 1 := ⟨_, rfl⟩
  have qtA : cyT t tA := by rw [etA]; exact cyT_sI (by omega)
  have cTA := fp_tr cT qtA
  have eT : ∀ R, (if hI t 444 n = -1 then c285_j253 (wadd (wmul 40 (c : Int)) (n : Int)) v0 (fd : Int) tA else (g258 120 258 [hI t 444 n, 0] tA).bind (fun v25 => if v25.1 = 0 then (aIs v25.2 445 40 (n : Int)).bind (fun v28 => (c276 9 v28 (c : Int) v25.2).bind (fun v29 => (kB v29.1).bind (fun _ => some (.inr (.inr (v29.1, v29.2)))))) else (wIs v25.2 440 1600 (wadd (wmul 40 (c : Int)) (n : Int)) (hI v25.2 395 52)).bind (fun h27 => c285_j254 (fd : Int) h27))) = R → c285_b92 (c : Int) k u (fd : Int) t = R := fun R eR => by
    unfold c285_b92
    refine bnd (c199_e (by omega) (by omega) u0 (by omega) (by omega) (by omega)) ?_
    rw [cyT_w cT, if_neg (by omega), wadd_e (by omega) (by omega)]
    refine bnd (c199_e (by omega) (by omega) u0 (by omega) (by omega) (by omega)) ?_
    rw [cyT_w cT, hn]
    have ew : wadd (wmul 40 (c : Int)) (n : Int) = ((40 * c + n : Nat) : Int) := by rw [wmul_e (by omega) (by omega), wadd_e (by omega) (by omega)]; omega
    refine bnd ((show wIs t 442 1600 (wadd (wmul 40 (c : Int)) (n : Int)) (wbol 1) = some tA from ?_)) ?_
    · rw [ew, wIs_s (by omega) (by omega), Int.toNat_natCast, etA]
      rfl
    · have e444 : hI tA 444 n = hI t 444 n := by rw [etA, hI_sI, if_neg (by omega)]
      refine bnd (aIs_s (by omega) (by omega)) ?_
      rw [Int.toNat_natCast, e444]
      by_cases z : hI t 444 n = -1
      · rw [if_pos z] at eR ⊢
        refine bnd (aIs_s (by omega) (by omega)) ?_
        rw [Int.toNat_natCast, cTA.2 404 c (by omega), eo]
        have e287' : c287 0 old 1 k n tA = some s := by
          have wz' := wg_cy cTA
          have W1A := WF_cy W1 cTA
          have W0A := WF_cy W0 cTA
          have := c287_e (n := (n : Int)) W1A (by omega) W0A (by omega) hk ho (show fAt tA 1 k n = u by unfold fAt fIx; rw [wz']; exact ea) (by omega)
          rw [SRC_w wz', hs'] at this
          exact this
        refine bnd e287' ?_
        by_cases z2 : s = -1
        · rw [if_pos z2] at hv0 ⊢
          rw [wadd_e (by omega) (by omega)]
          refine bnd (c199_e (by omega) (by omega) u0 (by omega) (by omega) (by omega)) ?_
          rw [cyT_w cTA, ← hv0]
          exact eR
        · rw [if_neg z2] at hv0 ⊢
          have hs40 := s40 z2
          have ew2 : wadd (wmul 40 (c : Int)) s = ((40 * c + s.toNat : Nat) : Int) := by rw [wmul_e (by omega) (by omega), wadd_e (by omega) (by omega)]; omega
          rw [ew2]
          refine bnd (aIs_s (by omega) (by omega)) ?_
          rw [Int.toNat_natCast, cTA.2 405 _ (by omega), ← hv0]
          exact eR
      · rw [if_neg z] at eR ⊢
        refine bnd (aIs_s (by omega) (by omega)) ?_
        rw [Int.toNat_natCast, e444]
        exact eR
  have ew : wadd (wmul 40 (c : Int)) (n : Int) = ((40 * c + n : Nat) : Int) := by rw [wmul_e (by omega) (by omega), wadd_e (by omega) (by omega)]; omega
  -- what holds once the value is in
  have done : ∀ (h' t' : hS) (v : Int), cyH hB h' → cyT tA t' → (∀ x j, 53 ≤ x → x < 213 → x ≠ 54 + 4 * c → hI h' x j = hI hB x j) → (∀ x j, (x = 51 ∨ (53 ≤ x ∧ x < 213)) → hR h' x j = hR hB x j) → (∀ j, hI h' (54 + 4 * c) j = if j = n then v else hI hB (54 + 4 * c) j) → (∀ j, hI h' 52 j = hI hB 52 j) → (∀ x j, (x = 440 ∨ x = 442 ∨ x = 444 ∨ x = 445 ∨ x = 446 ∨ (408 ≤ x ∧ x ≤ 410)) → hI t' x j = if x = 440 ∧ j = 40 * c + n then v else hI tA x j) → hI t' 395 54 = 0 → FIq hZ tZ h1 t1 m old k c (fun x => pr x ∨ x = n) h' t' := fun h' t' v q1 q2 g1 g2 g3 g4 g5 g6 => by
    refine ⟨⟨cyH_tr cHB q1, fp_tr cTA q2⟩, ⟨fun x j x1 x2 x3 => by rw [g1 x j x1 x2 x3, bO x j x1 x2 x3]; exact fr1 x j x1 x2 x3, fun x j x1 x2 => by rw [g2 x j (.inr ⟨x1, x2⟩), bR]; exact fr2 x j x1 x2, fun x j hx hj => ?_, fun x j hx => ?_, fun a => by rw [g2 51 a (.inl rfl), bR]; exact fr5 a⟩, g6, fun y hy => ⟨fun z => ?_, fun z => ?_⟩, fun y hy => ?_⟩
    · rw [g5 x j (by omega), if_neg (by omega), etA, hI_sI, if_neg (by omega)]
      exact fr3 x j hx hj
    · rw [g5 x j (by omega), if_neg (by omega), etA, hI_sI, if_neg (by omega)]
      exact fr4 x j hx
    · rw [g5 442 _ (by omega), if_neg (by omega), g5 440 _ (by omega), g3]
      by_cases z2 : y = n
      · rw [if_pos z2, if_pos ⟨rfl, by omega⟩, etA, hI_sI, if_pos ⟨rfl, by omega⟩]
        exact ⟨rfl, rfl⟩
      · have z : pr y := z.elim id (fun q => absurd q z2)
        rw [if_neg z2, if_neg (by omega), bV, if_neg z2, etA, hI_sI, if_neg (by omega), hI_sI, if_neg (by omega)]
        exact (FV y hy).1 z
    · have z1 : ¬ pr y := fun q => z (.inl q)
      have z2 : y ≠ n := fun q => z (.inr q)
      rw [g5 442 _ (by omega), if_neg (by omega), etA, hI_sI, if_neg (by omega)]
      exact (FV y hy).2 z1
    · rw [g4, bG]
      by_cases z : s = (y : Int)
      · rw [if_pos z]
        exact ⟨fun _ => ⟨n, n40, .inr rfl, hs.trans z⟩, fun _ => by omega⟩
      · rw [if_neg z, FG y hy]
        refine ⟨fun q => ?_, fun q => ?_⟩
        · obtain ⟨a, q1, q2, q3⟩ := q
          exact ⟨a, q1, .inl q2, q3⟩
        · obtain ⟨a, q1, q2, q3⟩ := q
          rcases q2 with q2 | q2
          · exact ⟨a, q1, q2, q3⟩
          · rw [q2, hs] at q3
            exact absurd q3 z
  -- the rule
  have PwB : PW hB tA K P 1 m r := PW_cy Pw1 cHB cTA (.inr P448)
  have kB1 : ∀ v : Int, kd hB P v = kd hZ P v := kd_cy Pw1 cHB (.inr P448)
  have smB : ∀ x, 448 ≤ x → x < P → sm h0 hB x := fun x x8 xP => sm_tr (Sm x xP) ⟨fun j => cHB.2.2 x j (by omega), fun j => cHB.2.1 x j (by omega), bT x, bL x⟩
  have e160 : c160 pt (kd hZ P k) (n : Int) hB = some (ruN h0 tZ k n us) := by
    have := c160_e (n := (n : Int)) (h := hB) (t := tZ) (k := k) (PW_cy Pw1 cHB fp_rf (.inr P448)) hk hpt LL N8 hP A8 l6 smB p448
    rw [kB1] at this
    exact this
  have e444 : hI t 444 n = hI t1 444 n := fr4 444 n (.inl rfl)
  have bF2 : hR hB (53 + 4 * c) 2 = kd hZ P k := by rw [bR]; exact rF2
  have bF3 : hR hB (53 + 4 * c) 3 = 54 + 4 * c := by rw [bR, rF 3 (by omega), b2]; omega
  have bT16 : hT hB (53 + 4 * c) = 16 := by rw [bT]; exact b1
  have bTP : hT hB pt = 26 := by rw [bT, (Sm pt hpt.2.2).2.2.1]; exact hpt.1
  have wf : wadd (fd : Int) 1 = ((fd + 1 : Nat) : Int) := wadd_n (by omega)
  rcases RU n n40 with ⟨r0', r1⟩ | ⟨r0', e, r1, r2, r3⟩
  · obtain ⟨tB, etB⟩ : ∃ tB, tB = sI tA 440 (40 * c + n) v0 := ⟨_, rfl⟩
    refine .inl ⟨hB, tB, eC _ ?_, eT _ ?_, done hB tB v0 cyH_rf (by rw [etB]; exact cyT_sI (by omega)) (fun _ _ _ _ _ => rfl) (fun _ _ _ => rfl) (fun j => ?_) (fun _ => rfl) (fun x j hx => ?_) ?_⟩
    · unfold c155_j119
      refine bnd (gR_s bT16) ?_
      refine bnd (kT_s bTP) ?_
      rw [bF2]
      refine bnd e160 ?_
      rw [r0']
      refine bnd hnul_0 ?_
      rw [if_pos rfl]
      unfold c155_j184
      rw [wf]
    · rw [e444, if_pos r1]
      unfold c285_j253 c285_j254
      rw [ew]
      refine bnd ((wIs_s (by omega) (by omega)).trans (congrArg some (show sI tA 440 (((40 * c + n : Nat) : Int)).toNat v0 = tB by rw [Int.toNat_natCast]; exact etB.symm))) ?_
      rw [wf]
    · rw [bV]
      by_cases z : j = n
      · rw [if_pos z, if_pos z]
      · rw [if_neg z, if_neg z]
    · rw [etB, hI_sI]
    · rw [etB, hI_sI, if_neg (by omega), etA, hI_sI, if_neg (by omega)]
      exact e54
  · generalize hy : ruN h0 tZ k n us = y at *
    have ym : y ∈ us := by
      rcases ruN_m (h0 := h0) (t := tZ) (k := k) (n := (n : Int)) us with z | z
      · rw [hy] at z; exact absurd z r0'
      · rw [hy] at z; exact z.1
    obtain ⟨yi, hyi⟩ := List.getElem?_of_mem ym
    obtain ⟨-, y1, y2, y3⟩ := LL.2.2.2 yi y hyi
    have sy := smB y (by omega) (by omega)
    obtain ⟨x1, x2, x3, ie, Cc, e1, e2, e3, e4', e5⟩ := r1
    generalize hx : hR h0 y 5 = x at *
    have sx := smB x (by omega) (by omega)
    have enx : ntx tA tx = ntx tZ tx := by
      funext a b
      exact cyT_n cTA a b
    have c1B : C1a hB tA p m0 (215 + 4 * c) c := by
      refine ⟨⟨by rw [cTA.2 404 c (by omega), eo]; exact o0, by rw [cTA.2 404 c (by omega), eo]; exact o1, by rw [bR, rO, cTA.2 404 c (by omega), eo, kd_cy Pw0 cHB hp]; exact o2⟩, fun a ha => ?_⟩
      obtain ⟨q1, q2, q3, q4⟩ := ov a ha
      have iB : ∀ o j, o ≤ 3 → hI hB (215 + 4 * c + o) j = hI hZ (215 + 4 * c + o) j := fun o j ho => cHB.2.2 _ _ (by omega)
      rw [cTA.2 404 c (by omega), eo, fAt_cg (fun a b => cyT_w cTA 0 a b), iB 1 a (by omega), iB 2 a (by omega), iB 3 a (by omega), cTA.2 405 _ (by omega), cTA.2 406 _ (by omega), cTA.2 407 _ (by omega)]
      exact ⟨q1, q2, q3, q4⟩
    have shB : SHc hB (215 + 4 * c) c := by
      have rB : ∀ j, hR hB (215 + 4 * c) j = hR hZ (215 + 4 * c) j := fun j => by rw [bR, rO]
      exact ⟨by rw [bT]; exact a1, by rw [rB]; exact a2, by rw [rB]; exact a3, by rw [rB]; exact a4, by rw [bT, bT, bT]; exact a5, by rw [bL, bL, bL]; exact a6, by rw [cHB.2.2 _ _ (by omega)]; exact a7⟩
    have HN := HN_g (a := 215 + 4 * c) shB (PW_cy Pw0 cHB cTA hp) (TB_cy Pw0 TB0' cHB cTA hp) c40 c1B (by omega) hp
    have t8 : ∀ z, 408 ≤ z → z ≤ 410 → hI tA z 0 = hI t1 z 0 := fun z z1 z2 => by rw [etA, hI_sI, if_neg (by omega)]; exact fr4 z 0 (by omega)
    have W := WO (tx := tx) (i := ie) (C := Cc) (a := 215 + 4 * c) (x := x) (c := c) (h := hB) (t := tA) tx6 e2 (by rw [enx]; exact e3) (by rw [bT]; exact T24) (by omega) (by rw [sx.2.2.1]; exact x3) (by rw [sx.2.2.2]; exact e4') (fun j z hz => by rw [sx.1]; exact e5 j z hz) c40 (by rw [t8 408 (by omega) (by omega)]; exact e4.1) (by rw [t8 409 (by omega) (by omega)]; exact e4.2.1) (by rw [t8 410 (by omega) (by omega)]; exact e4.2.2) (by rw [etA, hI_sI, if_neg (by omega)]; exact e54) HN
    have eg : hI t 444 n = gn tx ie := by rw [e444, r2, e1]; unfold gf; rw [if_neg (by omega), Int.toNat_natCast]
    have gne : gn tx ie ≠ -1 := by unfold gn; omega
    have eC2 : ∀ R, ((c161 (215 + 4 * c) x hB).bind (fun v24 => if v24.1 = 0 then (gI v24.2 y 22 1).bind (fun v28 => (gI v24.2 (215 + 4 * c) 16 0).bind (fun v29 => (c151 9 v28 v29 v24.2).bind (fun v30 => (kB v30.1).bind (fun _ => some (.inr (.inr (v30.1, v30.2))))))) else (gR v24.2 (53 + 4 * c) 16 3).bind (fun v26 => (wI v24.2 v26 1 (n : Int) (hI v24.2 22 8)).bind (fun h27 => c155_j184 (fd : Int) h27)))) = R → c155_j119 pt (215 + 4 * c) (53 + 4 * c) (fd : Int) (n : Int) hB = R := fun R eR => by
      unfold c155_j119
      refine bnd (gR_s bT16) ?_
      refine bnd (kT_s bTP) ?_
      rw [bF2]
      refine bnd e160 ?_
      refine bnd (hnul_8 (by omega)) ?_
      rw [if_neg (by decide)]
      refine bnd (gR_s (by rw [sy.2.2.1]; exact y3)) ?_
      rw [sy.2.1, hx]
      exact eR
    rcases W with ⟨h', t', v, w1, w2, w3', w4, w5, w6, w7, w8⟩ | ⟨h', t', w1, w2, w3', w4, w5⟩
    · obtain ⟨h2, eh2⟩ : ∃ h2, h2 = sI h' (54 + 4 * c) n v := ⟨_, rfl⟩
      obtain ⟨t2, et2⟩ : ∃ t2, t2 = sI t' 440 (40 * c + n) v := ⟨_, rfl⟩
      have qh2 : cyH h' h2 := by rw [eh2]; exact cyH_sI (.inr (.inl ⟨by omega, by omega, by omega⟩))
      have qt2 : cyT t' t2 := by rw [et2]; exact cyT_sI (by omega)
      refine .inl ⟨h2, t2, eC _ (eC2 _ ?_), eT _ ?_, done h2 t2 v (cyH_tr (cyH_w w5) qh2) (fp_tr (cyT_e w6) qt2) (fun z j z1 z2 z3 => ?_) (fun z j hz => ?_) (fun j => ?_) (fun j => ?_) (fun z j hz => ?_) ?_⟩
      · refine bnd w1 ?_
        rw [if_neg (by omega)]
        refine bnd (gR_s (by rw [w5.1.2.1]; exact bT16)) ?_
        rw [w5.2.1 _ _ (by omega), bF3, w2]
        refine bnd ((wI_s (by rw [w5.1.2.1, bT]; have := b5.1; rw [show 53 + 4 * c + 1 = 54 + 4 * c by omega] at this; exact this) (by omega) (by rw [w5.1.2.2.1, bL]; have := b6.1; rw [show 53 + 4 * c + 1 = 54 + 4 * c by omega] at this; rw [this]; omega)).trans (congrArg some (show sI h' (54 + 4 * c) ((n : Int)).toNat v = h2 by rw [Int.toNat_natCast]; exact eh2.symm))) ?_
        unfold c155_j184
        rw [wf]
      · rw [eg, if_neg gne]
        refine bnd w3' ?_
        rw [if_neg (by omega), w4, ew]
        refine bnd ((wIs_s (by omega) (by omega)).trans (congrArg some (show sI t' 440 (((40 * c + n : Nat) : Int)).toNat v = t2 by rw [Int.toNat_natCast]; exact et2.symm))) ?_
        unfold c285_j254
        rw [wf]
      · rw [eh2, hI_sI, if_neg (by omega)]
        exact w5.2.2 z j (by omega)
      · rw [eh2, hR_sI]
        exact w5.2.1 z j (by omega)
      · rw [eh2, hI_sI]
        by_cases z : j = n
        · rw [if_pos ⟨rfl, z⟩, if_pos z]
        · rw [if_neg (fun q => z q.2), if_neg z]
          exact w5.2.2 _ j (by omega)
      · rw [eh2, hI_sI, if_neg (by omega)]
        exact w5.2.2 52 j (by omega)
      · rw [et2, hI_sI]
        by_cases q : z = 440 ∧ j = 40 * c + n
        · rw [if_pos q, if_pos q]
        · rw [if_neg q, if_neg q]
          exact w6.2 z j (by omega)
      · rw [et2, hI_sI, if_neg (by omega)]
        exact w7
    · have g1 : gI h' y 22 1 = some (hI h0 y 1) := by rw [gI_s (by rw [w3'.1.2.1, sy.2.2.1]; exact y3), w3'.2.2 y 1 (by omega), sy.1]
      have g2 : gI h' (215 + 4 * c) 16 0 = some (c : Int) := by rw [gI_s (by rw [w3'.1.2.1, bT]; exact a1), w3'.2.2 _ _ (by omega), cHB.2.2 _ _ (by omega), a7]
      have g3 : hI t' 445 n = hI h0 y 1 := by rw [w4.2 445 n (by omega), etA, hI_sI, if_neg (by omega), fr4 445 n (by omega), r3]
      have cf : cyL h' (cfS 9 (hI h0 y 1) (c : Int) h') := cyL_rf
      have rf : cyM t' (rfS 9 (hI h0 y 1) (c : Int) t') := cyM_rf
      refine .inr ⟨cfS 9 (hI h0 y 1) (c : Int) h', rfS 9 (hI h0 y 1) (c : Int) t', eC _ (eC2 _ ?_), eT _ ?_, cyL_tr (cyL_o (cyH_tr cHB (cyH_w w3'))) cf, fp_tr (cyM_o (fp_tr cTA (cyT_e w4))) rf, ?_, rfl, rfl, rfl⟩
      · refine bnd w1 ?_
        rw [if_pos rfl]
        refine bnd g1 ?_
        refine bnd g2 ?_
        rfl
      · rw [eg, if_neg gne]
        refine bnd w2 ?_
        rw [if_pos rfl]
        refine bnd (aIs_s (by omega) (by omega)) ?_
        rw [Int.toNat_natCast, g3]
        rfl
      · exact w5
end CA1
