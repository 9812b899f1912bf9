/-! what the relations rest on: other cells may change -/
section CGR
variable {hc hc' hr hr' : hS} {C C' : Nat → Int → Prop} {p m q : Nat} {w : Int} {r : Int → Nat}
/-- hc' holds what hc holds in the cells x of S -/
def same (S : Nat → Prop) (h h' : hS) : Prop := ∀ x, S x → (∀ j, hI h' x j = hI h x j ∧ hR h' x j = hR h x j) ∧ hT h' x = hT h x ∧ hL h' x = hL h x
/-- the tags of the cells of which kinds and ponds are made: they don't change but by their own calls -/
def kcl (t : Nat) : Bool := Nat.beq t 1 || Nat.beq t 3 || Nat.beq t 17 || Nat.beq t 18 || Nat.beq t 21 || Nat.beq t 24
def pnd (hc : hS) (p : Nat) (x : Nat) : Prop := (x = p ∨ x = p + 1 ∨ (448 ≤ x ∧ kcl (hT hc x) = true)) ∧ x < hN hc
theorem KD_tag {h : hS} {k : Nat} (K : KD h k) {o : Nat} (ho : o ≤ 12) : kcl (hT h (k + o)) = true := by
  match o, ho with
  | 0, _ => show kcl (hT h k) = true; rw [K.2.2.1]; rfl
  | 1, _ => rw [(KD5 K).2.1]; rfl
  | 2, _ => rw [(KD6 K).2.1]; rfl
  | 3, _ => rw [(KD7 K).2.1]; rfl
  | 4, _ => rw [(KD9 K).2.1]; rfl
  | 5, _ => rw [(KD10 K).2.1]; rfl
  | 6, _ => rw [(KD12 K).2.1]; rfl
  | 7, _ => rw [(KD13 K).2.1]; rfl
  | 8, _ => rw [(KD14 K).2.1]; rfl
  | 9, _ => rw [(KD15 K).2.1]; rfl
  | 10, _ => rw [(KD16 K).2.1]; rfl
  | 11, _ => rw [(KD17 K).2.1]; rfl
  | 12, _ => rw [(KD18 K).2.1]; rfl
/-- the kinds' cells -/
def kcs (hc : hS) (x : Nat) : Prop := 448 ≤ x ∧ x < hN hc ∧ kcl (hT hc x) = true
theorem KD_cg {k : Nat} (K : KD hc k) (e : same (kcs hc) hc hc') (en : hN hc ≤ hN hc') : KD hc' k := by
  have K' := K
  obtain ⟨k1, k2, k3, k4⟩ := K
  have e1 := e k ⟨k1, by omega, KD_tag K' (o := 0) (by omega)⟩
  refine ⟨k1, by omega, by rw [e1.2.1]; exact k3, fun a ha => ?_⟩
  obtain ⟨a1, a2, a3⟩ := k4 a ha
  have ho : a.2.1 ≤ 12 := by
    have : ∀ a ∈ karL, a.2.1 ≤ 12 := by decide
    exact this a ha
  have e2 := e (k + a.2.1) ⟨by omega, by omega, KD_tag K' ho⟩
  exact ⟨by rw [(e1.1 _).2]; exact a1, by rw [e2.2.1]; exact a2, by rw [e2.2.2]; exact a3⟩
theorem kd_cg (P : PW hc hr C p w m r) (e : same (pnd hc p) hc hc') (u : Int) : kd hc' p u = kd hc p u := by
  unfold kd
  split
  · rfl
  · exact ((e (p + 1) ⟨.inr (.inl rfl), P.2.1.2.1⟩).1 _).2
theorem KR_cg {j : Int} (hk : ∀ u, kd hc' p u = kd hc p u) (K : KR hc hr C p w j) (e : same (kcs hc) hc hc') (en : hN hc ≤ hN hc') (ew : ∀ k f, wg hr' w k f = wg hr w k f) (hC : ∀ a b, C a b → C' a b) : KR hc' hr' C' p w j := by
  obtain ⟨k1, k2, k3, k4, k5, k6, k7⟩ := K
  have K' := KD_cg k1 e en
  have h8 := k1.1
  have hn := k1.2.1
  have e0 := fun j' => (e (kd hc p j) ⟨h8, by omega, KD_tag k1 (o := 0) (by omega)⟩).1 j'
  have eo := fun (o : Nat) (ho : o ≤ 12) (j' : Nat) => (e (kd hc p j + o) ⟨by omega, by omega, KD_tag k1 ho⟩).1 j'
  unfold KR
  rw [hk j, hk (wg hr' w j 1)]
  refine ⟨K', ?_, ?_, ?_, ⟨?_, ?_⟩, ⟨?_, ?_⟩, ⟨?_, ?_⟩⟩
  · rw [(e0 0).1, ew]; exact k2
  · rw [(e0 1).2, ew]; exact k3
  · rw [(e0 2).1, ew]; exact k4
  · rw [(e0 4).1, ew]; exact k5.1
  · intro i hi
    rw [ew] at hi
    rw [(eo 1 (by omega) i).1, (eo 2 (by omega) i).1, ew, ew]
    exact k5.2 i hi
  · rw [(e0 8).1, ew]; exact k6.1
  · intro i hi
    rw [ew] at hi
    rw [(eo 4 (by omega) i).1, (eo 5 (by omega) i).1, ew, ew]
    exact k6.2 i hi
  · rw [(e0 11).1, ew]; exact k7.1
  · intro i hi
    rw [ew] at hi
    rw [(eo 6 (by omega) i).1, (eo 7 (by omega) i).2, ew, ew]
    obtain ⟨x1, x2, x3⟩ := k7.2 i hi
    exact ⟨x1, hC _ _ x2, x3⟩
theorem WF_cg (W : WF hr w m r) (ew : ∀ k f, wg hr' w k f = wg hr w k f) (em : wm hr' w = wm hr w) : WF hr' w m r := by
  obtain ⟨w1, w2, w3⟩ := W
  refine ⟨by rw [em]; exact w1, w2, fun k k0 k1 => ?_⟩
  rw [ew, ew, ew, ew]
  exact w3 k k0 k1
theorem PW_cg (P : PW hc hr C p w m r) (e : same (pnd hc p) hc hc') (en : hN hc ≤ hN hc') (ew : ∀ k f, wg hr' w k f = wg hr w k f) (em : wm hr' w = wm hr w) (hC : ∀ a b, C a b → C' a b) : PW hc' hr' C' p w m r := by
  have hk := kd_cg P e
  obtain ⟨W, ⟨p1, p2, p3, p4, p5, p6, p7⟩, P3, P4⟩ := P
  have ep := e p ⟨.inl rfl, by omega⟩
  have ep1 := e (p + 1) ⟨.inr (.inl rfl), p2⟩
  refine ⟨WF_cg W ew em, ⟨p1, by omega, by rw [ep.2.1]; exact p3, by rw [(ep.1 0).2]; exact p4, by rw [ep1.2.1]; exact p5, by rw [ep1.2.2]; exact p6, by rw [(ep.1 1).1]; exact p7⟩, fun j j0 j1 => KR_cg hk (P3 j j0 j1) (fun x hx => e x ⟨.inr (.inr ⟨hx.1, hx.2.2⟩), hx.2.1⟩) en ew hC, ?_⟩
  intro i j i0 i1 j0 j1
  rw [ew, ew]
  exact P4 i j i0 i1 j0 j1
theorem fIx_cg (ew : ∀ k f, wg hr' w k f = wg hr w k f) (k n : Int) : fIx hr' w k n = fIx hr w k n := by
  unfold fIx
  rw [ew]
  exact ix_congr (fun j _ => ew _ _)
theorem sIx_cg (ew : ∀ k f, wg hr' w k f = wg hr w k f) (k n : Int) : sIx hr' w k n = sIx hr w k n := by
  unfold sIx
  rw [ew]
  exact ix_congr (fun j _ => ew _ _)
theorem aIx_cg (ew : ∀ k f, wg hr' w k f = wg hr w k f) (k n : Int) : aIx hr' w k n = aIx hr w k n := by
  unfold aIx
  rw [ew]
  exact ix_congr (fun j _ => ew _ _)
theorem fAt_cg (ew : ∀ k f, wg hr' w k f = wg hr w k f) (k n : Int) : fAt hr' w k n = fAt hr w k n := by
  unfold fAt
  have e1 : (fun u => decide (fIx hr' w u n ≠ -1)) = (fun u => decide (fIx hr w u n ≠ -1)) := funext fun u => by rw [fIx_cg ew]
  have e2 : (fun u => wg hr' w u 1) = (fun u => wg hr w u 1) := funext fun u => ew u 1
  rw [e1, e2]
theorem sAt_cg (ew : ∀ k f, wg hr' w k f = wg hr w k f) (k n : Int) : sAt hr' w k n = sAt hr w k n := by
  unfold sAt
  have e1 : (fun u => decide (sIx hr' w u n ≠ -1)) = (fun u => decide (sIx hr w u n ≠ -1)) := funext fun u => by rw [sIx_cg ew]
  have e2 : (fun u => wg hr' w u 1) = (fun u => wg hr w u 1) := funext fun u => ew u 1
  rw [e1, e2]
theorem aAt_cg (ew : ∀ k f, wg hr' w k f = wg hr w k f) (k n : Int) : aAt hr' w k n = aAt hr w k n := by
  unfold aAt
  have e1 : (fun u => decide (aIx hr' w u n ≠ -1)) = (fun u => decide (aIx hr w u n ≠ -1)) := funext fun u => by rw [aIx_cg ew]
  have e2 : (fun u => wg hr' w u 1) = (fun u => wg hr w u 1) := funext fun u => ew u 1
  rw [e1, e2]
theorem TB_cg (P : PW hc hr C p w m r) (T : TB hc hr p w m) (e : same (pnd hc p) hc hc') (ew : ∀ k f, wg hr' w k f = wg hr w k f) : TB hc' hr' p w m := by
  have hk := kd_cg P e
  intro j j0 j1 n hn
  have KK := (P.2.2.1 j j0 j1).1
  obtain ⟨h8, hnn, -⟩ := KK
  have KK := (P.2.2.1 j j0 j1).1
  have eo := fun (o : Nat) (ho : o ≤ 12) (j' : Nat) => (e (kd hc p j + o) ⟨.inr (.inr ⟨by omega, KD_tag KK ho⟩), by omega⟩).1 j'
  rw [hk, hk, hk, fAt_cg ew, sAt_cg ew, aAt_cg ew, sIx_cg ew, aIx_cg ew, (eo 8 (by omega) n).1, (eo 9 (by omega) n).2, (eo 10 (by omega) n).1, (eo 11 (by omega) n).2, (eo 12 (by omega) n).1]
  exact T j j0 j1 n hn
/-- the cells of the creatures of the class, of the other side -/
def crc (x : Nat) : Prop := 215 ≤ x ∧ x < 375
theorem CR_cg (P : PW hc hr C p 0 m r) (R : CR hc hr p m q) (e : same (pnd hc p) hc hc') (e2 : same crc hc hc') (e3 : hI hc' 8 8 = hI hc 8 8) (ew : ∀ k f, wg hr' 0 k f = wg hr 0 k f) (er : ∀ x j, 403 ≤ x → x ≤ 407 → hI hr' x j = hI hr x j) (e5 : hI hr' 395 33 = hI hr 395 33) : CR hc' hr' p m q := by
  have hk := kd_cg P e
  obtain ⟨r1, r2, r3, r4⟩ := R
  refine ⟨by rw [e3]; exact r1, by rw [e5]; exact r2, r3, fun c hc40 => ?_⟩
  obtain ⟨s1, s2, s3, s4⟩ := r4 c hc40
  have ec := fun (o : Nat) (ho : o ≤ 3) (j' : Nat) => (e2 (215 + 4 * c + o) ⟨by omega, by omega⟩).1 j'
  have ec0 := fun (j' : Nat) => (e2 (215 + 4 * c) ⟨by omega, by omega⟩).1 j'
  rw [(ec0 1).1, er 403 c (by omega) (by omega)]
  refine ⟨s1, s2, s3, fun h1 => ?_⟩
  obtain ⟨⟨x1, x2, x3⟩, x4⟩ := s4 h1
  unfold C1
  rw [er 404 c (by omega) (by omega), (ec0 2).2, hk]
  refine ⟨⟨x1, x2, x3⟩, fun n hn => ?_⟩
  rw [fAt_cg ew, (ec 1 (by omega) n).1, (ec 2 (by omega) n).1, (ec 3 (by omega) n).1, er 405 _ (by omega) (by omega), er 406 _ (by omega) (by omega), er 407 _ (by omega) (by omega)]
  exact x4 n hn
end CGR
