/-! both sides go on alike where cells are made -/
/-- below N0 the class changes what its readers write, and no more -/
def FK (N0 : Nat) (h h' : hS) : Prop := (hN h ≤ hN h' ∧ hM h ≤ hM h') ∧ ∀ x, x < N0 → hT h' x = hT h x ∧ hL h' x = hL h x ∧ (∀ j, hR h' x j = hR h x j) ∧ ∀ j, ¬ (x = 16 ∨ x = 17 ∨ (x = 15 ∧ 2 ≤ j ∧ j ≤ 10 ∧ j ≠ 9)) → hI h' x j = hI h x j
/-- below N0 the class changes nothing -/
def FZ (N0 : Nat) (h h' : hS) : Prop := (hN h ≤ hN h' ∧ hM h ≤ hM h') ∧ ∀ x, x < N0 → sm h h' x
/-- the other side changes what its readers write, the nodes under way, and world 1 -/
def FW (h h' : hS) : Prop := h'.2.1 = h.2.1 ∧ h'.2.2.2 = h.2.2.2 ∧ (∀ x j, ¬ ((x = 399 ∧ 42000 ≤ j) ∨ (x = 400 ∧ 769 ≤ j ∧ j < 1538) ∨ (x = 395 ∧ ((2 ≤ j ∧ j ≤ 5) ∨ j = 7 ∨ j = 11 ∨ j = 12 ∨ (16 ≤ j ∧ j ≤ 22) ∨ j = 24))) → hI h' x j = hI h x j) ∧ (∀ x j, ¬ (x = 397 ∨ (x = 395 ∧ j = 10)) → hJ h' x j = hJ h x j)
section FKS
variable {N0 p m : Nat} {h h1 h2 : hS}
theorem FK_rf : FK N0 h h := ⟨⟨Nat.le_refl _, Nat.le_refl _⟩, fun _ _ => ⟨rfl, rfl, fun _ => rfl, fun _ _ => rfl⟩⟩
theorem FK_tr (a : FK N0 h h1) (b : FK N0 h1 h2) : FK N0 h h2 := ⟨⟨Nat.le_trans a.1.1 b.1.1, Nat.le_trans a.1.2 b.1.2⟩, fun x hx => by
  obtain ⟨a1, a2, a3, a4⟩ := a.2 x hx
  obtain ⟨b1, b2, b3, b4⟩ := b.2 x hx
  exact ⟨b1.trans a1, b2.trans a2, fun j => (b3 j).trans (a3 j), fun j q => (b4 j q).trans (a4 j q)⟩⟩
theorem FZ_rf : FZ N0 h h := ⟨⟨Nat.le_refl _, Nat.le_refl _⟩, fun _ _ => sm_rf⟩
theorem FZ_tr (a : FZ N0 h h1) (b : FZ N0 h1 h2) : FZ N0 h h2 := ⟨⟨Nat.le_trans a.1.1 b.1.1, Nat.le_trans a.1.2 b.1.2⟩, fun x hx => sm_tr (a.2 x hx) (b.2 x hx)⟩
theorem FK_FZ (a : FZ N0 h h1) : FK N0 h h1 := ⟨a.1, fun x hx => ⟨(a.2 x hx).2.2.1, (a.2 x hx).2.2.2, (a.2 x hx).2.1, fun j _ => (a.2 x hx).1 j⟩⟩
theorem FK_FC (a : FC p h h1) : FK N0 h h1 := by
  obtain ⟨⟨a1, a2⟩, -⟩ := a
  have eN : hN h1 = hN h := congrArg (fun z : (Nat → Nat → Nat) × (Nat → Nat → Int64) × (Nat → Nat) × (Nat → Nat) × Nat × Nat => z.2.2.2.2.1) a1
  have eM : hM h1 = hM h := congrArg (fun z : (Nat → Nat → Nat) × (Nat → Nat → Int64) × (Nat → Nat) × (Nat → Nat) × Nat × Nat => z.2.2.2.2.2) a1
  refine ⟨⟨by omega, by omega⟩, fun x hx => ⟨?_, ?_, fun j => ?_, fun j q => a2 x j (by omega)⟩⟩
  · show h1.2.2.2.1 x = h.2.2.2.1 x
    rw [a1]
  · show h1.2.2.2.2.1 x = h.2.2.2.2.1 x
    rw [a1]
  · show h1.2.1 x j = h.2.1 x j
    rw [a1]
theorem FC_nm (a : FC p h h1) : hN h1 = hN h ∧ hM h1 = hM h := by
  obtain ⟨⟨a1, -⟩, -⟩ := a
  exact ⟨congrArg (fun z : (Nat → Nat → Nat) × (Nat → Nat → Int64) × (Nat → Nat) × (Nat → Nat) × Nat × Nat => z.2.2.2.2.1) a1, congrArg (fun z : (Nat → Nat → Nat) × (Nat → Nat → Int64) × (Nat → Nat) × (Nat → Nat) × Nat × Nat => z.2.2.2.2.2) a1⟩
theorem FC_x (a : FC p h h1) (x : Nat) (hx : 18 ≤ x) : sm h h1 x := by
  obtain ⟨⟨a1, a2⟩, -⟩ := a
  refine ⟨fun j => a2 x j (by omega), fun j => ?_, ?_, ?_⟩
  · show h1.2.1 x j = h.2.1 x j
    rw [a1]
  · show h1.2.2.2.1 x = h.2.2.2.1 x
    rw [a1]
  · show h1.2.2.2.2.1 x = h.2.2.2.2.1 x
    rw [a1]
theorem FW_rf : FW h h := ⟨rfl, rfl, fun _ _ _ => rfl, fun _ _ _ => rfl⟩
theorem FW_tr (a : FW h h1) (b : FW h1 h2) : FW h h2 := ⟨b.1.trans a.1, b.2.1.trans a.2.1, fun x j q => (b.2.2.1 x j q).trans (a.2.2.1 x j q), fun x j q => (b.2.2.2 x j q).trans (a.2.2.2 x j q)⟩
theorem FW_FR (a : FR m h h1) : FW h h1 := ⟨a.1, a.2.1, fun x j q => a.2.2.1 x j (by omega), a.2.2.2⟩
theorem FW_fw (a : fw h h1) : FW h h1 := by
  obtain ⟨a1, a2⟩ := a
  refine ⟨by rw [a1], by rw [a1], fun x j q => a2 x j (by omega), fun x j q => ?_⟩
  show h1.2.2.1 x j = h.2.2.1 x j
  rw [a1]
end FKS
/-- both have stopped alike, within the room of a text -/
def FLR (N0 M0 : Nat) (hc hr : hS) : Prop := FL hc hr ∧ hN hc ≤ N0 + 1165 ∧ hM hc ≤ M0 + 13000
theorem FLR_FC {N0 M0 p : Nat} {hc hc' hr' : hS} (f : FC p hc hc') (L : FL hc' hr') (r : hN hc ≤ N0 + 1165 ∧ hM hc ≤ M0 + 13000) : FLR N0 M0 hc' hr' := ⟨L, by rw [(FC_nm f).1]; exact r.1, by rw [(FC_nm f).2]; exact r.2⟩
theorem BX_l {sl n l p m d : Nat} {b : Nat → Int} {hc hr : hS} (B : BX sl n b l p m d hc hr) : l ≤ 1000 := by
  have h1 := B.1.2.2.1
  have h2 := TK_len (n := n) (b := b)
  have h3 := B.1.2.2.2.2.1.2.1
  omega
def JK (N0 M0 : Nat) (hc hr : hS) (P : hS → hS → Prop) (x y : Option (Int × hS)) : Prop := ∃ hc' hr', FK N0 hc hc' ∧ FW hr hr' ∧ ((x = some (1, hc') ∧ y = some (1, hr') ∧ P hc' hr') ∨ (x = some (0, hc') ∧ y = some (0, hr') ∧ FLR N0 M0 hc' hr'))
section JKS
variable {N0 M0 p m : Nat} {hc hr hc1 hr1 : hS} {P Q : hS → hS → Prop} {x y : Option (Int × hS)} {F G : Int × hS → Option (Int × hS)}
theorem JK_ok (a : FK N0 hc hc1) (b : FW hr hr1) (q : P hc1 hr1) : JK N0 M0 hc hr P (some (1, hc1)) (some (1, hr1)) := ⟨hc1, hr1, a, b, .inl ⟨rfl, rfl, q⟩⟩
theorem JK_no (a : FK N0 hc hc1) (b : FW hr hr1) (q : FLR N0 M0 hc1 hr1) : JK N0 M0 hc hr P (some (0, hc1)) (some (0, hr1)) := ⟨hc1, hr1, a, b, .inr ⟨rfl, rfl, q⟩⟩
theorem JK_re (a : FK N0 hc hc1) (b : FW hr hr1) (g : JK N0 M0 hc1 hr1 P x y) : JK N0 M0 hc hr P x y := by
  obtain ⟨hc', hr', c, d, e⟩ := g
  exact ⟨hc', hr', FK_tr a c, FW_tr b d, e⟩
theorem JK_J (g : JJ p m hc hr P x y) (r : hN hc ≤ N0 + 1165 ∧ hM hc ≤ M0 + 13000) : JK N0 M0 hc hr P x y := by
  obtain ⟨hc', hr', c, d, e | ⟨e1, e2, e3⟩⟩ := g
  · exact ⟨hc', hr', FK_FC c, FW_FR d, .inl e⟩
  · exact ⟨hc', hr', FK_FC c, FW_FR d, .inr ⟨e1, e2, FLR_FC c e3 r⟩⟩
theorem JK_b {K L : Int × hS → Option (Int × hS)} (a : JK N0 M0 hc hr P x y) (g : ∀ hc' hr', FK N0 hc hc' → FW hr hr' → P hc' hr' → JK N0 M0 hc' hr' Q (K (1, hc')) (L (1, hr'))) : JK N0 M0 hc hr Q (x.bind fun v => if v.1 = 0 then some (0, v.2) else K v) (y.bind fun v => if v.1 = 0 then some (0, v.2) else L v) := by
  obtain ⟨hc', hr', c, d, ⟨e1, e2, e3⟩ | ⟨e1, e2, e3⟩⟩ := a
  · rw [e1, e2]
    refine JK_re c d ?_
    have e4 := g hc' hr' c d e3
    simp only [bsome]
    rw [if_neg (show ¬ (1 : Int) = 0 by omega), if_neg (show ¬ (1 : Int) = 0 by omega)]
    exact e4
  · rw [e1, e2]
    exact ⟨hc', hr', c, d, .inr ⟨rfl, rfl, e3⟩⟩
theorem JK_kl (g : JK N0 M0 hc hr P x y) : JK N0 M0 hc hr P (x.bind fun v => (kB v.1).bind fun _ => some (v.1, v.2)) y := by
  obtain ⟨hc', hr', c, d, ⟨e1, e2, e3⟩ | ⟨e1, e2, e3⟩⟩ := g
  · exact ⟨hc', hr', c, d, .inl ⟨by rw [e1]; rfl, e2, e3⟩⟩
  · exact ⟨hc', hr', c, d, .inr ⟨by rw [e1]; rfl, e2, e3⟩⟩
theorem JK_kr (g : JK N0 M0 hc hr P x y) : JK N0 M0 hc hr P x (y.bind fun v => (kB v.1).bind fun _ => some (v.1, v.2)) := by
  obtain ⟨hc', hr', c, d, ⟨e1, e2, e3⟩ | ⟨e1, e2, e3⟩⟩ := g
  · exact ⟨hc', hr', c, d, .inl ⟨e1, by rw [e2]; rfl, e3⟩⟩
  · exact ⟨hc', hr', c, d, .inr ⟨e1, by rw [e2]; rfl, e3⟩⟩
theorem JK_im (g : JK N0 M0 hc hr P x y) (e : ∀ hc' hr', FK N0 hc hc' → FW hr hr' → P hc' hr' → Q hc' hr') : JK N0 M0 hc hr Q x y := by
  obtain ⟨hc', hr', c, d, ⟨e1, e2, e3⟩ | h⟩ := g
  · exact ⟨hc', hr', c, d, .inl ⟨e1, e2, e hc' hr' c d e3⟩⟩
  · exact ⟨hc', hr', c, d, .inr h⟩
end JKS
section RDK
variable {n l p m d N0 mk : Nat} {b : Nat → Int} {hc hr hc' hr' : hS} {K : Nat → Int → Prop} {r : Int → Nat}
theorem BS_z {sl : Nat} (B : BX sl n b l p m d hc hr) (z : FZ N0 hc hc') (h18 : 18 ≤ N0) : BX sl n b l p m d hc' hr := by
  obtain ⟨R, ⟨F, N, t, l16⟩, ⟨b1, b2, b3⟩, ⟨b4, b5⟩, b6⟩ := B
  have e : ∀ x j, x < 18 → hI hc' x j = hI hc x j := fun x j hx => (z.2 x (by omega)).1 j
  refine ⟨RD_cgc R (fun x j hx => e x j (by omega)), ⟨F, nmR_c N (e 15 2 (by omega)) (fun j => e 16 j (by omega)), ?_, ?_⟩, ⟨by rw [e 15 7 (by omega)]; exact b1, b2, b3⟩, ⟨b4, b5⟩, ?_⟩
  · rw [(z.2 16 (by omega)).2.2.1]; exact t
  · exact ⟨by rw [(z.2 16 (by omega)).2.2.2]; exact l16.1, by rw [e 15 4 (by omega)]; exact l16.2.1, by rw [e 15 5 (by omega)]; exact l16.2.2⟩
  · intro hs; rw [e 15 8 (by omega)]; exact b6 hs
theorem BS_f {sl : Nat} (B : BX sl n b l p m d hc hr) (f : fw hr hr') : BX sl n b l p m d hc hr' := by
  refine BS_r B (fun x j hx => f.2 x j (by omega)) (fun x j _ => ?_) (by rw [f.2 395 16 (by omega)]; exact B.2.2.1.2.1) (by rw [f.2 395 18 (by omega)]; exact B.2.2.1.2.2) B.2.2.2.1.2
  show hr'.2.2.1 x j = hr.2.2.1 x j
  rw [f.1]
/-- other cells have changed -/
theorem BW_c {K' : Nat → Int → Prop} (B : BW hc hr K p mk r) (e : ∀ x, p ≤ x → x < hN hc → sm hc hc' x) (en : hN hc ≤ hN hc') (ew : ∀ k f, wg hr' 1 k f = wg hr 1 k f) (em : wm hr' 1 = wm hr 1) (hK : ∀ a b, K a b → K' a b) (hK' : ∀ x v, K' x v → x < hN hc' ∧ (x < p ∨ p + 2 ≤ x) ∧ ∀ j : Int, 0 ≤ j → j < mk → x < kd hc p j ∨ kd hc p j + 13 ≤ x) : BW hc' hr' K' p mk r := by
  obtain ⟨⟨W, ⟨p1, p2, p3, p4, p5, p6, p7⟩, P3, P4⟩, b1, b2, b3, b4⟩ := B
  have ep := e p (Nat.le_refl _) (by omega)
  have ep1 := e (p + 1) (by omega) p2
  have hk : ∀ u, kd hc' p u = kd hc p u := fun u => by
    unfold kd
    split
    · rfl
    · exact ep1.2.1 _
  have far : ∀ i : Int, 0 ≤ i → i < mk → ∀ o, o ≤ 12 → sm hc hc' (kd hc p i + o) := fun i i0 i1 o ho => by
    have hn := (P3 i i0 i1).1.2.1
    have := b1 i i0 i1
    exact e _ (by omega) (by omega)
  refine ⟨⟨WF_cg W ew em, ⟨p1, by omega, by rw [ep.2.2.1]; exact p3, by rw [ep.2.1]; exact p4, by rw [ep1.2.2.1]; exact p5, by rw [ep1.2.2.2]; exact p6, by rw [ep.1]; exact p7⟩, fun k k0 k1 => ?_, fun i k i0 i1 k0 k1 => ?_⟩, fun k k0 k1 => by rw [hk]; exact b1 k k0 k1, fun i k i0 ik k1 => by rw [hk, hk]; exact b2 i k i0 ik k1, fun x v hx => ?_, fun k k0 k1 => ?_⟩
  · obtain ⟨-, -, w3, w4, w5⟩ := W.2.2 k k0 k1
    exact KR_c2 (P3 k k0 k1) (hk k) (hk _) (far k k0 k1) en (fun f f0 f1 => ew k f) w3.2 w4.2 w5.2 hK
  · rw [ew, ew]
    exact P4 i k i0 i1 k0 k1
  · obtain ⟨x1, x2, x3⟩ := hK' x v hx
    exact ⟨x1, x2, fun k k0 k1 => by rw [hk]; exact x3 k k0 k1⟩
  · obtain ⟨y1, y2⟩ := b4 k k0 k1
    have z0 := far k k0 k1 0 (by omega)
    rw [Nat.add_zero] at z0
    unfold XR
    rw [hk, z0.1, ew, ew]
    refine ⟨y1, fun i hi => ?_⟩
    rw [(far k k0 k1 3 (by omega)).1, ew]
    exact y2 i hi
theorem wg_o (e : ∀ j, hI hr' 400 j = hI hr 400 j) (w k f : Int) : wg hr' w k f = wg hr w k f := e _
theorem wm_o (e : ∀ j, hI hr' 400 j = hI hr 400 j) (w : Int) : wm hr' w = wm hr w := e _
/-- the code arrays made in this call, beside the nodes under way -/
def KT (hc hr : hS) (K : Nat → Int → Prop) (N0 m : Nat) : Prop := ∀ x v, K x v → N0 ≤ x ∧ x < hN hc ∧ hT hc x = 1 ∧ ∃ C : List Int, BK (nd hr) 0 13 m 0 v C ∧ (hL hc x = C.length + 1 ∧ C.length ≤ 1996) ∧ ∀ (i : Nat) (z : Int), (C ++ [0])[i]? = some z → hI hc x i = z
theorem KT_c (T : KT hc hr K N0 m) (e : ∀ x v, K x v → sm hc hc' x) (en : hN hc ≤ hN hc') (er : ∀ t, t < m → ∀ j, j < 5 → nd hr' t j = nd hr t j) {m' : Nat} (hm : m ≤ m') : KT hc' hr' K N0 m' := fun x v hx => by
  obtain ⟨t1, t2, t3, C, t4, t5, t6⟩ := T x v hx
  have ex := e x v hx
  refine ⟨t1, by omega, by rw [ex.2.2.1]; exact t3, C, BK_up (BK_c1 t4 er) hm, ⟨by rw [ex.2.2.2]; exact t5.1, t5.2⟩, fun i z hz => by rw [ex.1]; exact t6 i z hz⟩
end RDK
