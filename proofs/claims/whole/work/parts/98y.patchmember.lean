/-! patches: a member or an edit is read by both -/
/-- a patch half read: both stand at token l, m nodes are laid, the steps are xs; w: how many bytes are owed -/
def PBt (n : Nat) (b : Nat → Int) (N0 M0 l : Nat) (w : Int) (m : Nat) (xs : List Nat) (hc hr : hS) : Prop := ∃ q sl A Q : Nat, BX sl n b l q m 0 hc hr ∧ m ≤ l ∧ LSt hc N0 N0 xs A Q ∧ (448 ≤ N0 ∧ N0 ≤ hN hc) ∧ (hT hc 17 = 1 ∧ hL hc 17 = 4000) ∧ (hR hc 15 11 = 0 ∧ hR hc 15 12 = N0) ∧ (2 * xs.length ≤ l ∧ 5 * hN hc ≤ 5 * N0 + 5 + 10 * xs.length + Q ∧ hM hc ≤ M0 + 3 + 6 * xs.length + 2 * l + 4 * Q) ∧ ((7 * kc hc 200 xs + 6 * kc hc 217 xs : Nat) : Int) ≤ (tkW n b l : Int) + w
/-- all cells from 18 on that were there stay -/
def SAt (h h' : hS) : Prop := ∀ y, 18 ≤ y → y < hN h → sm h h' y
section PBS
variable {n l l' m m' N0 M0 q q' sl sl' x i : Nat} {b : Nat → Int} {w w' : Int} {hc hr hc' hr' h0 t0 h3 t1 : hS} {xs : List Nat}
theorem SA_FC {p : Nat} (a : FC p hc hc') : SAt hc hc' := fun y y1 _ => FC_x a y y1
theorem SA_tr {h1 h2 : hS} (a : SAt h0 h1) (b : SAt h1 h2) (e : hN h0 ≤ hN h1) : SAt h0 h2 := fun y y1 y2 => sm_tr (a y y1 y2) (b y y1 (by omega))
theorem KP_SA (a : SAt hc hc') (e : hN hc ≤ hN hc') : KP hc hc' := ⟨e, fun y y1 y2 _ _ => a y (by omega) y2⟩
theorem PB_l (P : PBt n b N0 M0 l w m xs hc hr) : l ≤ 1000 ∧ (448 ≤ N0 ∧ N0 ≤ hN hc) ∧ m ≤ l ∧ (∀ x ∈ xs, N0 ≤ x ∧ x < hN hc ∧ hT hc x = 22) ∧ l < (TK n b).length := by
  obtain ⟨q, sl, A, Q, B, hm, L, hN0, -⟩ := P
  have h1 := B.1.2.2.1
  have h2 := TK_len (n := n) (b := b)
  have h3 := B.1.2.2.2.2.1.2.1
  refine ⟨by omega, hN0, hm, fun x hx => ?_, h1⟩
  obtain ⟨i, hi⟩ := List.getElem?_of_mem hx
  exact (L.2.2.2 i x hi).2
theorem PB_rm (P : PBt n b N0 M0 l w m xs hc hr) : hN hc ≤ N0 + 1153 ∧ hM hc ≤ M0 + 8050 := by
  have h1 := (PB_l P).1
  obtain ⟨q, sl, A, Q, B, hm, L, hN0, t17, r15, rm, -⟩ := P
  have h2 := L.2.1.2.2.2
  omega
/-- the counts of a sort stay -/
theorem PB_kc (P : PBt n b N0 M0 l w m xs hc hr) (K : KP hc hc') (s : Int) : kc hc' s xs = kc hc s xs := by
  obtain ⟨-, p1, -, p3, -⟩ := PB_l P
  exact kc_cg xs (fun x hx => by
    obtain ⟨a1, a2, a3⟩ := p3 x hx
    exact (KP_sm K (by omega) a2 a3 (by omega) (by omega)).1 0)
/-- the list under new cells -/
theorem PB_LSt {A Q : Nat} (L : LSt h0 N0 N0 xs A Q) (hN0 : 448 ≤ N0 ∧ N0 ≤ hN h0) (F : FK N0 h0 h3) (S : SAt h0 h3) : LSt h3 N0 N0 xs A Q := by
  have hA : sm h0 h3 A := by
    rcases L.2.2.1 with ⟨z, -⟩ | ⟨z1, z2, -⟩
    · have := F.2 A (by omega)
      exact ⟨fun j => this.2.2.2 j (by omega), this.2.2.1, this.1, this.2.1⟩
    · exact S A (by omega) z2
  exact LSt_c L F.1.1 (S N0 (by omega) L.1.2.1) hA (fun y hy => by
    obtain ⟨j, hj⟩ := List.getElem?_of_mem hy
    obtain ⟨-, d2, d3, -⟩ := L.2.2.2 j y hj
    exact (S y (by omega) d3).2.2.1)
/-- both have gone on, no step is new -/
theorem PB_go (P : PBt n b N0 M0 l w m xs hc hr) (B : BX sl' n b l' q' m' 0 hc' hr') (hm : m' ≤ l') (hl : l ≤ l') (f : FC q hc hc') (hw : (tkW n b l : Int) + w ≤ (tkW n b l' : Int) + w') : PBt n b N0 M0 l' w' m' xs hc' hr' := by
  obtain ⟨q0, sl0, A, Q, B0, hm0, L, hN0, t17, r15, rm, wt⟩ := id P
  obtain ⟨fn, fm⟩ := FC_nm f
  have e := f.1.1
  have eR : ∀ x j, hR hc' x j = hR hc x j := fun x j => by show hc'.2.1 x j = hc.2.1 x j; rw [e]
  have eT : ∀ x, hT hc' x = hT hc x := fun x => by show hc'.2.2.2.1 x = hc.2.2.2.1 x; rw [e]
  have eL : ∀ x, hL hc' x = hL hc x := fun x => by show hc'.2.2.2.2.1 x = hc.2.2.2.2.1 x; rw [e]
  refine ⟨q', sl', A, Q, B, hm, PB_LSt L hN0 (FK_FC f) (SA_FC f), ⟨hN0.1, by omega⟩, ⟨by rw [eT]; exact t17.1, by rw [eL]; exact t17.2⟩, ⟨by rw [eR]; exact r15.1, by rw [eR]; exact r15.2⟩, ⟨by omega, by omega, by omega⟩, ?_⟩
  rw [PB_kc P (KP_FC f), PB_kc P (KP_FC f)]
  omega
/-- a step is made and added -/
theorem PB_add {s k nm o : Int} {cd : Nat} (P : PBt n b N0 M0 l w m xs h0 t0) (B : BX sl' n b l' q' m' 0 h3 t1) (hm : m' ≤ l') (hl : l + 2 ≤ l') (F : FK N0 h0 h3) (S : SAt h0 h3) (rm : hN h3 ≤ hN h0 + 1 ∧ hM h3 + 2 * l ≤ hM h0 + 2 * l') (hw : (tkW n b l : Int) + w + (if s = 200 then 7 else if s = 217 then 6 else 0) ≤ (tkW n b l' : Int) + w') : ∃ h5 h6, c48 (hN h3) s (hI h0 15 9) k nm o cd (mkH h3 22 6) = some h5 ∧ hR h5 15 12 = N0 ∧ hT h5 N0 = 8 ∧ hR h5 15 11 = 0 ∧ c49 N0 (hN h3) h5 = some (1, h6) ∧ PBt n b N0 M0 l' w' m' (xs ++ [hN h3]) h6 t1 ∧ SPc h6 (hN h3) s (hI h0 15 9) k nm o cd ∧ FK N0 h0 h6 ∧ KP h0 h6 ∧ KP h3 h6 ∧ (N0 ≤ hN h3 ∧ hN h3 < hN h6) ∧ FK N0 h3 h6 := by
  obtain ⟨l0, -, -, p3, -⟩ := PB_l P
  obtain ⟨q0, sl0, A, Q, B0, hm0, L, hN0, t17, r15, rm0, wt⟩ := id P
  have n3 := F.1.1
  obtain ⟨h5, y1, ⟨y2, y3⟩, y4, y5⟩ := c48_e (hc := h3) (s := s) (c := hI h0 15 9) (k := k) (nm := nm) (o := o) (cd := cd) (by omega)
  have L3 := PB_LSt L hN0 F S
  have L5 : LSt h5 N0 N0 xs A Q := PB_LSt (h0 := h3) L3 ⟨hN0.1, by omega⟩ (FK_FZ ⟨y4.1, fun x hx => y4.2 x (by omega)⟩) (fun y _ hy => y4.2 y hy)
  have f15 := F.2 15 (by omega)
  have f17 := F.2 17 (by omega)
  have z15 := y4.2 15 (by omega)
  have z17 := y4.2 17 (by omega)
  obtain ⟨h6, A', Q', g1, g2, ⟨g3, g3', g4, g5⟩, g6, g7⟩ := c49_e (x := hN h3) L5 (by omega) ⟨by omega, by omega, y5.1⟩ (by omega)
  have fz : FZ N0 h3 h6 := ⟨⟨by omega, by omega⟩, fun x hx => sm_tr (y4.2 x (by omega)) (g6 x hx)⟩
  have k36 : KP h3 h6 := ⟨by omega, fun y a1 a2 a3 a4 => sm_tr (y4.2 y a2) (g7 y (by omega) (by rw [(y4.2 y a2).2.2.1]; exact a3) (by rw [(y4.2 y a2).2.2.1]; exact a4))⟩
  have k06 : KP h0 h6 := KP_tr (KP_SA S n3) k36
  have sp := SPc_h y5 (g7 (hN h3) (by omega) (by rw [y5.1]; omega) (by rw [y5.1]; omega))
  have u17 := fz.2 17 (by omega)
  have u15 := fz.2 15 (by omega)
  refine ⟨h5, h6, y1, ?_, L5.1.2.2.1, ?_, g1, ⟨q', sl', A', Q', BS_z B fz (by omega), hm, g2, ⟨hN0.1, by omega⟩, ⟨?_, ?_⟩, ⟨?_, ?_⟩, ⟨?_, ?_, ?_⟩, ?_⟩, sp, FK_tr F (FK_FZ fz), k06, k36, ⟨by omega, by omega⟩, FK_FZ fz⟩
  · rw [z15.2.1, f15.2.2.1]; exact r15.2
  · rw [z15.2.1, f15.2.2.1]; exact r15.1
  · rw [u17.2.2.1, f17.1]; exact t17.1
  · rw [u17.2.2.2, f17.2.1]; exact t17.2
  · rw [u15.2.1, f15.2.2.1]; exact r15.1
  · rw [u15.2.1, f15.2.2.1]; exact r15.2
  · rw [List.length_append]
    show 2 * (xs.length + 1) ≤ l'
    omega
  · rw [List.length_append]
    show _ ≤ 5 * N0 + 5 + 10 * (xs.length + 1) + Q'
    omega
  · rw [List.length_append]
    show _ ≤ M0 + 3 + 6 * (xs.length + 1) + 2 * l' + 4 * Q'
    omega
  · rw [kc_app, kc_app, PB_kc P k06, PB_kc P k06]
    show ((7 * (kc h0 200 xs + ((if hI h6 (hN h3) 0 = 200 then 1 else 0) + 0)) + 6 * (kc h0 217 xs + ((if hI h6 (hN h3) 0 = 217 then 1 else 0) + 0)) : Nat) : Int) ≤ _
    rw [sp.2.1]
    by_cases c : s = 200
    · rw [if_pos c] at hw
      rw [if_pos c, if_neg (by omega)]
      omega
    · rw [if_neg c] at hw
      rw [if_neg c]
      by_cases c2 : s = 217
      · rw [if_pos c2] at hw
        rw [if_pos c2]
        omega
      · rw [if_neg c2] at hw
        rw [if_neg c2]
        omega
/-- what is read of a member or an edit -/
def MQe (n : Nat) (b : Nat → Int) (N0 M0 l : Nat) (w : Int) (m : Nat) (xs : List Nat) (kn : Int) (e : Nat) (hc hr hc' hr' : hS) : Prop := ∃ l' m' x i : Nat, (l < l' ∧ m' + l ≤ m + l') ∧ PBt n b N0 M0 l' w m' (xs ++ [x]) hc' hr' ∧ KP hc hc' ∧ (∀ t, t < m → ∀ j, j < 5 → nd hr' t j = nd hr t j) ∧ (m ≤ i ∧ i < m') ∧ hI hr' 395 22 = (i : Int) ∧ nd hr' i 4 = -1 ∧ MEm (nd hr') hc' N0 m (hI hc 15 9) kn i x ∧ (N0 ≤ x ∧ x < hN hc') ∧ (e = 0 → nd hr' i 0 ≤ 32)
theorem tkW_le (hl : l ≤ l') (h : l' ≤ (TK n b).length) : (tkW n b l : Int) + ((l' - l : Nat) : Int) ≤ (tkW n b l' : Int) := by
  have := tkW_m (n := n) (b := b) (l := l) (e := l' - l) (by omega)
  rw [show l + (l' - l) = l' by omega] at this
  omega
end PBS
