/-! a patch is made: ready for the checks -/
/-- what the checks rest on: from hY, t5 -/
def CKB (hY t5 : hS) (K : Nat → Int → Prop) (P m q : Nat) (r : Int → Nat) : Prop := PW hY t5 K P 0 m r ∧ TB hY t5 P 0 m ∧ 448 ≤ P ∧ (hI t5 395 33 = (q : Int) ∧ q ≤ 40) ∧ (∀ c, c < 40 → hR hY 49 c = 53 + 4 * c ∧ SHc hY (53 + 4 * c) c) ∧ (∀ c, c < 40 → (hI hY (53 + 4 * c) 1 = 0 ∨ hI hY (53 + 4 * c) 1 = 1) ∧ (c < q → (hI hY (53 + 4 * c) 1 = 1 ↔ (hI t5 403 c ≠ 0 ∧ hI t5 446 c ≠ -1))) ∧ (q ≤ c → hI hY (53 + 4 * c) 1 = 0) ∧ (hI hY (53 + 4 * c) 1 = 1 → C1a hY t5 P m (53 + 4 * c) c)) ∧ hI t5 395 54 = 0 ∧ hT hY 24 = 12
section RDY
variable {hZ tZ h0 hY tY t5 : hS} {K : Nat → Int → Prop} {p P m0 m q pt S A qq N0 tx pk c : Nat} {r0 r : Int → Nat} {G f : Int} {us Lc : List Nat}
theorem wg_mv (M : MVq tY t5 m q) {k f : Int} (k0 : 0 ≤ k) (k1 : k < 12) (f0 : 0 ≤ f) (f1 : f < 64) : wg t5 0 k f = wg tY 1 k f ∧ wg t5 2 k f = wg tY 0 k f ∧ wg t5 1 k f = wg tY 1 k f := by
  obtain ⟨m1, m2, -⟩ := M
  obtain ⟨j, hj⟩ : ∃ j : Nat, 1 + 64 * k + f = (j : Int) := ⟨(1 + 64 * k + f).toNat, by omega⟩
  have jl : j < 769 := by omega
  obtain ⟨a, b, -⟩ := m2 j jl
  unfold wg
  refine ⟨?_, ?_, ?_⟩
  · rw [show (769 * 0 + 1 + 64 * k + f).toNat = j by omega, show (769 * 1 + 1 + 64 * k + f).toNat = 769 + j by omega]
    exact a
  · rw [show (769 * 2 + 1 + 64 * k + f).toNat = 1538 + j by omega, show (769 * 0 + 1 + 64 * k + f).toNat = j by omega]
    exact b
  · exact m1.2 400 _ (by omega)
theorem CKB_e (B : CAB hZ tZ h0 K p P m0 m q r0 r G pt S A qq N0 tx pk us Lc f) (C : CYq hZ tZ P m q 40 hY tY) (M : MVq tY t5 m q) : CKB hY t5 K P m q r := by
  obtain ⟨RT0, ⟨Pw1, TBn, C1', ⟨kb, ks⟩, KOs⟩, ⟨C0, P448, hPe⟩, -, -, -, -, T24, -⟩ := id B
  obtain ⟨SH0, Pw0, TB0', CR0, hp, KD0⟩ := RT0
  obtain ⟨⟨cH, cT⟩, e54, D, E⟩ := C
  have W1 := Pw1.1
  have hm := W1.2.1
  obtain ⟨m1, m2, m3, m4, m5, m6⟩ := id M
  have wz := wg_cy cT
  have ag : agw 0 m tZ t5 := fun k f k0 k1 f0 f1 => by rw [(wg_mv M k0 (by omega) f0 f1).1, cyT_w cT]
  have em : wm t5 0 = wm tZ 1 := by
    show hI t5 400 (769 * (0 : Int)).toNat = hI tZ 400 (769 * (1 : Int)).toNat
    have := (m2 0 (by omega)).1
    rw [show (769 * (0 : Int)).toNat = 0 by omega, show (769 * (1 : Int)).toNat = 769 + 0 by omega, this, cT.2 400 _ (by omega)]
  have smC : ∀ x, P ≤ x → sm hZ hY x := fun x hx => ⟨fun j => cH.2.2 x j (by omega), fun j => cH.2.1 x j (by omega), by rw [cH.1.2.1], by rw [cH.1.2.2.1]⟩
  have PW5 : PW hY t5 K P 0 m r := PW_w Pw1 ag em (fun x hx _ => smC x hx) (fun j j0 j1 => by have := kb j j0 j1; omega) (by rw [cH.1.2.2.2.1]; exact Nat.le_refl _) (fun _ _ z => z)
  have kk : ∀ u : Int, kd hY P u = kd hZ P u := kd_cy Pw1 cH (.inr P448)
  have TB5 : TB hY t5 P 0 m := TB_w W1 ag kk (fun j j0 j1 o ho => ⟨(smC _ (by have := kb j j0 j1; omega)).1, (smC _ (by have := kb j j0 j1; omega)).2.1⟩) TBn
  have q40 := CR0.2.2.1
  refine ⟨PW5, TB5, P448, ⟨by rw [m1.2 395 33 (by omega), cT.2 395 33 (by omega)]; exact CR0.2.1, q40⟩, fun c c40 => ⟨?_, ?_⟩, fun c c40 => ?_, by rw [m1.2 395 54 (by omega)]; exact e54, by rw [cH.1.2.1]; exact T24⟩
  · rw [cH.2.1 49 c (by omega)]
    exact (SH0.2 c c40).1
  · obtain ⟨q1, q2, q3, q4, q5, q6, q7⟩ := (SH0.2 c c40).2
    have rr : ∀ j, j ≠ 2 → hR hY (53 + 4 * c) j = hR hZ (53 + 4 * c) j := fun j hj => cH.2.1 _ _ (by omega)
    have gT := fun y => show hT hY y = hT hZ y by rw [cH.1.2.1]
    have gL := fun y => show hL hY y = hL hZ y by rw [cH.1.2.2.1]
    exact ⟨by rw [gT]; exact q1, by rw [rr 3 (by omega)]; exact q2, by rw [rr 4 (by omega)]; exact q3, by rw [rr 5 (by omega)]; exact q4, by rw [gT, gT, gT]; exact q5, by rw [gL, gL, gL]; exact q6, by rw [cH.2.2 _ _ (by omega)]; exact q7⟩
  · obtain ⟨d1, d2, -⟩ := D c c40
    obtain ⟨r1, r2, r3, r4⟩ := CR0.2.2.2 c c40
    have e403 : c < q → hI t5 403 c = hI hZ (215 + 4 * c) 1 := fun h => by rw [m1.2 403 c (by omega), cT.2 403 c (by omega)]; exact r2 h
    have e446 : hI t5 446 c = hI tY 446 c := m1.2 446 c (by omega)
    rcases r1 with z | z
    · obtain ⟨x1, x2⟩ := d1 z
      refine ⟨.inl x1, fun h => ?_, fun _ => x1, fun h => by omega⟩
      rw [e403 h, z, x1]
      exact ⟨fun y => by omega, fun y => absurd rfl y.1⟩
    · obtain ⟨x1, x2, x3⟩ := d2 z
      have cq : c < q := by
        by_cases y : c < q
        · exact y
        · have := r3 (by omega)
          omega
      by_cases y : toq tZ m c = -1
      · have w := x2 y
        refine ⟨.inl w, fun h => ?_, fun h => by omega, fun h => by omega⟩
        rw [e446, x1, y, w]
        exact ⟨fun v => by omega, fun v => absurd rfl v.2⟩
      · obtain ⟨w1, w2, w3⟩ := x3 y
        refine ⟨.inr w1, fun h => ?_, fun h => by omega, fun _ => ?_⟩
        · rw [e403 h, z, w1, e446, x1]
          exact ⟨fun _ => ⟨by omega, y⟩, fun _ => rfl⟩
        · -- the creature carried, beside the other side's
          have yb : 0 ≤ toq tZ m c ∧ toq tZ m c < m := by
            rcases nmx_b (hr := tZ) (m := m) (wg tZ 0 (hI tZ 404 c) 0) with v | v
            · exact absurd v y
            · exact ⟨v.1, v.2.1⟩
          obtain ⟨⟨o0, o1, o2⟩, ov⟩ := r4 z
          have e404 : hI t5 404 c = toq tZ m c := by
            rw [(m4 c cq).2, x1, if_neg y]
          obtain ⟨k, hk⟩ : ∃ k, toq tZ m c = k := ⟨_, rfl⟩
          rw [hk] at y yb e404 w2 w3 x1
          have fA : ∀ n : Int, fAt t5 0 k n = fAt tZ 1 k n := fun n => by
            have := fAt_x (n := n) (w := 1) (w' := 0) (fun a g a0 a1 g0 g1 _ => ag a g a0 a1 g0 g1) W1 (.inr yb)
            exact this
          have e4old : wg tZ 1 k 4 = hI tZ 404 c := by
            obtain ⟨-, -, bn⟩ : 0 ≤ toq tZ m c ∧ toq tZ m c < m ∧ wg tZ 1 (toq tZ m c) 0 = wg tZ 0 (hI tZ 404 c) 0 := by
              rcases nmx_b (hr := tZ) (m := m) (wg tZ 0 (hI tZ 404 c) 0) with v | v
              · rw [show nmx tZ m (wg tZ 0 (hI tZ 404 c) 0) = k from hk] at v
                exact absurd v y
              · exact v
            rw [hk] at bn
            have hm0 := Pw0.1.2.1
            rw [(KOs k yb.1 yb.2).1.1, bn]
            unfold nm0
            obtain ⟨X, hX⟩ : ∃ X : Nat, hI tZ 404 c = (X : Int) := ⟨(hI tZ 404 c).toNat, by omega⟩
            rw [hX]
            exact ix_at (g := fun k : Nat => wg tZ 0 (k : Int) 0) (u := X) (by omega) (fun a b a1 b1 e => by have := Pw0.2.2.2 (a : Int) (b : Int) (by omega) (by omega) (by omega) (by omega) e; omega)
          refine ⟨⟨by rw [e404]; exact yb.1, by rw [e404]; exact yb.2, by rw [w2, e404, kk]⟩, fun n hn => ?_⟩
          rw [e404, fA n]
          have t405 : ∀ n, n < 40 → hI tY 405 (40 * c + n) = hI tZ 405 (40 * c + n) ∧ hI tY 406 (40 * c + n) = hI tZ 406 (40 * c + n) ∧ hI tY 407 (40 * c + n) = hI tZ 407 (40 * c + n) := fun n hn => ⟨cT.2 405 _ (by omega), cT.2 406 _ (by omega), cT.2 407 _ (by omega)⟩
          obtain ⟨s5, s6, s7⟩ := t405 n hn
          have oo := ov n hn
          rw [show 215 + 4 * c + 1 = 216 + 4 * c by omega, show 215 + 4 * c + 2 = 217 + 4 * c by omega, show 215 + 4 * c + 3 = 218 + 4 * c by omega] at oo
          obtain ⟨o3, o4, o5, o6⟩ := oo
          rw [show 53 + 4 * c + 1 = 54 + 4 * c by omega, show 53 + 4 * c + 2 = 55 + 4 * c by omega, show 53 + 4 * c + 3 = 56 + 4 * c by omega]
          by_cases ch : wg tZ 1 k 3 = 1
          · have RW := (m6 c c40).1 ⟨cq, by rw [x1]; exact y, by rw [x1, cyT_w cT]; exact ch⟩ n hn
            rw [x1, cT.2 404 c (by omega)] at RW
            obtain ⟨v1, v2, v3⟩ := RW
            obtain ⟨u1, u2⟩ := w3.1 ch
            have lw := LSq_w (m := m) (old := hI tZ 404 c) (k := k) (n := n) wz
            obtain ⟨l1, l2⟩ := u2 n hn
            refine ⟨fun fz => ?_, ?_⟩
            · obtain ⟨y1, y2⟩ := (u1 n hn).1 fz
              rw [v1, y1, if_neg (by omega)]
              exact y2
            · by_cases L : LSq tZ m (hI tZ 404 c) k n
              · obtain ⟨p1, p2⟩ := l1 L
                obtain ⟨p3, p4⟩ := v2 (lw.2 L)
                rw [p1, p2, p3, p4, s5]
                exact ⟨.inr rfl, rfl, fun _ => o3 L.1⟩
              · obtain ⟨p1, p2⟩ := l2 L
                obtain ⟨p3, p4⟩ := v3 (fun z' => L (lw.1 z'))
                rw [p1, p2, p3, p4, s6, s7]
                exact ⟨o4, o5, o6⟩
          · have RS := (m6 c c40).2 (fun z' => ch (by have := z'.2.2; rw [x1, cyT_w cT] at this; exact this)) n hn
            obtain ⟨v1, v2, v3⟩ := RS
            obtain ⟨p1, p2, p3⟩ := w3.2 ch n hn
            rw [p1, p2, p3, v1, v2, v3, s5, s6, s7]
            refine ⟨fun fz => ?_, o4, o5, o6⟩
            refine o3 ?_
            have := ((KOs k yb.1 yb.2).2.2.2 ch (n : Int)).1 fz
            rw [e4old] at this
            exact this
end RDY
