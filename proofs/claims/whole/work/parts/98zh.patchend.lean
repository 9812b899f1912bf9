/-! patches: how many bytes a text's tokens take -/
section WGT
variable {n l : Nat} {b : Nat → Int}
theorem kk_3 {f : Nat → Int} {j : Nat} (hj : j ≤ 3) (hf : ∀ t, t < j → 0 ≤ f t ∧ f t ≤ 26) : kk 27 f j ≤ 19682 := by
  have f0 := hf 0
  have f1 := hf 1
  have f2 := hf 2
  match j, hj with
  | 0, _ => show (0 : Int) ≤ 19682; omega
  | 1, _ => show (0 : Int) * 27 + f 0 ≤ 19682; omega
  | 2, _ => show ((0 : Int) * 27 + f 0) * 27 + f 1 ≤ 19682; omega
  | 3, _ => show (((0 : Int) * 27 + f 0) * 27 + f 1) * 27 + f 2 ≤ 19682; omega
theorem lexT_w {a : Nat} (ha : a < n) (e : (lexT b n wkf a).1 = 200 ∨ (lexT b n wkf a).1 = 217) : a + 4 ≤ (lexT b n wkf a).2.2 := by
  have hlt := lexT_end (b := b) (wk := wkf) ha
  unfold lexT at e hlt ⊢
  by_cases q : smL (b a) = true
  · rw [if_pos q] at e hlt ⊢
    obtain ⟨s1, s2, s3, -⟩ := spn_b (P := smL) (b := b) (n - a) a
    by_cases c : 6 < spn smL b (n - a) a - a
    · rw [if_pos c] at e
      rcases e with e | e <;> (have e : (3 : Int) = _ := e; omega)
    · rw [if_neg c] at e ⊢
      rcases ix_b wkf (kk 27 (ltr b a) (spn smL b (n - a) a - a)) 22 with z | ⟨j, z, z1, z2, -⟩
      · rw [if_pos z] at e
        rcases e with e | e <;> (have e : (1 : Int) = _ := e; omega)
      · rw [z, if_neg (show ¬ ((j : Int) = -1) by omega)] at e ⊢
        show a + 4 ≤ spn smL b (n - a) a
        have e : (200 : Int) + (j : Int) = 200 ∨ (200 : Int) + (j : Int) = 217 := e
        have hk : 19683 ≤ kk 27 (ltr b a) (spn smL b (n - a) a - a) := by
          rcases e with e | e
          · have hj : j = 0 := by omega
            rw [← z2, hj]
            decide
          · have hj : j = 17 := by omega
            rw [← z2, hj]
            decide
        by_cases c4 : a + 4 ≤ spn smL b (n - a) a
        · exact c4
        · exfalso
          have := kk_3 (f := ltr b a) (j := spn smL b (n - a) a - a) (by omega) (fun t ht => by
            have := s3 (a + t) (by omega) (by omega)
            have := of_decide_eq_true this
            unfold ltr
            omega)
          omega
  · rw [if_neg q] at e
    by_cases q2 : dgL (b a) = true
    · rw [if_pos q2] at e
      split at e
      · rcases e with e | e <;> (have e : (3 : Int) = _ := e; omega)
      · rcases e with e | e <;> (have e : (2 : Int) = _ := e; omega)
    · rw [if_neg q2] at e
      split at e
      · rcases e with e | e <;> (have e : (250 : Int) = _ := e; omega)
      · split at e
        · rename_i s
          rcases e with e | e
          · have e : b a = 200 := e
            rw [e] at s
            exact absurd s (by decide)
          · have e : b a = 217 := e
            rw [e] at s
            exact absurd s (by decide)
        · rcases e with e | e <;> (have e : (3 : Int) = _ := e; omega)
theorem wgt_tokb : ∀ {k a : Nat}, a ≤ n → wgt (tokb b n wkf k a) ≤ n - a
  | 0, a, _ => Nat.zero_le _
  | k + 1, a, h => by
    have tu : tokb b n wkf (k + 1) a = (if n ≤ a then [] else if spc (b a) = true then tokb b n wkf k (a + 1) else ((lexT b n wkf a).1, a, (lexT b n wkf a).2.1) :: tokb b n wkf k (lexT b n wkf a).2.2) := rfl
    rw [tu]
    by_cases c : n ≤ a
    · rw [if_pos c]; exact Nat.zero_le _
    · rw [if_neg c]
      by_cases c2 : spc (b a) = true
      · rw [if_pos c2]
        have := wgt_tokb (k := k) (a := a + 1) (by omega)
        omega
      · rw [if_neg c2]
        obtain ⟨e1, e2⟩ := lexT_end (b := b) (wk := wkf) (show a < n by omega)
        have e3 := lexT_w (b := b) (show a < n by omega)
        have e4 := wgt_tokb (k := k) (a := (lexT b n wkf a).2.2) e2
        show (if (lexT b n wkf a).1 = 200 ∨ (lexT b n wkf a).1 = 217 then 4 else 1) + wgt (tokb b n wkf k (lexT b n wkf a).2.2) ≤ n - a
        by_cases c3 : (lexT b n wkf a).1 = 200 ∨ (lexT b n wkf a).1 = 217
        · have := e3 c3
          rw [if_pos c3]
          omega
        · rw [if_neg c3]
          omega
theorem wgt_take : ∀ (xs : List (Int × Nat × Int)) (l : Nat), wgt (xs.take l) ≤ wgt xs
  | [], l => by simp
  | x :: r, 0 => Nat.zero_le _
  | x :: r, l + 1 => by
    show (if x.1 = 200 ∨ x.1 = 217 then 4 else 1) + wgt (r.take l) ≤ (if x.1 = 200 ∨ x.1 = 217 then 4 else 1) + wgt r
    have := wgt_take r l
    omega
theorem tkW_n (hn : n ≤ 1000) : tkW n b l ≤ 1001 := by
  have h1 := wgt_take (TK n b) l
  have h2 := wgt_tokb (n := n) (b := b) (k := n) (a := 0) (Nat.zero_le _)
  have h3 : wgt (TK n b) = wgt (tokb b n wkf n 0) + 1 := by
    unfold TK
    rw [wgt_app]
    rfl
  unfold tkW
  omega
end WGT
/-! patch: both read the tape -/
/-- a patch that is kept: its list, its nodes -/
def PK1 (hc hr : hS) (N0 k : Nat) : Prop := 448 ≤ N0 ∧ ∃ (S A q : Nat) (us L : List Nat) (f : Nat), hR hc (hR hc 50 k) 0 = S ∧ LSt hc N0 S us A q ∧ hI hr 401 k = 1200 * ((k : Int) + 1) + (f : Int) ∧ LK (ntx hr (k + 1)) L (f : Int) ∧ (∀ j ∈ L, j < 1200) ∧ CHS (ntx hr (k + 1)) hc N0 0 L us ∧ us.length ≤ 500 ∧ 7 * kc hc 200 us + 6 * kc hc 217 us ≤ 1001
section PTR
variable {hc hr : hS} {wk : Nat → Int}
theorem FX_tr {h1 h2 : hS} (a : FX hc h1) (b : FT (hN hc) h1 h2) : FX hc h2 := ⟨⟨Nat.le_trans a.1.1 b.1.1, Nat.le_trans a.1.2 b.1.2⟩, fun z hz => by
    obtain ⟨y1, y2, y3, y4⟩ := a.2 z hz
    obtain ⟨y5, y6, y7, y8⟩ := b.2 z hz
    exact ⟨y5.trans y1, y6.trans y2, fun j hj => (y7 j).trans (y3 j hj), fun j hj => (y8 j (by omega)).trans (y4 j hj)⟩⟩
theorem patch_r (Q : RQ hc hr) (E6 : hT hc 6 = 19 ∧ hL hc 6 = 0) : ∃ (x : (Int × hS) ⊕ (Int × hS)) (hr1 : hS) (v3 y : Int × hS) (n : Nat) (b : Nat → Int), n ≤ 1000 ∧ c42 0 hc = (xs x (fun x28 => (kB x28.1).bind (fun u29 => some (x28.1, x28.2))) (fun o28 => some o28)) ∧ c184 hr = some hr1 ∧ c228 hr1 = some v3 ∧ lp (fun s => c227_b39 s.1 s.2.1 s.2.2) hF0 (v3.1, hI v3.2 395 22, v3.2) = some y ∧ ((∃ hc' hr', x = .inl (0, hc') ∧ y = (0, hr') ∧ FX hc hc' ∧ FY hr hr' ∧ FLR (hN hc) (hM hc) hc' hr' ∧ hI hc' 9 1 = 0 ∧ lrn hr') ∨ (∃ hc' hr' l' m' us L, x = .inr (1, hc') ∧ y = (1, hr') ∧ FX hc hc' ∧ FY hr hr' ∧ TXq n b (hN hc) (hM hc) l' m' us L (hI v3.2 395 22) hc' hr' ∧ hI hc' 9 1 = 0)) := by
  obtain ⟨TP, ⟨wk, X, hw⟩, H, N, t16, t17, q7, h448⟩ := Q
  obtain ⟨n, hn⟩ : ∃ n : Nat, (n : Int) = hI hc 9 1 := ⟨(hI hc 9 1).toNat, by have := TP.2.1.1; omega⟩
  obtain ⟨p1, p2, p3⟩ := TP
  have TR : txr hr n (fun i => hI hc 10 i) := ⟨by rw [← p1]; exact hn.symm, by omega, fun i hi => ⟨(p3 i (by omega)).1.symm, (p3 i (by omega)).2⟩⟩
  have TA : txc hc n (fun i => hI hc 10 i) := ⟨hn.symm, by omega, fun i hi => ⟨rfl, (p3 i (by omega)).2⟩⟩
  have hn1 : n ≤ 1000 := by omega
  generalize (fun i => hI hc 10 i) = b at TA TR
  obtain ⟨h9, b1, CS9⟩ := c42_s 0 h448 TA X hw
  obtain ⟨hr1, d1, d2, d3, d4, d5, d6, d7, d8, d9, d10, d11, d12, d13⟩ := c184_e TR H
  obtain ⟨q, sl, q1, B0⟩ := BX_0 (by omega) CS9 N t16 q7 d2 d3 d4 d7 d9 d10 (d12 395 7 (by omega)) (fun j => d13 397 j (by omega))
  obtain ⟨s1, ⟨s2, s3, s4, s5, s6⟩, ⟨s7, s8⟩, ⟨s9, s10⟩, ⟨s11a, s11b, s11c, s11d⟩, s12⟩ := CS9
  obtain ⟨w1, w2, w3, w4⟩ := s12 17 (by omega)
  obtain ⟨v1, v2, v3, v4⟩ := s12 6 (by omega)
  have P0 : PBt n b (hN hc) (hM hc) 0 0 0 [] h9 hr1 := ⟨q, sl, 6, 0, B0, Nat.le_refl _, ⟨⟨Nat.le_refl _, by omega, s11a, s11c, s11b⟩, ⟨by rw [v1]; exact E6.1, by rw [v2]; exact E6.2, Nat.le_refl _, by show 0 ≤ 3 * 0 + 20; omega⟩, .inl ⟨rfl, rfl⟩, fun i x hx => by simp at hx⟩, ⟨h448, by omega⟩, ⟨by rw [w1]; exact t17.1, by rw [w2]; exact t17.2⟩, ⟨s7, s8⟩, ⟨by show 2 * 0 ≤ 0; omega, by show 5 * hN h9 ≤ 5 * hN hc + 5 + 10 * 0 + 0; omega, by show hM h9 ≤ hM hc + 3 + 6 * 0 + 2 * 0 + 4 * 0; omega⟩, by show ((7 * 0 + 6 * 0 : Nat) : Int) ≤ (tkW n b 0 : Int) + 0; omega⟩
  obtain ⟨x, x1, v3', x2, y, x3, E⟩ := RPp P0 s5
  rw [x1] at b1
  have f9 : FX hc h9 := ⟨⟨by omega, by omega⟩, fun z hz => by
    obtain ⟨y1, y2, y3, y4⟩ := s12 z (by omega)
    exact ⟨y1, y2, y3, fun j hj => y4 j (by omega)⟩⟩
  have g9 : FY hr hr1 := ⟨d5, d6, fun z j hz => d12 z j (by omega), fun z j hz => d13 z j (by omega)⟩
  have ff : ∀ h', FT (hN hc) h9 h' → FX hc h' ∧ hI h' 9 1 = 0 := fun h' f => ⟨FX_tr f9 f, by rw [(f.2 9 (by omega)).2.2.2 1 (by omega)]; exact s6⟩
  have gg : ∀ h', FW hr1 h' → FY hr h' ∧ lrn h' := fun h' f => ⟨⟨f.1.trans g9.1, f.2.1.trans g9.2.1, fun z j hz => (f.2.2.1 z j (by omega)).trans (g9.2.2.1 z j hz), fun z j hz => (f.2.2.2 z j (by omega)).trans (g9.2.2.2 z j hz)⟩, by
    refine ⟨?_, fun i hi => ?_⟩
    · rw [f.2.2.1 395 9 (by omega)]
      exact d3.1
    · rw [f.2.2.2 398 i (by omega)]
      exact d3.2 i hi⟩
  refine ⟨x, hr1, v3', y, n, b, hn1, b1, d1, x2, x3, ?_⟩
  rcases E with ⟨hc', hr', z1, z2, z3, z4, z5⟩ | ⟨hc', hr', l', m', us, L, z1, z2, z3, z4, z5⟩
  · exact .inl ⟨hc', hr', z1, z2, (ff _ z3).1, (gg _ z4).1, z5, (ff _ z3).2, (gg _ z4).2⟩
  · exact .inr ⟨hc', hr', l', m', us, L, z1, z2, (ff _ z3).1, (gg _ z4).1, z5, (ff _ z3).2⟩
end PTR
