/-! going on: the class's steps, what both keep -/
def runS : Nat → hS → hS → Prop
  | 0, h, h' => h' = h
  | k + 1, h, h' => ∃ h1, hI h 22 7 = -1 ∧ (∃ d : Nat, hI h 22 3 = (d : Int) ∧ d ≤ 20 ∧ hT h (hR h 23 d) = 12 ∧ stepA (hR h 23 d) h = some h1) ∧ runS k h1 h'
/-- what holds at every step of a run -/
def BRt (K : Nat → Int → Prop) (p m q : Nat) (r : Int → Nat) (κ F0 : Nat) (h t : hS) : Prop := RT h t K p m q r ∧ CT h t K κ ∧ κ ≤ 6 ∧ F0k F0 ∧ ((∀ e, 1 ≤ e → e ≤ 20 → hR h 23 e = 27 + e ∧ hT h (27 + e) = 12) ∧ hR h 23 0 = F0 ∧ hT h F0 = 12) ∧ (hI h 22 10 = hI t 395 41 ∧ 0 ≤ hI t 395 41 ∧ hI t 395 41 ≤ 500) ∧ rnnR h t ∧ hI h 22 11 = hI t 395 60 ∧ hI t 395 54 = 0
/-- the run goes on at level d -/
def GOt (d : Nat) (h t : hS) : Prop := (hI h 22 3 = (d : Int) ∧ d ≤ 20) ∧ hI h 22 7 = -1 ∧ hI h 22 5 = 0 ∧ hI t 395 42 = 0
/-- how a piece of a run comes out -/
def RSL (K : Nat → Int → Prop) (p m q : Nat) (r : Int → Nat) (κ F0 d x c pos : Nat) (h t h' t' : hS) (how : Int) : Prop :=
  (how = 0 ∧ BRt K p m q r κ F0 h' t' ∧ GOt d h' t' ∧ FRQ h' t' K d (FF F0 d) x c ∧ hI h' (FF F0 d) 4 = (pos : Int) ∧ RCc p m F0 d h h' ∧ RCr d t t' ∧ hI h' 22 8 = hI h 22 8 ∧ hI h' 22 9 = hI h 22 9)
  ∨ (how = 1 ∧ BRt K p m q r κ F0 h' t' ∧ RCr d t t' ∧ hI t' 395 42 = 0 ∧ hI h' 22 9 = hI h 22 9 ∧ ((d = 0 ∧ RCc p m F0 0 h h' ∧ hI h' 22 7 = 0 ∧ hI h' 22 8 = hI t' 395 40) ∨ ∃ d1, d = d1 + 1 ∧ (∃ g, RCc p m F0 d h g ∧ h' = sI g (FF F0 d1) 5 (hI t' 395 40)) ∧ GOt d1 h' t' ∧ hI h' 22 8 = hI h 22 8))
  ∨ (how = 2 ∧ BRt K p m q r κ F0 h' t' ∧ RCc p m F0 d h h' ∧ RCr d t t' ∧ hI h' 22 8 = hI h 22 8 ∧ ((hI h' 22 7 = 1 ∧ hI h' 22 9 = hI t' 395 39 ∧ hI t' 395 42 = 0) ∨ (hI h' 22 7 = 4 ∧ hI h' 22 9 = hI h 22 9 ∧ hI t' 395 42 = 1)))
section GNG
variable {h h' h1 t t' t1 : hS} {K : Nat → Int → Prop} {p m q κ F0 d n x c k : Nat} {r : Int → Nat}
theorem runS_tr : ∀ {k k' : Nat} {h h1 h2 : hS}, runS k h h1 → runS k' h1 h2 → runS (k + k') h h2
  | 0, k', h, h1, h2, a, b => by
    have a : h1 = h := a
    subst a
    rw [Nat.zero_add]
    exact b
  | k + 1, k', h, h1, h2, ⟨g, a1, a2, a3⟩, b => by
    rw [show k + 1 + k' = (k + k') + 1 by omega]
    exact ⟨g, a1, a2, runS_tr a3 b⟩
theorem runS_E (d20 : d ≤ 20) {F : Nat} : ∀ {k : Nat} {h h' : hS}, runE F k h h' → hI h 22 3 = (d : Int) → hR h 23 d = F → hT h F = 12 → runS k h h'
  | 0, _, _, a, _, _, _ => a
  | k + 1, h, h', ⟨g, a1, a2, ⟨a3, a4⟩, a5⟩, e1, e2, e3 => by
    refine ⟨g, a1, ⟨d, e1, d20, by rw [e2]; exact e3, by rw [e2]; exact stepE_A a2⟩, runS_E d20 a5 (by rw [a4]; exact e1) ?_ ?_⟩
    · show g.2.1 23 d = F
      rw [a3]
      exact e2
    · show g.2.2.2.1 F = 12
      rw [a3]
      exact e3
theorem runS_one (h7 : hI h 22 7 = -1) (e1 : hI h 22 3 = (d : Int)) (d20 : d ≤ 20) {F : Nat} (e2 : hR h 23 d = F) (e3 : hT h F = 12) (s : stepA F h = some h') : runS 1 h h' := ⟨h', h7, ⟨d, e1, d20, by rw [e2]; exact e3, by rw [e2]; exact s⟩, rfl⟩
/-- the loop makes these steps -/
theorem runS_lp : ∀ {k : Nat} {h h' : hS} (l N : Nat), runS k h h' → l + k ≤ 1000000 → lp (fun s => c118_b29 s.1 s.2) (N + k) ((l : Int), h) = lp (fun s => c118_b29 s.1 s.2) N (((l + k : Nat) : Int), h')
  | 0, h, h', l, N, a, _ => by
    have a : h' = h := a
    rw [a]
    rfl
  | k + 1, h, h', l, N, ⟨g, a1, ⟨d, d1, d2, d3, d4⟩, a3⟩, hl => by
    rw [show N + (k + 1) = (N + k) + 1 by omega]
    have e : c118_b29 (l : Int) h = some (.inl (((l + 1 : Nat) : Int), g)) := by
      unfold c118_b29 c118_j80
      rw [if_neg (show ¬ (1000000 : Int) ≤ (l : Int) by omega), if_pos a1, d1, aRs_s (by omega) (by omega), Int.toNat_natCast]
      refine bnd rfl ?_
      rw [kT_s d3]
      refine bnd rfl ?_
      have w : wadd (l : Int) 1 = ((l + 1 : Nat) : Int) := by rw [wadd_e (by omega) (by omega)]; rfl
      rw [w]
      unfold stepA at d4
      cases h1 : c119 (hR h 23 d) h with
      | none => rw [h1] at d4; cases d4
      | some v =>
        rw [h1] at d4
        simp only [bsome] at d4 ⊢
        cases h2 : c120 (hR h 23 d) v.1 v.2 with
        | none => rw [h2] at d4; cases d4
        | some w =>
          rw [h2] at d4
          simp only [bsome] at d4 ⊢
          by_cases z : w.1 = 0
          · rw [if_pos z] at d4 ⊢
            rw [d4]
            rfl
          · rw [if_neg z] at d4 ⊢
            rw [Option.some.inj d4]
    rw [lp_n (s' := (((l + 1 : Nat) : Int), g)) e, runS_lp (l + 1) N a3 (by omega)]
    rw [show l + 1 + k = l + (k + 1) by omega]
theorem FRQ_ce {nc : Nat} (Q : FRQ h t K d (FF F0 d) x c) (a : ceF (FF F0 d) h h') (b : fe nc t t') : FRQ h' t' K d (FF F0 d) x c := by
  obtain ⟨C, ⟨d1, d2, d3⟩, g1, g2, g3, n, j, k, ⟨n1, n2, n3⟩, n4, n5, n6, n7, n8⟩ := Q
  have hF := C.2.2.2.2.2
  have eR : ∀ x j, hR h' x j = hR h x j := fun x j => by show h'.2.1 x j = h.2.1 x j; rw [a.1]
  have eb : ∀ x j, x ≠ 395 → x ≠ 417 → hI t' x j = hI t x j := fun x j h1 h2 => b.2 x j (by omega)
  refine ⟨FCT_ce C a, ⟨d1, by rw [eR]; exact d2, by rw [a.2 (215 + 4 * c) 1 (by omega)]; exact d3⟩, by rw [eb 408 d (by omega) (by omega)]; exact g1, by rw [a.2 _ 6 (by omega), eb 409 d (by omega) (by omega)]; exact g2, by rw [a.2 _ 5 (by omega), eb 410 d (by omega) (by omega)]; exact g3, n, j, k, ⟨n1, by rw [a.2 _ 2 (by omega)]; exact n2, by rw [eb 413 d (by omega) (by omega)]; exact n3⟩, by rw [eb 412 d (by omega) (by omega)]; exact n4, by rw [eb 411 d (by omega) (by omega)]; exact n5, n6, ?_, by rw [eb 414 _ (by omega) (by omega)]; exact n8⟩
  rw [eR]
  exact ACH_c n7 (fun a' Q' => KD_chg (ce_chg C a) (fun x hx => by omega) Q') (fun i _ _ => ⟨eb 414 _ (by omega) (by omega), eb 415 _ (by omega) (by omega), eb 416 _ (by omega) (by omega)⟩)
theorem BR_c (R : BRt K p m q r κ F0 h t) (a : RCc p m F0 d h h') (b : RCr d t t') (R' : RT h' t' K p m q r) (cn : hI h' 22 10 = hI t' 395 41 ∧ 0 ≤ hI t' 395 41 ∧ hI t' 395 41 ≤ 500) (rn : rnnR h' t') (e54 : hI t' 395 54 = 0) : BRt K p m q r κ F0 h' t' := by
  obtain ⟨R0, C, hk, f, ⟨f1, f2⟩, -, -, n, -⟩ := R
  have r23 : ∀ j, hR h' 23 j = hR h 23 j := fun j => a.2.1 23 j (fun e _ e20 z => by have := FF_b (e := e) f e20; omega)
  refine ⟨R', CT_rc R0 f a b C, hk, f, ⟨fun e e1 e2 => ⟨by rw [r23]; exact (f1 e e1 e2).1, by rw [a.1.2.1]; exact (f1 e e1 e2).2⟩, by rw [r23]; exact f2.1, by rw [a.1.2.1]; exact f2.2⟩, cn, rn, ?_, e54⟩
  rw [a.2.2 22 11 (fun e _ e20 z => by have := FF_b (e := e) f e20; omega) (fun z => by
    rcases z with z | z | z | z | ⟨u, u0, u1, z⟩
    · omega
    · omega
    · omega
    · omega
    · have := (R0.2.1.2.2.1 u u0 u1).1.1; omega), b.2 395 60 (by omega)]
  exact n
theorem BR_F (R : BRt K p m q r κ F0 h t) (d20 : d ≤ 20) : hR h 23 d = FF F0 d := by
  unfold FF
  by_cases z : d = 0
  · rw [if_pos z, z]; exact R.2.2.2.2.1.2.1
  · rw [if_neg z]; exact (R.2.2.2.2.1.1 d (by omega) d20).1
theorem BR_ce {nc : Nat} (R : BRt K p m q r κ F0 h t) (d20 : d ≤ 20) (C : FCT h (FF F0 d) x) (a : ceF (FF F0 d) h h') (b : fe nc t t') (e54 : hI t' 395 54 = 0) : BRt K p m q r κ F0 h' t' := by
  have hF := C.2.2.2.2.2
  refine BR_c R (RCc_ce C R.2.2.2.1 d20 a) (RCr_fe b) (RT_c R.1 (ce_chg C a) (fun y j hy => b.2 y j (by omega))) ?_ ?_ e54
  · rw [a.2 22 10 (by omega), b.2 395 41 (by omega)]; exact R.2.2.2.2.2.1
  · obtain ⟨r1, r2, r3⟩ := R.2.2.2.2.2.2.1
    refine ⟨by rw [a.2 22 13 (by omega), b.2 395 66 (by omega)]; exact r1, by rw [a.2 22 13 (by omega)]; exact r2, fun i hi => ?_⟩
    rw [a.2 22 13 (by omega)] at hi
    rw [a.2 26 _ (by omega), a.2 26 _ (by omega), a.2 26 _ (by omega), a.2 26 _ (by omega), b.2 419 i (by omega), b.2 420 i (by omega), b.2 421 i (by omega), b.2 422 i (by omega)]
    exact r3 i hi
theorem FRQ_X (R : BRt K p m q r κ F0 h t) (d20 : d ≤ 20) (Q : FRQ h t K d (FF F0 d) x c) : XCt h t K p m q r (FF F0 d) x c d := ⟨R.1, Q.1, Q.2.1, by omega, Q.2.2.1, Q.2.2.2.1, Q.2.2.2.2.1⟩
theorem BR_T (R : BRt K p m q r κ F0 h t) (d20 : d ≤ 20) : hT h (FF F0 d) = 12 := by
  unfold FF
  by_cases z : d = 0
  · rw [if_pos z]; exact R.2.2.2.2.1.2.2
  · rw [if_neg z]; exact (R.2.2.2.2.1.1 d (by omega) d20).2
/-- an expression of a statement -/
theorem EVS {tx i : Nat} {C : List Int} {pos : Nat} (R : BRt K p m q r κ F0 h t) (G : GOt d h t) (Q : FRQ h t K d (FF F0 d) x c) (ht : tx ≤ 6) (E : EX (ntx t tx) (i + 1) 53 i C) (hi : i < 1200) (cd : ∀ (j : Nat) (v : Int), C[j]? = some v → hI h x (pos + j) = v) (hl : pos + C.length ≤ hL h x) (hq : hI h (FF F0 d) 4 = (pos : Int)) : (∃ (t' h' : hS) (kk : Nat) (v : Int), kk ≤ C.length ∧ runS kk h h' ∧ okE (FF F0 d) pos C.length 0 h h' v ∧ fe 0 t t' ∧ hI t' 395 52 = v ∧ g258 120 258 [gn tx i, (d : Int)] t = some (1, t') ∧ BRt K p m q r κ F0 h' t' ∧ FRQ h' t' K d (FF F0 d) x c ∧ RCc p m F0 d h h' ∧ RCr d t t' ∧ hI h' 22 3 = (d : Int) ∧ hI t' 395 42 = 0 ∧ hI h' 22 8 = hI h 22 8 ∧ hI h' 22 10 = hI h 22 10 ∧ hI t' 395 41 = hI t 395 41) ∨ (∃ (t' h' : hS) (kk : Nat), kk ≤ C.length ∧ runS kk h h' ∧ g258 120 258 [gn tx i, (d : Int)] t = some (0, t') ∧ hI t' 395 41 = hI t 395 41 ∧ RSL K p m q r κ F0 d x c 0 h t h' t' 2) := by
  obtain ⟨⟨g1, g2⟩, g3, g4, g5⟩ := G
  have X := XC_G (FRQ_X R g2 Q)
  have hF := Q.1.2.2.2.2.2
  have e54 := R.2.2.2.2.2.2.2.2
  have D := DV_C (EVL ht (i + 1) (q := pos) (n := 0) (nc := 0) (f := 119) E X cd hl hq g4 (by omega) g3 e54 (by omega) (by omega)) e54 hi
  rcases D with ⟨t', h', kk, v, b1, b2, b3, b4, b5, b6, b7, b8⟩ | ⟨t', h', kk, e, b1, b2, b3, b4, b5, b6, b7⟩
  · refine .inl ⟨t', h', kk, v, b1, runS_E g2 b2 g1 (BR_F R g2) Q.1.1, b3, b4, b5, b8, BR_ce R g2 Q.1 b3.1 b4 b6, FRQ_ce Q b3.1 b4, RCc_ce Q.1 R.2.2.2.1 g2 b3.1, RCr_fe b4, ?_, ?_, ?_, ?_, ?_⟩
    · rw [b3.1.2 22 3 (by omega)]; exact g1
    · rw [b4.2 395 42 (by omega)]; exact g5
    · rw [b3.1.2 22 8 (by omega)]
    · rw [b3.1.2 22 10 (by omega)]
    · rw [b4.2 395 41 (by omega)]
  · refine .inr ⟨t', h', kk, b1, runS_E g2 b2 g1 (BR_F R g2) Q.1.1, b7, by rw [b4.2 395 41 (by omega)], .inr (.inr ⟨rfl, BR_ce R g2 Q.1 b3.1 b4 b6, RCc_ce Q.1 R.2.2.2.1 g2 b3.1, RCr_fe b4, by rw [b3.1.2 22 8 (by omega)], .inl ⟨b3.2.1, by rw [b3.2.2.1, b5], by rw [b4.2 395 42 (by omega)]; exact g5⟩⟩)⟩
end GNG
