/-! call 27: back: no two fields come from one -/
/-- the last field of k below i that comes from s -/
def goB (t : hS) (a : Int) (m : Nat) (old k s : Int) : Nat → Int
  | 0 => -1
  | i + 1 => if fAt t 0 k i ≠ -1 ∧ SRC t 0 a m old (fAt t 0 k i) i = s then (i : Int) else goB t a m old k s i
/-- a field of the chain of old from kind to kind i, up to field fd of kind i -/
def prW (t : hS) (w old : Int) (i fd : Nat) (x : Nat) : Prop := ∃ j g : Nat, (j < i ∨ (j = i ∧ g < fd)) ∧ (g : Int) < wg t w (upn t w old j) 5 ∧ wg t w (upn t w old j) (6 + g) = (x : Int)
/-- whence fields have come, so far -/
def GQ (h0 t : hS) (m : Nat) (old k : Int) (pr : Nat → Prop) (h : hS) : Prop := fp (fun x _ => x = 52) h0 h ∧ ∀ s : Nat, s < 40 → (∀ n : Nat, n < 40 → pr n → SRC t 0 1 m old (fAt t 0 k n) n = (s : Int) → hI h 52 s = (n : Int)) ∧ ((∀ n : Nat, n < 40 → pr n → SRC t 0 1 m old (fAt t 0 k n) n ≠ (s : Int)) → hI h 52 s = -1)
section BK1
variable {h h0 h' t t' : hS} {K : Nat → Int → Prop} {p P m m0 len : Nat} {r r0 : Int → Nat} {a b k old u n n1 n2 u1 u2 s : Int}
theorem SRC_c (z : SRC t b a m old u n ≠ -1) : (orgq t b u n = SRC t b a m old u n ∧ wg t b u 4 ≠ -1 ∧ fAt t a old (SRC t b a m old u n) = wg t b u 4) ∨ (SRC t b a m old u n = n ∧ fAt t a old n ≠ -1 ∧ ∃ j : Nat, j < m ∧ wg t b (j : Int) 4 = fAt t a old n ∧ fIx t b (j : Int) n ≠ -1 ∧ orgq t b (j : Int) n = n) := by
  unfold SRC at z ⊢
  by_cases c1 : orgq t b u n ≠ -1 ∧ wg t b u 4 ≠ -1 ∧ fAt t a old (orgq t b u n) = wg t b u 4
  · rw [if_pos c1]
    exact .inl ⟨rfl, c1.2.1, c1.2.2⟩
  · rw [if_neg c1] at z ⊢
    by_cases c2 : fAt t a old n = -1 ∨ fAt t a old n = wg t b u 4
    · rw [if_pos c2] at z
      exact absurd rfl z
    · rw [if_neg c2] at z ⊢
      by_cases c3 : anyB (sBq t b (fAt t a old n) n) m = true
      · rw [if_pos c3]
        obtain ⟨j, j1, j2⟩ := anyB_t.1 c3
        unfold sBq at j2
        rw [decide_eq_true_iff] at j2
        exact .inr ⟨rfl, fun y => c2 (.inl y), j, j1, j2⟩
      · rw [if_neg c3] at z
        exact absurd rfl z
theorem SRC_f (z : SRC t b a m old u n ≠ -1) : fAt t a old (SRC t b a m old u n) ≠ -1 := by
  rcases SRC_c z with ⟨-, z2, z3⟩ | ⟨z1, z2, -⟩
  · rw [z3]; exact z2
  · rw [z1]; exact z2
theorem SRC_a (e : ∀ n, fAt t a old n = fAt t' b old n) (eg : wg t' = wg t) {d : Int} : SRC t' d b m old u n = SRC t d a m old u n := by
  unfold SRC sBq orgq fIx
  rw [← e, ← e, eg]
theorem org_u (Wb : WF t b m r) (Og : KOg t b a m0 u) (u0 : 0 ≤ u) (u1 : u < m) (f1 : fIx t b u n1 ≠ -1) (f2 : fIx t b u n2 ≠ -1) (e : orgq t b u n1 = orgq t b u n2) (z : orgq t b u n1 ≠ -1) : n1 = n2 := by
  obtain ⟨a1, a2, a3⟩ := fIx_lt Wb u0 u1 f1
  obtain ⟨b1, b2, b3⟩ := fIx_lt Wb u0 u1 f2
  have x1 : ((fIx t b u n1).toNat : Int) = fIx t b u n1 := by omega
  have x2 : ((fIx t b u n2).toNat : Int) = fIx t b u n2 := by omega
  have q := Og.2.2 (fIx t b u n1).toNat (fIx t b u n2).toNat (by omega) (by omega) (by rw [x1, x2]; exact e) (by rw [x1]; exact z)
  have e2 : fIx t b u n1 = fIx t b u n2 := by omega
  rw [e2] at a3
  exact a3.symm.trans b3
theorem org_k (nB : ∀ i j : Int, 0 ≤ i → i < m → 0 ≤ j → j < m → wg t b i 0 = wg t b j 0 → i = j) (O1 : KOg t b a m0 u1) (O2 : KOg t b a m0 u2) (x1 : 0 ≤ u1 ∧ u1 < m) (x2 : 0 ≤ u2 ∧ u2 < m) (e : wg t b u1 4 = wg t b u2 4) (z : wg t b u1 4 ≠ -1) : u1 = u2 := by
  have e1 := O1.1
  have e2 := O2.1
  rcases ix_b (fun k : Nat => wg t a (k : Int) 0) (wg t b u1 0) m0 with y | ⟨y, y1, -, y3, -⟩
  · exact absurd (e1.trans y) z
  · rcases ix_b (fun k : Nat => wg t a (k : Int) 0) (wg t b u2 0) m0 with v | ⟨v, v1, -, v3, -⟩
    · exact absurd ((e.trans e2).trans v) z
    · have yv : y = v := by
        have : (y : Int) = (v : Int) := by rw [← y1, ← v1, ← e1, ← e2]; exact e
        omega
      subst yv
      exact nB u1 u2 x1.1 x1.2 x2.1 x2.2 (y3.symm.trans v3)
theorem SRC_u (Wb : WF t b m r) (nB : ∀ i j : Int, 0 ≤ i → i < m → 0 ≤ j → j < m → wg t b i 0 = wg t b j 0 → i = j) (Og : ∀ j : Int, 0 ≤ j → j < m → KOg t b a m0 j) (k0 : 0 ≤ k ∧ k < m) (x1 : fAt t b k n1 ≠ -1) (x2 : fAt t b k n2 ≠ -1) (e1 : SRC t b a m old (fAt t b k n1) n1 = s) (e2 : SRC t b a m old (fAt t b k n2) n2 = s) (z : s ≠ -1) : n1 = n2 := by
  obtain ⟨⟨u0, u1⟩, hF1⟩ := (fAt_b (n := n1) Wb (.inr k0)).resolve_left x1
  obtain ⟨⟨v0, v1⟩, hF2⟩ := (fAt_b (n := n2) Wb (.inr k0)).resolve_left x2
  generalize fAt t b k n1 = p1 at *
  generalize fAt t b k n2 = p2 at *
  have q1 := SRC_c (t := t) (b := b) (a := a) (m := m) (old := old) (u := p1) (n := n1) (by rw [e1]; exact z)
  have q2 := SRC_c (t := t) (b := b) (a := a) (m := m) (old := old) (u := p2) (n := n2) (by rw [e2]; exact z)
  rw [e1] at q1
  rw [e2] at q2
  rcases q1 with ⟨a1, a2, a3⟩ | ⟨a1, a2, j, a3, a4, a5, a6⟩
  · rcases q2 with ⟨b1, b2, b3⟩ | ⟨b1, b2, j, b3, b4, b5, b6⟩
    · have := org_k nB (Og p1 u0 u1) (Og p2 v0 v1) ⟨u0, u1⟩ ⟨v0, v1⟩ (a3.symm.trans b3) a2
      subst this
      exact org_u Wb (Og p1 u0 u1) u0 u1 hF1 hF2 (a1.trans b1.symm) (by rw [a1]; exact z)
    · rw [b1] at a3
      have := org_k nB (Og p1 u0 u1) (Og (j : Int) (by omega) (by omega)) ⟨u0, u1⟩ ⟨by omega, by omega⟩ (a3.symm.trans b4.symm) a2
      subst this
      exact org_u Wb (Og (j : Int) u0 u1) u0 u1 hF1 b5 (a1.trans (b1.trans b6.symm)) (by rw [a1]; exact z)
  · rcases q2 with ⟨b1, b2, b3⟩ | ⟨b1, b2, -⟩
    · rw [a1] at b3
      have := org_k nB (Og p2 v0 v1) (Og (j : Int) (by omega) (by omega)) ⟨v0, v1⟩ ⟨by omega, by omega⟩ (b3.symm.trans a4.symm) b2
      subst this
      exact (org_u Wb (Og (j : Int) v0 v1) v0 v1 hF2 a5 (b1.trans (a1.trans a6.symm)) (by rw [b1]; exact z)).symm
    · exact a1.symm.trans b1
theorem goB_c (t : hS) (a : Int) (m : Nat) (old k s : Int) : ∀ i : Nat, (goB t a m old k s i = -1 ∧ ∀ x : Nat, x < i → fAt t 0 k x ≠ -1 → SRC t 0 a m old (fAt t 0 k x) x ≠ s) ∨ ∃ x : Nat, x < i ∧ goB t a m old k s i = (x : Int) ∧ fAt t 0 k x ≠ -1 ∧ SRC t 0 a m old (fAt t 0 k x) x = s
  | 0 => .inl ⟨rfl, fun x hx => by omega⟩
  | i + 1 => by
    unfold goB
    by_cases c : fAt t 0 k i ≠ -1 ∧ SRC t 0 a m old (fAt t 0 k i) i = s
    · rw [if_pos c]
      exact .inr ⟨i, by omega, rfl, c⟩
    · rw [if_neg c]
      rcases goB_c t a m old k s i with ⟨y1, y2⟩ | ⟨x, y1, y2⟩
      · refine .inl ⟨y1, fun x hx f e => ?_⟩
        by_cases q : x = i
        · subst q
          exact c ⟨f, e⟩
        · exact y2 x (by omega) f e
      · exact .inr ⟨x, by omega, y2⟩
theorem goB_a (e : ∀ n, fAt t a old n = fAt t' b old n) (eg : wg t' = wg t) : ∀ i : Nat, goB t' b m old k s i = goB t a m old k s i
  | 0 => rfl
  | i + 1 => by
    have ef : fAt t' 0 k i = fAt t 0 k i := fAt_cg (fun x y => by rw [eg]) k i
    unfold goB
    rw [ef, SRC_a e eg, goB_a e eg i]
theorem prW_f {w : Int} (W : WF t w m r) (C : CF t w m) (hc : chq t w k m len) {i fd x : Nat} (hi : i < len ∨ (i = len ∧ fd = 0)) (z : prW t w k i fd x) : fAt t w k x ≠ -1 := by
  obtain ⟨j, g, z1, z2, z3⟩ := z
  have jl : j < len := by omega
  have := (fAt_c W C hc jl z2).2
  rw [z3] at this
  rw [this]
  have := (hc.2.1 j jl).1
  omega
theorem prW_e {w : Int} (W : WF t w m r) (C : CF t w m) (hc : chq t w k m len) (x : Nat) : prW t w k len 0 x ↔ fAt t w k x ≠ -1 := by
  refine ⟨fun z => prW_f W C hc (.inr ⟨rfl, rfl⟩) z, fun z => ?_⟩
  obtain ⟨i, f, f1, f2, f3, -⟩ := fAt_d W hc z
  exact ⟨i, f, .inl f1, f2, f3⟩
/-- one field more -/
theorem prW_s {w : Int} {i fd n : Nat} (hn : wg t w (upn t w k i) (6 + fd) = (n : Int)) (hf : (fd : Int) < wg t w (upn t w k i) 5) (x : Nat) : prW t w k i (fd + 1) x ↔ (prW t w k i fd x ∨ x = n) := by
  refine ⟨fun z => ?_, fun z => ?_⟩
  · obtain ⟨j, g, z1, z2, z3⟩ := z
    by_cases q : j = i ∧ g = fd
    · right
      rw [q.1, q.2, hn] at z3
      omega
    · exact .inl ⟨j, g, by omega, z2, z3⟩
  · rcases z with ⟨j, g, z1, z2, z3⟩ | z
    · exact ⟨j, g, by omega, z2, z3⟩
    · exact ⟨i, fd, .inr ⟨rfl, by omega⟩, hf, by rw [z]; exact hn⟩
/-- one kind more -/
theorem prW_k {w : Int} {i fd : Nat} (hf : wg t w (upn t w k i) 5 ≤ (fd : Int)) (x : Nat) : prW t w k i fd x ↔ prW t w k (i + 1) 0 x := by
  refine ⟨fun z => ?_, fun z => ?_⟩
  · obtain ⟨j, g, z1, z2, z3⟩ := z
    exact ⟨j, g, by omega, z2, z3⟩
  · obtain ⟨j, g, z1, z2, z3⟩ := z
    refine ⟨j, g, ?_, z2, z3⟩
    rcases z1 with z1 | z1
    · by_cases q : j = i
      · right
        refine ⟨q, ?_⟩
        rw [q] at z2
        omega
      · left; omega
    · omega
theorem kd_2 (e : h'.2 = h.2) (v : Int) : kd h' p v = kd h p v := by
  unfold kd
  rw [h2_R e]
theorem fp2_sm {S : Nat → Nat → Prop} (f : fp S h h') {x : Nat} (hx : ∀ j, ¬ S x j) : sm h h' x := ⟨fun j => f.2 x j (hx j), fun j => h2_R f.1 x j, h2_T f.1 x, h2_L f.1 x⟩
/-- one cell's numbers apart, a pond is as it was -/
theorem PW_f {S : Nat → Nat → Prop} {w : Int} (Pw : PW h t K p w m r) (f : fp S h h') (hS' : ∀ x j, (x = p ∨ x = p + 1 ∨ 448 ≤ x) → ¬ S x j) : PW h' t K p w m r :=
  PW_l2 Pw (fp2_sm f (fun j => hS' _ j (.inl rfl))) (fp2_sm f (fun j => hS' _ j (.inr (.inl rfl)))) (fun j j0 j1 o _ => fp2_sm f (fun i => hS' _ i (.inr (.inr (by have := kd_8 Pw j0 j1; omega))))) (by rw [h2_N f.1]; exact Nat.le_refl _) (fun _ _ _ _ _ _ => rfl) rfl
end BK1
