/-! the begin holds; every turn keeps it; the law -/
section LWF
variable {h h' hc hr hc' hr' : hS} {n : Nat}
set_option maxRecDepth 100000 in
theorem ini_I : INq (fun _ _ => False) 213 0 0 (fun _ => 0) 0 0 (fun _ => 0) (fun _ => 0) h_W2 h_W2 := by
  obtain ⟨⟨e1, e2, e3, e4, e5⟩, ⟨f1, f2, f3, f4, f5, f6, f7, f8, f9⟩, ⟨g1, g2, g3, g4, g5, g6⟩, x1, rf, e87, ⟨l1, l2⟩⟩ := ini_e
  obtain ⟨d1, d2, d3⟩ := ini_d
  have hN2 : hN h_W2 = 448 := ini_f.2.2.2.2.2.2.2.2.1
  have j423 := ini_0 d2
  have j424 := ini_0 d3
  have RT' : RT h_W2 h_W2 (fun _ _ => False) 213 0 0 (fun _ => 0) := by
    refine ⟨⟨fun c hc => (ini_a c hc).1, fun c hc => (ini_a c hc).2.1⟩, ⟨⟨f1, by omega, fun j j0 j1 => by omega⟩, ⟨by omega, by omega, e1, e2, e3, e4, e5⟩, fun j j0 j1 => by omega, fun i j i0 i1 j0 j1 => by omega⟩, fun j j0 j1 => by omega, ⟨f2, f3, by omega, fun c hc => ⟨.inl (ini_a c hc).2.2.1, fun z => by omega, fun _ => (ini_a c hc).2.2.1, fun z => ?_⟩⟩, .inl rfl, fun _ _ z => z.elim⟩
    rw [(ini_a c hc).2.2.1] at z
    omega
  refine ⟨⟨RT', fun _ _ z => z.elim, by omega, ⟨fun e e1 e2 => ini_c e (by omega) e1, f4⟩, ⟨by rw [f5, f6], by rw [f5]; omega, fun i hi => by rw [f5] at hi; omega⟩, by rw [f7, f8], f9⟩, ⟨fun l hl => (ini_b l hl).1, fun l hl => ?_, fun l hl z => ?_⟩, ⟨g1, g2, by omega, fun k hk => by omega, fun j k hj => by omega, .inl ⟨g3, g4⟩⟩, fun k hk => by omega, ⟨fun j j0 j1 => by omega, by omega, g5, g6, fun j j0 j1 => by omega⟩, ⟨x1, fun c n hc hn => .inl (ini_0 (ini_a c hc).2.2.2 n), fun j _ => .inl (ini_0 d1 j)⟩, rf, e87, .inl ⟨l1, l2⟩⟩
  · have b := ini_b l hl
    unfold LA1
    rw [j423, j424, b.2.1, b.2.2]
    exact ⟨rfl, .inl rfl, rfl, .inl rfl, fun z => by omega, fun z => by omega⟩
  · rw [j423] at z
    omega
theorem ini_R : RELn 0 h_W2 h_W2 := by
  obtain ⟨⟨a1, a2⟩, ⟨b1, b2, b3, b4, b5, b6⟩, ⟨c1, c2, c3⟩, d1, ⟨n1, n2⟩, t1, t2, q7, hN2, hM2⟩ := ini_f
  obtain ⟨g1, g2, g3, ⟨g4, g5⟩, g6, g7⟩ := ini_g
  refine ⟨fun _ _ => False, 213, 0, 0, fun _ => 0, 0, 0, fun _ => 0, fun _ => 0, ini_I, ⟨⟨by rw [a1, a2], by omega, fun i hi => by omega⟩, ⟨fun i => hI h_W2 14 i, ⟨⟨b1, b2, b3, b4, b5, b6⟩, c1, c2, fun _ => rfl⟩, c3⟩, .inl d1, ⟨⟨by rw [n1, n2], by omega, by omega⟩, fun i hi => by omega⟩, t1, t2, by omega, by omega⟩, ⟨g1, g2, g3, ⟨by rw [g4, g5], by omega, by omega⟩, fun c hc => by omega, ⟨by rw [g6, g7], .inl g7⟩, ini_e.2.1.2.2.2.2.2.2.2.1⟩, by omega, ?_⟩
  unfold ROq wtq
  rw [if_pos ini_e.2.2.1.2.2.1]
  omega
theorem RD_l {C R : hS → Option Int64} (O : ∀ hc hr, RELn n hc hr → ∃ v, C hc = some v ∧ R hr = some v) (I : RELn n h h) : ∃ h', (C h).bind (fun p => (R h).bind (fun q => some (decide (p = q), h))) = some (true, h') ∧ RELn (n + 1) h' h' := by
  obtain ⟨v, e1, e2⟩ := O h h I
  refine ⟨h, ?_, REL_n I⟩
  refine bnd e1 ?_
  refine bnd e2 ?_
  rw [decide_eq_true rfl]
theorem rd5 (a : Int) : ∀ hc hr, RELn n hc hr → ∃ v, c97 a hc = some v ∧ c232 a hr = some v := fun hc hr ⟨_, _, _, _, _, _, _, _, _, _, _, S, _, _⟩ => api5 S.2.1 a
theorem rd6 : ∀ hc hr, RELn n hc hr → ∃ v, c98 hc = some v ∧ c238 hr = some v := fun hc hr ⟨_, _, _, _, _, _, _, _, _, I, _, _, _, _⟩ => api6 I.1.1.2.1 I.2.2.2.2.2.2.2.1
theorem rd7 (a b : Int) : ∀ hc hr, RELn n hc hr → ∃ v, c99 a b hc = some v ∧ c239 a b hr = some v := fun hc hr ⟨_, _, _, _, _, _, _, _, _, I, _, _, _, _⟩ => api7 I.1.1.2.1 I.2.2.2.2.2.2.2.1 a b
theorem rd9 (a : Int) : ∀ hc hr, RELn n hc hr → ∃ v, c102 a hc = some v ∧ c240 a hr = some v := fun hc hr ⟨_, _, _, _, _, _, _, _, _, I, _, _, _, _⟩ => api9 I.1.1.1 I.1.1.2.1 I.1.1.2.2.2.1 a
theorem rd10 (a : Int) : ∀ hc hr, RELn n hc hr → ∃ v, c104 a hc = some v ∧ c242 a hr = some v := fun hc hr ⟨_, _, _, _, _, _, _, _, _, I, _, _, _, _⟩ => api10 I.1.1.1 I.1.1.2.1 I.1.1.2.2.2.1 a
theorem rd11 (a b : Int) : ∀ hc hr, RELn n hc hr → ∃ v, c105 a b hc = some v ∧ c243 a b hr = some v := fun hc hr ⟨_, _, _, _, _, _, _, _, _, I, _, _, _, _⟩ => api11 I.1.1.1 I.1.1.2.1 I.1.1.2.2.1 I.1.1.2.2.2.1 a b
theorem rd12 (a b : Int) : ∀ hc hr, RELn n hc hr → ∃ v, c107 a b hc = some v ∧ c245 a b hr = some v := fun hc hr ⟨_, _, _, _, _, _, _, _, _, I, _, _, _, _⟩ => api12 I.1.1.1 I.1.1.2.1 I.1.1.2.2.1 I.1.1.2.2.2.1 a b
theorem rd14 (a b : Int) : ∀ hc hr, RELn n hc hr → ∃ v, c110 a b hc = some v ∧ c247 a b hr = some v := fun hc hr ⟨_, _, _, _, _, _, _, _, _, I, _, _, _, _⟩ => api14 I.1.1.2.1 I.1.1.2.2.1 I.2.2.2.2.2.2.2.1 a b
theorem rd16 (a : Int) : ∀ hc hr, RELn n hc hr → ∃ v, c134 a hc = some v ∧ c269 a hr = some v := fun hc hr ⟨_, _, _, _, _, _, _, _, _, _, _, S, _, _⟩ => api16 S.2.2.1 a
theorem rd19 (a : Int) : ∀ hc hr, RELn n hc hr → ∃ v, c166 a hc = some v ∧ c291 a hr = some v := fun hc hr ⟨_, _, _, _, _, _, _, _, _, I, _, S, _, _⟩ => api19 ⟨S.2.2.2.1.1, S.2.2.2.2.1⟩ I.1.1.2.2.2.1.1 I.1.1.2.2.2.1.2.1 I.1.1.2.2.2.1.2.2.1 a
theorem rd20 (a b : Int) : ∀ hc hr, RELn n hc hr → ∃ v, c167 a b hc = some v ∧ c292 a b hr = some v := fun hc hr ⟨_, _, _, _, _, _, _, _, _, I, _, _, _, _⟩ => api20 I.1.2.2.2.2.1 a b
theorem rd22 (a b : Int) : ∀ hc hr, RELn n hc hr → ∃ v, c170 a b hc = some v ∧ c294 a b hr = some v := fun hc hr ⟨_, _, _, _, _, _, _, _, _, I, _, _, _, _⟩ => api22 I.2.1.1 I.2.1.2.1 a b
theorem rd25 (a : Int) : ∀ hc hr, RELn n hc hr → ∃ v, c175 a hc = some v ∧ c297 a hr = some v := fun hc hr ⟨_, _, _, _, _, _, _, _, _, I, _, _, _, _⟩ => api25 I.2.2.1 a
theorem rd26 (a : Int) : ∀ hc hr, RELn n hc hr → ∃ v, c176 a hc = some v ∧ c298 a hr = some v := fun hc hr ⟨_, _, _, _, _, _, _, _, _, I, _, _, _, _⟩ => api26 I.2.2.2.2.2.2.1 a
theorem rd28 (a : Int) : ∀ hc hr, RELn n hc hr → ∃ v, c181 a hc = some v ∧ c249 a hr = some v := fun hc hr ⟨_, _, _, _, _, _, _, _, _, I, _, _, _, _⟩ => api28 I.1.1.1 I.1.1.2.1 I.1.1.2.2.1 I.1.1.2.2.2.1 a
theorem lwz_01 (x : Int) : lwz x = 0 ∨ lwz x = 1 := by
  unfold lwz
  split
  · exact .inl rfl
  · exact .inr rfl
theorem law_step (xs : List Int32) (i : Nat) (n5 : n < 512) (I : RELn n h h) : ∃ h', lwS xs i h = some (true, h') ∧ RELn (n + 1) h' h' := by
  unfold lwS
  split
  · exact OP_t (op0 _ _ _ _ _) n5 I
  · exact OP_t (op1 _) n5 I
  · exact OP_t op2 n5 I
  · exact OP_t op3 n5 I
  · exact OP_t op4 n5 I
  · exact RD_t (rd5 _) I
  · exact RD_t rd6 I
  · exact RD_t (rd7 _ _) I
  · exact OP_t (op8 _) n5 I
  · exact RD_t (rd9 _) I
  · exact RD_t (rd10 _) I
  · exact RD_t (rd11 _ _) I
  · exact RD_t (rd12 _ _) I
  · exact OP_t (op13 _ _ _) n5 I
  · exact RD_t (rd14 _ _) I
  · exact OP_t (op15 _ _ _) n5 I
  · exact RD_t (rd16 _) I
  · exact OP_t (op17 _) n5 I
  · exact OP_t op18 n5 I
  · exact RD_t (rd19 _) I
  · exact RD_t (rd20 _ _) I
  · exact OP_t (op21 _ _ _) n5 I
  · exact RD_t (rd22 _ _) I
  · exact OP_t (op23 _ _ (lwz_01 _)) n5 I
  · exact OP_t (op24 _) n5 I
  · exact RD_t (rd25 _) I
  · exact RD_t (rd26 _) I
  · exact OP_t op27 n5 I
  · exact RD_l (rd28 _) I
  · exact ⟨h, rfl, REL_n I⟩
theorem law_all : mm_claim 3072 := mm_of_inv (fun n h => RELn n h h) ini_R (fun xs _ _ I n5 => law_step xs _ n5 I) (fun n h I n5 => by
  obtain ⟨K, p, m, q, r, κ, G, R0, R1, -, -, -, -, ro⟩ := I
  unfold ROq at ro
  omega)
end LWF
