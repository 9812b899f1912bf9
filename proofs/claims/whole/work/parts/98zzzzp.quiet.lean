/-! the quiet point: what the class and the other side hold together -/
def XTq (h t : hS) : Prop := (hT h 52 = 1 ∧ hL h 52 = 40) ∧ (∀ c n, c < 40 → n < 40 → hI h (217 + 4 * c) n = 0 ∨ hI h (217 + 4 * c) n = 1) ∧ ∀ j, j < 1600 → hI t 407 j = 0 ∨ hI t 407 j = 1
/-- all that runs and is patched -/
def INq (K : Nat → Int → Prop) (p m q : Nat) (r : Int → Nat) (κ : Nat) (G : Int) (R0 R1 : Nat → Nat) (h t : hS) : Prop := RUNp K p m q r κ h t ∧ (SL h ∧ LA h t ∧ LRs h t K κ) ∧ PT h t κ ∧ PKs h t K p m κ R0 R1 ∧ GNq h t m G ∧ XTq h t ∧ rfsR h t ∧ hR h 8 7 = p ∧ LTq h t K p m κ G R0 R1
/-- no patch is made: what changes in the class -/
def qcH (h h' : hS) : Prop := (hN h ≤ hN h' ∧ hM h ≤ hM h') ∧ JQr h h' ∧ ∀ x, x < hN h → (hT h' x = hT h x ∧ hL h' x = hL h x) ∧ (∀ j, ¬ ((x = 24 ∧ (j = 0 ∨ j = 3)) ∨ x = 51 ∨ (53 ≤ x ∧ x < 213 ∧ j = 2 ∧ (x - 53) % 4 = 0) ∨ (x = 48 ∧ j = 5) ∨ (x = 8 ∧ j = 7)) → hR h' x j = hR h x j) ∧ ∀ j, ¬ ((x = 22 ∧ (j = 5 ∨ j = 7 ∨ j = 8 ∨ j = 9)) ∨ x = 25 ∨ (x = 24 ∧ (j = 4 ∨ j = 5 ∨ j = 6)) ∨ x = 52 ∨ (53 ≤ x ∧ x < 213 ∧ ¬ ((x - 53) % 4 = 0 ∧ j ≠ 1)) ∨ (x = 48 ∧ (j = 6 ∨ (10 ≤ j ∧ j ≤ 12))) ∨ (448 ≤ x ∧ hT h x = 26 ∧ j = 1)) → hI h' x j = hI h x j
def qcT (t t' : hS) : Prop := fp (fun x j => (x = 395 ∧ (j = 26 ∨ j = 28 ∨ j = 39 ∨ j = 52 ∨ j = 54 ∨ j = 82 ∨ j = 83 ∨ j = 84)) ∨ x = 402 ∨ x = 417 ∨ (438 ≤ x ∧ x ≤ 447) ∨ (408 ≤ x ∧ x ≤ 410 ∧ j = 0) ∨ (x = 400 ∧ 769 ≤ j ∧ j < 1538) ∨ (405 ≤ x ∧ x ≤ 407 ∧ 1600 ≤ j)) t t'
section QUI
variable {h h' h1 h2 h3 t t' t1 : hS} {K : Nat → Int → Prop} {p P m q κ : Nat} {r : Int → Nat} {G : Int} {R0 R1 : Nat → Nat}
theorem qc_s (a : qcH h h') (x : Nat) (hx : x < hN h) (z : (448 ≤ x ∧ hT h x ≠ 26) ∨ (213 ≤ x ∧ x < 448)) : sm h h' x := by
  obtain ⟨⟨a1, a2⟩, a3, a4⟩ := a.2.2 x hx
  exact ⟨fun j => a4 j (by omega), fun j => a3 j (by omega), a1, a2⟩
theorem RT_q (R : RT h t K p m q r) (a : qcH h h') (b : qcT t t') (h448 : 448 ≤ hN h) : RT h' t' K p m q r := by
  obtain ⟨S, Pw, T, C, hp, D⟩ := R
  have W := Pw.1
  have hm := W.2.1
  obtain ⟨P1, P2, P3, P4, P5, P6, P7⟩ := Pw.2.1
  have w0 : ∀ v g : Int, 0 ≤ v → v < 12 → 0 ≤ g → g < 64 → wg t' 0 v g = wg t 0 v g := fun v g v0 v1 g0 g1 => b.2 400 _ (by omega)
  have em : wm t' 0 = wm t 0 := b.2 400 _ (by omega)
  have sp : sm h h' p := qc_s a p (by omega) (by omega)
  have sp1 : sm h h' (p + 1) := qc_s a (p + 1) P2 (by omega)
  have ek : ∀ j : Int, 0 ≤ j → j < m → ∀ o, o ≤ 12 → sm h h' (kd h p j + o) := fun j j0 j1 o ho => by
    have Q := (Pw.2.2.1 j j0 j1).1
    exact qc_s a _ (by have := Q.2.1; omega) (.inl ⟨by have := Q.1; omega, KD_26 Q ho⟩)
  have hk : ∀ u : Int, kd h' p u = kd h p u := fun u => by
    unfold kd
    split
    · rfl
    · exact sp1.2.1 _
  have w0' : ∀ v g : Int, 0 ≤ v → v < m → 0 ≤ g → g < 64 → wg t' 0 v g = wg t 0 v g := fun v g v0 v1 g0 g1 => w0 v g v0 (by omega) g0 g1
  have ax : agx 0 0 m t t' := fun k f k0 k1 f0 f1 _ => w0' k f k0 k1 f0 f1
  have g : ∀ x, x < 448 → (hT h' x = hT h x ∧ hL h' x = hL h x) ∧ _ := fun x hx => a.2.2 x (by omega)
  refine ⟨⟨fun c c40 => ?_, fun c c40 => ?_⟩, PW_l2 Pw sp sp1 ek a.1.1 w0' em, TB_l2 W T hk (fun j j0 j1 o _ ho => ⟨(ek j j0 j1 o ho).1, (ek j j0 j1 o ho).2.1⟩) w0', ⟨by rw [(g 8 (by omega)).2.2 8 (by omega)]; exact C.1, by rw [b.2 395 33 (by omega)]; exact C.2.1, C.2.2.1, fun c c40 => ?_⟩, hp, fun x v hx => ?_⟩
  · obtain ⟨r1, s1, s2, s3, s4, s5, s6, s7⟩ := S.1 c c40
    have e := fun o (ho : o ≤ 3) => qc_s a (215 + 4 * c + o) (by omega) (by omega)
    have e0 := e 0 (by omega)
    rw [Nat.add_zero] at e0
    exact ⟨by rw [(g 19 (by omega)).2.1 c (by omega)]; exact r1, by rw [e0.2.2.1]; exact s1, by rw [e0.2.1]; exact s2, by rw [e0.2.1]; exact s3, by rw [e0.2.1]; exact s4, by rw [(e 1 (by omega)).2.2.1, (e 2 (by omega)).2.2.1, (e 3 (by omega)).2.2.1]; exact s5, by rw [(e 1 (by omega)).2.2.2, (e 2 (by omega)).2.2.2, (e 3 (by omega)).2.2.2]; exact s6, by rw [e0.1]; exact s7⟩
  · obtain ⟨r1, s1, s2, s3, s4, s5, s6, s7⟩ := S.2 c c40
    have e := fun o (ho : o ≤ 3) => g (53 + 4 * c + o) (by omega)
    have e0 := g (53 + 4 * c) (by omega)
    exact ⟨by rw [(g 49 (by omega)).2.1 c (by omega)]; exact r1, by rw [e0.1.1]; exact s1, by rw [e0.2.1 3 (by omega)]; exact s2, by rw [e0.2.1 4 (by omega)]; exact s3, by rw [e0.2.1 5 (by omega)]; exact s4, by rw [(e 1 (by omega)).1.1, (e 2 (by omega)).1.1, (e 3 (by omega)).1.1]; exact s5, by rw [(e 1 (by omega)).1.2, (e 2 (by omega)).1.2, (e 3 (by omega)).1.2]; exact s6, by rw [e0.2.2 0 (by omega)]; exact s7⟩
  · obtain ⟨r1, r2, r3, r4⟩ := C.2.2.2 c c40
    have e := fun o (ho : o ≤ 3) => qc_s a (215 + 4 * c + o) (by omega) (by omega)
    have e0 := e 0 (by omega)
    rw [Nat.add_zero] at e0
    rw [e0.1, b.2 403 c (by omega)]
    refine ⟨r1, r2, r3, fun z => ?_⟩
    obtain ⟨⟨k0, k1, k2⟩, kv⟩ := r4 z
    have e4 : hI t' 404 c = hI t 404 c := b.2 404 c (by omega)
    refine ⟨⟨by rw [e4]; exact k0, by rw [e4]; exact k1, by rw [e0.2.1, e4, hk]; exact k2⟩, fun n hn => ?_⟩
    obtain ⟨v1, v2, v3, v4⟩ := kv n hn
    rw [e4, fAt_x ax W (.inr ⟨k0, k1⟩), (e 1 (by omega)).1, (e 2 (by omega)).1, (e 3 (by omega)).1, b.2 405 _ (by omega), b.2 406 _ (by omega), b.2 407 _ (by omega)]
    exact ⟨v1, v2, v3, v4⟩
  · obtain ⟨⟨d1, d2, d3⟩, d4⟩ := D x v hx
    exact ⟨⟨d1, by have := a.1.1; omega, by rw [(a.2.2 x (by omega)).1.1]; exact d3⟩, fun j j0 j1 => by rw [hk]; exact d4 j j0 j1⟩
theorem CT_s (C : CT h t K κ) (e : ∀ x, 448 ≤ x → x < hN h → hT h x = 1 → (∃ v, K x v) → sm h h' x) (en : hN h ≤ hN h') (e9 : ∀ j, hI t' 399 j = hI t 399 j) : CT h' t' K κ := fun x v hx => by
  obtain ⟨c1, c2, c3, tx, fn, D, c4, c5, c6, c7, c8⟩ := C x v hx
  obtain ⟨s1, s2, s3, s4⟩ := e x c1 c2 c3 ⟨v, hx⟩
  have nx : ntx t' tx = ntx t tx := ntx_c e9
  exact ⟨c1, by omega, by rw [s3]; exact c3, tx, fn, D, c4, by rw [nx]; exact c5, c6, by rw [s4]; exact c7, fun i z hz => by rw [s1]; exact c8 i z hz⟩
theorem RUN_q (U : RUNp K p m q r κ h t) (a : qcH h h') (b : qcT t t') (h448 : 448 ≤ hN h) (e54 : hI t' 395 54 = 0) : RUNp K p m q r κ h' t' := by
  obtain ⟨R, C, hk, ⟨f1, f2⟩, rn, n, -⟩ := U
  have g : ∀ x, x < 448 → (hT h' x = hT h x ∧ hL h' x = hL h x) ∧ _ := fun x hx => a.2.2 x (by omega)
  exact ⟨RT_q R a b h448, CT_s C (fun x x1 x2 x3 _ => qc_s a x x2 (.inl ⟨x1, by omega⟩)) a.1.1 (fun j => b.2 399 j (by omega)), hk, ⟨fun e e1 e2 => ⟨by rw [(g 23 (by omega)).2.1 e (by omega)]; exact (f1 e e1 e2).1, by rw [(g (27 + e) (by omega)).1.1]; exact (f1 e e1 e2).2⟩, by rw [(g 24 (by omega)).1.1]; exact f2⟩, rnn_c rn (fun x j hx => (g x (by omega)).2.2 j (by omega)) (fun x j hx => b.2 x j (by omega)), by rw [(g 22 (by omega)).2.2 11 (by omega), b.2 395 60 (by omega)]; exact n, e54⟩
end QUI
