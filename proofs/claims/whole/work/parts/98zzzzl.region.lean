/-! a kept patch: its cells lie together, from N0 below N1 -/
/-- as if nothing lay from N1 on -/
def cutN (N1 : Nat) (h : hS) : hS := (h.1, h.2.1, h.2.2.1, h.2.2.2.1, h.2.2.2.2.1, N1, h.2.2.2.2.2.2)
/-- patch k as it is kept -/
def PKq (h t : hS) (K : Nat → Int → Prop) (k N0 N1 : Nat) : Prop := (448 ≤ N0 ∧ N0 ≤ N1 ∧ N1 ≤ hN h) ∧ ∃ (S A qq : Nat) (us Lc : List Nat) (f : Nat), hR h (hR h 50 k) 0 = S ∧ LSt (cutN N1 h) N0 S us A qq ∧ us.length ≤ 500 ∧ 7 * kc h 200 us + 6 * kc h 217 us ≤ 1001 ∧ hI t 401 k = 1200 * ((k : Int) + 1) + (f : Int) ∧ LK (ntx t (k + 1)) Lc (f : Int) ∧ (∀ i ∈ Lc, i < 1200) ∧ CHS (ntx t (k + 1)) (cutN N1 h) N0 0 Lc us ∧ ∀ y ∈ us, hR h y 5 < N1 ∧ HKs K (cutN N1 h) t N1 (k + 1) N0 y
/-- what lies from N0 on stays -/
def HPq (N0 : Nat) (h h' : hS) : Prop := hN h ≤ hN h' ∧ ∀ y, N0 ≤ y → y < hN h → hT h' y = hT h y ∧ (hT h y ≠ 26 → sm h h' y)
section REG
variable {h h' t t' : hS} {K K' : Nat → Int → Prop} {N : Nat → Nat → Int} {N0 N1 lo i x k S A qq tx P M cd : Nat} {c kn f : Int} {xs us Lc : List Nat}
theorem RU_p (B : RUc N h N0 M cd f) (a : HPq N0 h h') : RUc N h' N0 M cd f := RUc_h B a.1 ((a.2 cd B.1 B.2.1).2 (by rw [B.2.2.1]; omega))
theorem BD_p (B : BDc N h N0 lo M cd f) (a : HPq N0 h h') : BDc N h' N0 lo M cd f := BDc_h B a.1 ((a.2 cd B.1 B.2.1).2 (by rw [B.2.2.1]; omega))
theorem ME_p (Q : MEm N h N0 lo c kn i x) (a : HPq N0 h h') (hx : N0 ≤ x ∧ x < hN h) : MEm N h' N0 lo c kn i x := by
  obtain ⟨s, o, cd, a1, a2, a3⟩ := Q
  refine ⟨s, o, cd, SPc_h a1 ((a.2 x hx.1 hx.2).2 (by rw [a1.1]; omega)), a2, ?_⟩
  rcases a3 with b | b | ⟨b, b', b''⟩ | b | b | ⟨b, b', b''⟩
  · exact .inl b
  · exact .inr (.inl b)
  · exact .inr (.inr (.inl ⟨b, b', BD_p b'' a⟩))
  · exact .inr (.inr (.inr (.inl b)))
  · exact .inr (.inr (.inr (.inr (.inl b))))
  · exact .inr (.inr (.inr (.inr (.inr ⟨b, b', RU_p b'' a⟩))))
theorem CH_p (Q : CHg N h N0 lo c i xs) (a : HPq N0 h h') (hx : ∀ x ∈ xs, N0 ≤ x ∧ x < hN h) : CHg N h' N0 lo c i xs := by
  obtain ⟨a1, x0, ys, rfl, a2⟩ := Q
  have hx0 := hx x0 List.mem_cons_self
  have s0 : hT h x0 = 22 → sm h h' x0 := fun z => (a.2 x0 hx0.1 hx0.2).2 (by omega)
  have m : ∀ {L : List Nat}, MES N h N0 lo c (N i 1) L ys → MES N h' N0 lo c (N i 1) L ys := fun Q => MES_im (fun j x hj hx2 q => ME_p q a (hx x (List.mem_cons_of_mem _ hx2))) Q
  refine ⟨a1, x0, ys, rfl, ?_⟩
  rcases a2 with ⟨b1, b2, b3, L, b4, b5, b6⟩ | ⟨b1, b3, L, b4, b5, b6⟩ | ⟨b0, b⟩
  · exact .inl ⟨b1, b2, SPc_h b3 (s0 b3.1), L, b4, b5, m b6⟩
  · exact .inr (.inl ⟨b1, SPc_h b3 (s0 b3.1), L, b4, b5, m b6⟩)
  · refine .inr (.inr ⟨b0, ?_⟩)
    rcases b with ⟨b1, b3⟩ | ⟨b1, b2, b3⟩ | ⟨b1, cd, b3, b4⟩
    · exact .inl ⟨b1, SPc_h b3 (s0 b3.1)⟩
    · exact .inr (.inl ⟨b1, b2, SPc_h b3 (s0 b3.1)⟩)
    · exact .inr (.inr ⟨b1, cd, SPc_h b3 (s0 b3.1), RU_p b4 a⟩)
theorem CHS_p {n : Nat} (Q : CHS N h N0 n Lc us) (a : HPq N0 h h') (hx : ∀ x ∈ us, N0 ≤ x ∧ x < hN h) : CHS N h' N0 n Lc us := CHS_im (fun _ _ _ _ hy q => CH_p q a (fun x hxy => hx x (hy x hxy))) Q
/-- codes that K knows stay known -/
theorem HK_p {y : Nat} (Q : HKs K h t P tx N0 y) (a : ∀ y, N0 ≤ y → y < hN h → hT h' y = hT h y ∧ (hT h y ≠ 26 → sm h h' y)) (hy : N0 ≤ y ∧ y < hN h) (ty : hT h y = 22) (h5 : hR h y 5 < hN h) (e : ∀ j, hI t' 399 j = hI t 399 j) (P' : P ≤ M) (hK : ∀ x v, K x v → K' x v) : HKs K' h' t' M tx N0 y := by
  obtain ⟨q1, q2⟩ := Q
  have en : ntx t' tx = ntx t tx := ntx_c e
  refine ⟨by omega, fun lo i f hi B => ?_⟩
  rw [((a y hy.1 hy.2).2 (by omega)).2.1] at B ⊢
  rw [en] at B
  obtain ⟨b1, b2, b3, C, b4, b5, b6⟩ := B
  have e3 := (a _ b1 h5).1
  rw [e3] at b3
  obtain ⟨s1, s2, s3, s4⟩ := (a _ b1 h5).2 (by omega)
  rw [s4] at b5
  exact hK _ _ (q2 lo i f hi ⟨b1, h5, b3, C, b4, b5, fun j z hz => by rw [← s1]; exact b6 j z hz⟩)
/-- the patch stays as it is kept -/
theorem PK_b (Q : PKq h t K k N0 N1) (a : ∀ y, N0 ≤ y → y < N1 → hT h' y = hT h y ∧ (hT h y ≠ 26 → sm h h' y)) (a6 : sm h h' 6) (e0 : hR h' (hR h' 50 k) 0 = hR h (hR h 50 k) 0) (e1 : hI t' 401 k = hI t 401 k) (e9 : ∀ j, hI t' 399 j = hI t 399 j) (en : N1 ≤ hN h') (hK : ∀ x v, K x v → K' x v) : PKq h' t' K' k N0 N1 := by
  obtain ⟨⟨n1, n2, n3⟩, S, A, qq, us, Lc, f, q1, q2, q3, q4, q5, q6, q7, q8, q9⟩ := Q
  have nx : ntx t' (k + 1) = ntx t (k + 1) := ntx_c e9
  have a' : HPq N0 (cutN N1 h) (cutN N1 h') := ⟨Nat.le_refl _, fun y y1 y2 => a y y1 y2⟩
  have hus : ∀ x ∈ us, N0 ≤ x ∧ x < N1 := fun x hx => by
    obtain ⟨i, hi⟩ := List.getElem?_of_mem hx
    obtain ⟨-, x2, x3, -⟩ := q2.2.2.2 i x hi
    exact ⟨x2, x3⟩
  have tus : ∀ x ∈ us, hT h x = 22 := fun x hx => by
    obtain ⟨i, hi⟩ := List.getElem?_of_mem hx
    exact (q2.2.2.2 i x hi).2.2.2
  have sus : ∀ x ∈ us, sm h h' x := fun x hx => (a x (hus x hx).1 (hus x hx).2).2 (by rw [tus x hx]; omega)
  refine ⟨⟨n1, n2, en⟩, S, A, qq, us, Lc, f, e0.trans q1, LSt_c q2 (Nat.le_refl _) ((a S q2.1.1 q2.1.2.1).2 (by have : hT h S = 8 := q2.1.2.2.1; omega)) ?_ (fun y hy => (sus y hy).2.2.1), q3, ?_, by rw [e1]; exact q5, by rw [nx]; exact q6, q7, by rw [nx]; exact CHS_p q8 a' hus, fun y hy => ⟨?_, ?_⟩⟩
  · rcases q2.2.2.1 with ⟨z, -⟩ | ⟨z1, z2, -⟩
    · rw [z]; exact a6
    · exact (a A z1 z2).2 (by have : hT h A = 19 := q2.2.1.1; omega)
  · rw [kc_cg us (fun y hy => (sus y hy).1 0), kc_cg us (fun y hy => (sus y hy).1 0)]
    exact q4
  · rw [(sus y hy).2.1]
    exact (q9 y hy).1
  · exact HK_p (h := cutN N1 h) (h' := cutN N1 h') (q9 y hy).2 (fun y y1 y2 => a y y1 y2) (hus y hy) (tus y hy) (q9 y hy).1 e9 (Nat.le_refl _) hK
theorem kc_cut {s : Int} : ∀ xs : List Nat, kc (cutN N1 h) s xs = kc h s xs := fun xs => kc_cg xs (fun _ _ => rfl)
/-- what making it rests on -/
theorem PK_r (Q : PKq h t K k N0 N1) (h448 : 448 ≤ hN h) : ∃ (S A qq : Nat) (us Lc : List Nat) (f : Nat), hR h (hR h 50 k) 0 = S ∧ LSt h N0 S us A qq ∧ 448 ≤ N0 ∧ A < hN h ∧ us.length ≤ 500 ∧ 7 * kc h 200 us + 6 * kc h 217 us ≤ 1001 ∧ hI t 401 k = 1200 * ((k : Int) + 1) + (f : Int) ∧ LK (ntx t (k + 1)) Lc (f : Int) ∧ (∀ i ∈ Lc, i < 1200) ∧ CHS (ntx t (k + 1)) h N0 0 Lc us ∧ ∀ y ∈ us, HKs K h t (hN h) (k + 1) N0 y := by
  obtain ⟨⟨n1, n2, n3⟩, S, A, qq, us, Lc, f, q1, q2, q3, q4, q5, q6, q7, q8, q9⟩ := Q
  have a' : HPq N0 (cutN N1 h) h := ⟨n3, fun y _ _ => ⟨rfl, fun _ => sm_rf⟩⟩
  have hus : ∀ x ∈ us, N0 ≤ x ∧ x < N1 := fun x hx => by
    obtain ⟨i, hi⟩ := List.getElem?_of_mem hx
    obtain ⟨-, x2, x3, -⟩ := q2.2.2.2 i x hi
    exact ⟨x2, x3⟩
  have tus : ∀ x ∈ us, hT h x = 22 := fun x hx => by
    obtain ⟨i, hi⟩ := List.getElem?_of_mem hx
    exact (q2.2.2.2 i x hi).2.2.2
  refine ⟨S, A, qq, us, Lc, f, q1, LSt_c q2 n3 sm_rf sm_rf (fun _ _ => rfl), n1, ?_, q3, q4, q5, q6, q7, CHS_p q8 a' hus, fun y hy => HK_p (h := cutN N1 h) (q9 y hy).2 (fun _ _ _ => ⟨rfl, fun _ => sm_rf⟩) (hus y hy) (tus y hy) (q9 y hy).1 (fun _ => rfl) n3 (fun _ _ z => z)⟩
  rcases q2.2.2.1 with ⟨z, -⟩ | ⟨z1, z2, -⟩
  · omega
  · have : A < N1 := z2
    omega
end REG
