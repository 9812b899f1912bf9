/-! blocks: statements told by nodes, their code with places of its own -/
/-- node i stands for the statement whose code, from place q on, is S; B: the blocks within, by nodes below i -/
def SS (N : Nat → Nat → Int) (B : Nat → Nat → Int → List Int → Prop) (o : Prop) (q i : Nat) (S : List Int) : Prop :=
  (N i 0 = 20 ∧ ∃ (a : Nat) (A : List Int), N i 2 = (a : Int) ∧ a < i ∧ EX N (a + 1) 53 a A ∧ (0 ≤ N i 1 ∧ N i 1 < 40) ∧ S = [253] ++ A ++ [61] ++ [N i 1])
  ∨ (∃ (a : Nat) (A : List Int) (w : Int), (N i 0 = 21 ∧ w = 206 ∨ N i 0 = 22 ∧ w = 207) ∧ N i 1 = (a : Int) ∧ a < i ∧ EX N (a + 1) 53 a A ∧ S = [253] ++ A ++ [w])
  ∨ (N i 0 = 23 ∧ S = [253] ++ [208]) ∨ (N i 0 = 26 ∧ S = [253] ++ [211] ∧ o)
  ∨ (N i 0 = 24 ∧ (0 ≤ N i 1 ∧ N i 1 < 40) ∧ S = [253] ++ [209] ++ [N i 1])
  ∨ (N i 0 = 25 ∧ (0 ≤ N i 1 ∧ N i 1 < 40) ∧ (0 ≤ N i 2 ∧ N i 2 < 40) ∧ S = [253] ++ [1] ++ [N i 1] ++ [210] ++ [N i 2])
  ∨ (N i 0 = 27 ∧ ∃ (a : Nat) (A B1 : List Int), N i 1 = (a : Int) ∧ a < i ∧ EX N (a + 1) 53 a A ∧ B i (q + 3 + A.length) (N i 2) B1 ∧ ((N i 3 = -1 ∧ S = [253] ++ A ++ [212] ++ (((q + 3 + A.length + B1.length : Nat) : Int) :: B1)) ∨ ∃ B2, B i (q + 5 + A.length + B1.length) (N i 3) B2 ∧ S = [253] ++ A ++ [212] ++ (((q + 5 + A.length + B1.length : Nat) : Int) :: (B1 ++ [213] ++ (((q + 5 + A.length + B1.length + B2.length : Nat) : Int) :: B2)))))
/-- the statements of the nodes L, one behind the other -/
def BL (P : Nat → Nat → List Int → Prop) : List Nat → Nat → List Int → Prop
  | [], _, C => C = []
  | i :: r, q, C => ∃ S R, C = S ++ R ∧ P q i S ∧ BL P r (q + S.length) R
/-- the nodes L are linked, f is the first -/
def LK (N : Nat → Nat → Int) : List Nat → Int → Prop
  | [], f => f = -1
  | i :: r, f => f = (i : Int) ∧ LK N r (N i 4)
/-- the block whose first node is f has the code C from place q on; its nodes are from lo on, below M; k: how deep it nests -/
def BK (N : Nat → Nat → Int) (lo : Nat) : Nat → Nat → Nat → Int → List Int → Prop
  | 0, _, _, _, _ => False
  | k + 1, M, q, f, C => ∃ L : List Nat, LK N L f ∧ (∀ i ∈ L, lo ≤ i ∧ i < M) ∧ BL (fun q i S => SS N (BK N lo k) (k = 12) q i S) L q C
section BLK
variable {N N' : Nat → Nat → Int} {P P' : Nat → Nat → List Int → Prop} {B B' : Nat → Nat → Int → List Int → Prop} {k M M' q i lo lo' : Nat} {f : Int} {C S : List Int} {L : List Nat}
theorem BL_im (h : BL P L q C) (e : ∀ q i S, i ∈ L → P q i S → P' q i S) : BL P' L q C := by
  induction L generalizing q C with
  | nil => exact h
  | cons i r ih =>
    obtain ⟨S, R, h1, h2, h3⟩ := h
    exact ⟨S, R, h1, e _ _ _ List.mem_cons_self h2, ih h3 (fun q j S hj => e q j S (List.mem_cons_of_mem _ hj))⟩
theorem BL_sn (h : BL P L q C) (g : P (q + C.length) i S) : BL P (L ++ [i]) q (C ++ S) := by
  induction L generalizing q C with
  | nil =>
    have h : C = [] := h
    subst h
    exact ⟨S, [], by simp, g, rfl⟩
  | cons j r ih =>
    obtain ⟨T, R, rfl, h2, h3⟩ := h
    refine ⟨T, R ++ S, by simp, h2, ih h3 ?_⟩
    rw [List.length_append, ← Nat.add_assoc] at g
    exact g
theorem LK_cg (h : LK N L f) (e : ∀ i ∈ L, N' i 4 = N i 4) : LK N' L f := by
  induction L generalizing f with
  | nil => exact h
  | cons i r ih =>
    refine ⟨h.1, ?_⟩
    rw [e i List.mem_cons_self]
    exact ih h.2 (fun j hj => e j (List.mem_cons_of_mem _ hj))
/-- one node more is linked behind the last one -/
theorem LK_sn {t i : Nat} (h : LK N (L ++ [t]) f) (hn : ∀ j ∈ L, j ≠ t) (e : ∀ j ∈ L, N' j 4 = N j 4) (et : N' t 4 = (i : Int)) (ei : N' i 4 = -1) : LK N' (L ++ [t] ++ [i]) f := by
  induction L generalizing f with
  | nil => exact ⟨h.1, et, ei⟩
  | cons j r ih =>
    refine ⟨h.1, ?_⟩
    show LK N' (r ++ [t] ++ [i]) (N' j 4)
    rw [e j List.mem_cons_self]
    exact ih h.2 (fun j hj => hn j (List.mem_cons_of_mem _ hj)) (fun j hj => e j (List.mem_cons_of_mem _ hj))
theorem SS_cg {o : Prop} (h : SS N B o q i S) (e : ∀ t, t < i → ∀ j, j < 3 → N' t j = N t j) (e4 : ∀ j, j < 4 → N' i j = N i j) (eB : ∀ q f C, B i q f C → B' i q f C) : SS N' B' o q i S := by
  have e0 := e4 0 (by omega)
  have e1 := e4 1 (by omega)
  have e2 := e4 2 (by omega)
  have e3 := e4 3 (by omega)
  have eE : ∀ a A, a < i → EX N (a + 1) 53 a A → EX N' (a + 1) 53 a A := fun a A ha hE => EX_cg hE (fun t ht j hj => e t (by omega) j hj)
  unfold SS
  rw [e0, e1, e2, e3]
  rcases h with ⟨h0, a, A, h1, h2, h3, h4⟩ | ⟨a, A, w, h0, h1, h2, h3, h4⟩ | h | h | h | h | ⟨h0, a, A, B1, h1, h2, h3, h4, h5⟩
  · exact .inl ⟨h0, a, A, h1, h2, eE a A h2 h3, h4⟩
  · exact .inr (.inl ⟨a, A, w, h0, h1, h2, eE a A h2 h3, h4⟩)
  · exact .inr (.inr (.inl h))
  · exact .inr (.inr (.inr (.inl h)))
  · exact .inr (.inr (.inr (.inr (.inl h))))
  · exact .inr (.inr (.inr (.inr (.inr (.inl h)))))
  · refine .inr (.inr (.inr (.inr (.inr (.inr ⟨h0, a, A, B1, h1, h2, eE a A h2 h3, eB _ _ _ h4, ?_⟩)))))
    rcases h5 with h5 | ⟨B2, h5, h6⟩
    · exact .inl h5
    · exact .inr ⟨B2, eB _ _ _ h5, h6⟩
theorem BK_cg : ∀ {k M q : Nat} {f : Int} {C : List Int}, BK N lo k M q f C → (∀ t, t < M → ∀ j, j < 3 → N' t j = N t j) → (∀ t, lo ≤ t → t < M → ∀ j, j < 5 → N' t j = N t j) → BK N' lo k M q f C
  | 0, _, _, _, _, h, _, _ => False.elim h
  | k + 1, M, q, f, C, ⟨L, h1, h2, h3⟩, e, e' => ⟨L, LK_cg h1 (fun i hi => e' i (h2 i hi).1 (h2 i hi).2 4 (by omega)), h2, BL_im h3 (fun q i S hi hS => SS_cg hS (fun t ht j hj => e t (by have := (h2 i hi).2; omega) j hj) (fun j hj => e' i (h2 i hi).1 (h2 i hi).2 j (by omega)) (fun q f C hB => BK_cg hB (fun t ht j hj => e t (by have := (h2 i hi).2; omega) j hj) (fun t t0 ht j hj => e' t t0 (by have := (h2 i hi).2; omega) j hj)))⟩
theorem BK_c1 (h : BK N lo k M q f C) (e : ∀ t, t < M → ∀ j, j < 5 → N' t j = N t j) : BK N' lo k M q f C := BK_cg h (fun t ht j hj => e t ht j (by omega)) (fun t _ ht j hj => e t ht j hj)
theorem BK_up (h : BK N lo k M q f C) (e : M ≤ M') : BK N lo k M' q f C := by
  cases k with
  | zero => exact False.elim h
  | succ k =>
    obtain ⟨L, h1, h2, h3⟩ := h
    exact ⟨L, h1, fun i hi => ⟨(h2 i hi).1, Nat.lt_of_lt_of_le (h2 i hi).2 e⟩, h3⟩
theorem BK_lo (e : lo' ≤ lo) : ∀ {k M q : Nat} {f : Int} {C : List Int}, BK N lo k M q f C → BK N lo' k M q f C
  | 0, _, _, _, _, h => False.elim h
  | k + 1, M, q, f, C, ⟨L, h1, h2, h3⟩ => ⟨L, h1, fun i hi => ⟨Nat.le_trans e (h2 i hi).1, (h2 i hi).2⟩, BL_im h3 (fun q i S _ hS => SS_cg hS (fun _ _ _ _ => rfl) (fun _ _ => rfl) (fun q f C hB => BK_lo e hB))⟩
end BLK
/-! statements and blocks read by both sides -/
def SQ (n : Nat) (b : Nat → Int) (l p m d : Nat) (c : Int) (l' : Nat) (hc hr : hS) : Prop := ∃ (m' i : Nat) (C : List Int), BS n b l' (p + C.length) m' d hc hr ∧ (C.length + 2 * l ≤ 2 * l' ∧ m' + l ≤ m + l' ∧ m ≤ i ∧ i < m' ∧ l < l') ∧ c < hI hc 15 8 ∧ cdA hc p C ∧ hI hr 395 22 = (i : Int) ∧ nd hr i 4 = -1 ∧ SS (nd hr) (BK (nd hr) m (12 - d)) (12 - d = 12) p i C
def BQ (n : Nat) (b : Nat → Int) (l p m d : Nat) (c : Int) (l' : Nat) (hc hr : hS) : Prop := ∃ (m' : Nat) (C : List Int), BS n b l' (p + C.length) m' d hc hr ∧ (C.length + 2 * l + 4 ≤ 2 * l' ∧ m' + l + 2 ≤ m + l' ∧ m ≤ m') ∧ c ≤ hI hc 15 8 ∧ cdA hc p C ∧ BK (nd hr) m (13 - d) m' p (hI hr 395 21) C
def own (d : Nat) : Int := if d = 0 then 1 else 0
def SP (n : Nat) (b : Nat → Int) (fc fr d : Nat) : Prop := ∀ (l p m : Nat) (hc hr : hS), BS n b l p m d hc hr → p ≤ 2 * l + 2 → m ≤ l → JJ p m hc hr (fun hc' hr' => ∃ l', SQ n b l p m d (hI hc 15 8) l' hc' hr') (g63 fc 64 [(d : Int)] hc) (g210 fr 211 [own d] hr)
def BP (n : Nat) (b : Nat → Int) (fc fr d : Nat) : Prop := ∀ (l p m : Nat) (hc hr : hS), BS n b l p m d hc hr → m ≤ l → JJ p m hc hr (fun hc' hr' => ∃ l', BQ n b l p m d (hI hc 15 8) l' hc' hr') (g63 fc 63 [(d : Int)] hc) (g210 fr 210 [own d] hr)
section STM
variable {n : Nat} {b : Nat → Int} {l p m d fc fr : Nat} {hc hr hc' hr' : hS}
theorem g63_63 {f : Nat} {a : Int} {h : hS} : g63 (f + 1) 63 [a] h = c63 (g63 f) a h := rfl
theorem g63_64 {f : Nat} {a : Int} {h : hS} : g63 (f + 1) 64 [a] h = c64 (g63 f) a h := rfl
theorem g63_66 {f : Nat} {a : Int} {h : hS} : g63 (f + 1) 66 [a] h = c66 (g63 f) a h := rfl
theorem g210_210 {f : Nat} {a : Int} {h : hS} : g210 (f + 1) 210 [a] h = c210 (g210 f) a h := rfl
theorem g210_211 {f : Nat} {a : Int} {h : hS} : g210 (f + 1) 211 [a] h = c211 (g210 f) a h := rfl
theorem g210_212 {f : Nat} {h : hS} : g210 (f + 1) 212 [] h = c212 (g210 f) h := rfl
/-- one statement more is counted -/
theorem BS_ct (B : BS n b l p m d hc hr) (h : hI hc 15 8 < 60) : wadd (hI hc 15 8) 1 = hI hc 15 8 + 1 ∧ wadd (hI hr 395 20) 1 = hI hc 15 8 + 1 ∧ BS n b l p m d (sI hc 15 8 (hI hc 15 8 + 1)) (sI hr 395 20 (hI hc 15 8 + 1)) := by
  obtain ⟨R, ⟨F, N, t, l16⟩, ⟨b1, b2, b3⟩, ⟨b4, b5⟩, b9⟩ := B
  obtain ⟨b6, b7, b8⟩ := b9 rfl
  refine ⟨wadd_e (by omega) (by omega), by rw [b6]; exact wadd_e (by omega) (by omega), RD_cgr (RD_cgc R (fun x j hx => by rw [hI_sI, if_neg (by omega)])) (fun x j hx => by rw [hI_sI, if_neg (by omega)]) (fun _ _ _ => rfl), ⟨?_, nmR_r (nmR_c N ?_ (fun j => ?_)) ?_ (fun _ => rfl), t, l16⟩, ⟨?_, ?_, ?_⟩, ⟨b4, b5⟩, fun _ => ⟨?_, ?_, ?_⟩⟩
  · rw [hI_sI, if_neg (by omega)]; exact F
  · rw [hI_sI, if_neg (by omega)]
  · rw [hI_sI, if_neg (by omega)]
  · rw [hI_sI, if_neg (by omega)]
  · rw [hI_sI, if_neg (by omega)]; exact b1
  · rw [hI_sI, if_neg (by omega)]; exact b2
  · rw [hI_sI, if_neg (by omega)]; exact b3
  · rw [hI_sI, if_pos ⟨rfl, rfl⟩, hI_sI, if_pos ⟨rfl, rfl⟩]
  · rw [hI_sI, if_pos ⟨rfl, rfl⟩]; omega
  · rw [hI_sI, if_pos ⟨rfl, rfl⟩]; omega
theorem FC_ct (B : BS n b l p m d hc hr) : FC p hc (sI hc 15 8 (hI hc 15 8 + 1)) := ⟨fp_sI (by omega), by rw [hI_sI, if_pos ⟨rfl, rfl⟩]; omega⟩
theorem FR_20 {v : Int} : FR m hr (sI hr 395 20 v) := FR_sI (by omega)
theorem own_s : own (d + 1) = 0 := by unfold own; rw [if_neg (by omega)]
/-- a statement whose node is laid last -/
theorem SQ_mk {c : Int} {l' m1 i : Nat} {C : List Int} {hr1 : hS} (B : BS n b l' (p + C.length) (m1 + 1) d hc hr) (hi : i = m1) (h1 : C.length + 2 * l ≤ 2 * l') (h2 : m1 + 1 + l ≤ m + l') (h3 : m ≤ m1) (h4 : l < l') (h5 : c < hI hc 15 8) (h6 : cdA hc p C) (h7 : hI hr 395 22 = (m1 : Int)) (h8 : nd hr m1 4 = -1) (h9 : SS (nd hr) (BK (nd hr) m (12 - d)) (12 - d = 12) p m1 C) : ∃ l', SQ n b l p m d c l' hc hr := ⟨l', m1 + 1, m1, C, B, ⟨h1, h2, h3, by omega, h4⟩, h5, h6, h7, h8, h9⟩
/-- what stands behind a statement: ; -/
def c64_j129 (h : hS) : Option (Int × hS) := (c58 59 h).bind (fun v11 => if v11.1 = 0 then some (0, v11.2) else some (1, v11.2))
/-- behind a statement's node stands ; -/
theorem SM_en0 {c : Int} {l' m1 : Nat} {C : List Int} (B : BS n b l' (p + C.length) (m1 + 1) d hc hr) (h1 : C.length + 2 * l ≤ 2 * l' + 2) (h2 : m1 + l ≤ m + l') (h3 : m ≤ m1) (h4 : l ≤ l') (h5 : c < hI hc 15 8) (h6 : cdA hc p C) (h7 : hI hr 395 22 = (m1 : Int)) (h8 : nd hr m1 4 = -1) (h9 : SS (nd hr) (BK (nd hr) m (12 - d)) (12 - d = 12) p m1 C) : JJ p m hc hr (fun hc' hr' => ∃ l', SQ n b l p m d c l' hc' hr') (c58 59 hc) (c202 59 hr) := by
  refine JJ_im (JJ_re FC_rf FR_rf (BS_ps B (c := 59) rfl) (by omega) (by omega)) (fun hc' hr' f1 r1 q => ?_)
  obtain ⟨B', rfl, j⟩ := q
  have en : ∀ t i, nd hr' t i = nd hr t i := fun t i => j.2.2.1 399 _ (by omega)
  refine SQ_mk (i := m1) (hr1 := hr') B' rfl (by omega) (by omega) h3 (by omega) ?_ (cdA_cg h6 (fun j hj => by rw [hI_sI, if_neg (by omega)])) ?_ ?_ ?_
  · rw [hI_sI, if_neg (by omega)]; exact h5
  · rw [j.2.2.1 395 22 (by omega)]; exact h7
  · rw [en]; exact h8
  · exact SS_cg h9 (fun t _ i _ => en t i) (fun i _ => en m1 i) (fun q f C h => BK_c1 h (fun t _ i _ => en t i))
theorem SM_end {c : Int} {l' m1 : Nat} {C : List Int} (B : BS n b l' (p + C.length) (m1 + 1) d hc hr) (h1 : C.length + 2 * l ≤ 2 * l' + 2) (h2 : m1 + l ≤ m + l') (h3 : m ≤ m1) (h4 : l ≤ l') (h5 : c < hI hc 15 8) (h6 : cdA hc p C) (h7 : hI hr 395 22 = (m1 : Int)) (h8 : nd hr m1 4 = -1) (h9 : SS (nd hr) (BK (nd hr) m (12 - d)) (12 - d = 12) p m1 C) : JJ p m hc hr (fun hc' hr' => ∃ l', SQ n b l p m d c l' hc' hr') (c64_j129 hc) ((c202 59 hr).bind fun v => (kB v.1).bind fun _ => some (v.1, v.2)) := by
  unfold c64_j129
  exact JJ_zl (JJ_kr (SM_en0 B h1 h2 h3 h4 h5 h6 h7 h8 h9))
theorem SM_enk {c : Int} {l' m1 : Nat} {C : List Int} (B : BS n b l' (p + C.length) (m1 + 1) d hc hr) (h1 : C.length + 2 * l ≤ 2 * l' + 2) (h2 : m1 + l ≤ m + l') (h3 : m ≤ m1) (h4 : l ≤ l') (h5 : c < hI hc 15 8) (h6 : cdA hc p C) (h7 : hI hr 395 22 = (m1 : Int)) (h8 : nd hr m1 4 = -1) (h9 : SS (nd hr) (BK (nd hr) m (12 - d)) (12 - d = 12) p m1 C) : JJ p m hc hr (fun hc' hr' => ∃ l', SQ n b l p m d c l' hc' hr') ((c58 59 hc).bind fun v => (kB v.1).bind fun _ => some (v.1, v.2)) ((c202 59 hr).bind fun v => (kB v.1).bind fun _ => some (v.1, v.2)) := JJ_kl (JJ_kr (SM_en0 B h1 h2 h3 h4 h5 h6 h7 h8 h9))
/-- NAME = E ; -/
theorem SM_set {c : Int} (B : BS n b l (p + 1) m d hc hr) (hp : p ≤ 2 * l + 2) (hm : m ≤ l) (hd : d ≤ 12) (hc8 : c < hI hc 15 8) (hA : cdA hc p [253]) : JJ p m hc hr (fun hc' hr' => ∃ l', SQ n b l p m d c l' hc' hr')
    ((c45 hc).bind (fun v8 => if v8.1 = (-1) then some (0, v8.2) else (c58 61 v8.2).bind (fun v10 => if v10.1 = 0 then some (0, v10.2) else (g67 120 67 [0, (d : Int)] v10.2).bind (fun v12 => if v12.1 = 0 then some (0, v12.2) else (c65 61 v12.2).bind (fun h14 => (c65 v8.1 h14).bind (fun h15 => (c58 59 h15).bind (fun v16 => (kB v16.1).bind (fun u17 => some (v16.1, v16.2)))))))))
    ((c196 hr).bind (fun v31 => if v31.1 = 0 then some (0, v31.2) else (c202 61 v31.2).bind (fun v33 => if v33.1 = 0 then some (0, v33.2) else (g214 120 214 [] v33.2).bind (fun v35 => if v35.1 = 0 then some (0, v35.2) else (c218 20 (hI v31.2 395 17) (hI v35.2 395 19) 0 v35.2).bind (fun v37 => (some (sI v37.2 395 22 v37.1)).bind (fun h38 => (c202 59 h38).bind (fun v39 => (kB v39.1).bind (fun u40 => some (v39.1, v39.2))))))))) := by
  obtain ⟨f, v, hc1, hr1, g1, g2, fc1, fr1, g⟩ := BS_nm B
  rw [g1, g2]
  simp only [bsome]
  rcases g with ⟨rfl, v1, v2, B1, f1, f2⟩ | ⟨rfl, rfl, L1, e7⟩
  · rw [if_neg (show ¬ v = -1 by omega), if_neg (show ¬ (1 : Int) = 0 by omega)]
    obtain ⟨hc2, hr2, fc2, fr2, ⟨e1, e2, B2, rfl, j2⟩ | ⟨e1, e2, e3⟩⟩ := BS_ps B1 (c := 61) rfl
    · rw [e1, e2]
      simp only [bsome]
      rw [if_neg (show ¬ (1 : Int) = 0 by omega), if_neg (show ¬ (1 : Int) = 0 by omega)]
      obtain ⟨hc3, hr3, fc3, fr3, ⟨x1, x2, l3, m3, i, A, B3, ⟨c1, c2, c3, c4⟩, A3, t3, i3, E3⟩ | ⟨x1, x2, x3⟩⟩ := X0 hd _ _ _ _ _ B2 (by omega) (by omega)
      · have x1 : g67 120 67 [0, (d : Int)] (sI hc1 15 3 ((l + 1 + 1 : Nat) : Int)) = some (1, hc3) := x1
        rw [x1, x2]
        simp only [bsome]
        rw [if_neg (show ¬ (1 : Int) = 0 by omega), if_neg (show ¬ (1 : Int) = 0 by omega)]
        obtain ⟨w1, B4⟩ := BS_w (v := 61) B3 (by omega)
        obtain ⟨w2, B5⟩ := BS_w (v := v) B4 (by omega)
        obtain ⟨hr5, n1, B6, f6, ⟨n2, n3, n4, n5, n6⟩, n7, -⟩ := BS_nt (s := 20) (x := v) (y := (i : Int)) (z := 0) (t := 22) (.inr rfl) B5 (by omega)
        rw [w1, v2, t3]
        simp only [bsome]
        rw [w2, n1]
        simp only [bsome]
        have fcA : FC p hc hc3 := FC_tr (FC_mn fc1 (by omega)) (FC_tr (FC_sI (by omega)) (FC_mn fc3 (by omega)))
        have fcB := FC_tr fcA (FC_tr (FC_tr (FC_sI (p := p) (h := hc3) (x := 17) (i := p + 1 + A.length) (v := 61) (by omega)) (FC_sI (x := 15) (i := 7) (v := ((p + 1 + A.length + 1 : Nat) : Int)) (by omega))) (FC_tr (FC_sI (x := 17) (i := p + 1 + A.length + 1) (v := v) (by omega)) (FC_sI (x := 15) (i := 7) (v := ((p + 1 + A.length + 1 + 1 : Nat) : Int)) (by omega))))
        have frB : FR m hr _ := FR_tr (FR_mn fr1 (Nat.le_refl _)) (FR_tr (FR_fj j2) (FR_tr (FR_mn fr3 (by omega)) (FR_mn f6 (by omega))))
        have cA : cdA hc3 p ([253] ++ A) := cdA_app (cdA_cg hA (fun j hj => by
          have hj : j < p + 1 := hj
          rw [fc3.1.2 17 j (by omega), hI_sI, if_neg (by omega), f1.2 17 j (by omega)])) A3
        refine JJ_re fcB frB (SM_enk (l' := l3) (m1 := m3) (C := [253] ++ A ++ [61] ++ [v]) ?_ ?_ (by omega) (by omega) (by omega) (Int.lt_of_lt_of_le hc8 fcB.2) (cdA_sn (cdA_sn cA (by simp; omega)) (by simp; omega)) n7 n6 ?_) (by omega) (by omega)
        · have e9 : p + (([253] ++ A ++ [61] ++ [v]) : List Int).length = p + 1 + A.length + 1 + 1 := by simp; omega
          rw [e9]
          exact B6
        · simp
          omega
        · refine .inl ⟨n2, i, A, n4, by omega, EX_cg E3 (fun t ht j hj => nd_FR f6 (by omega) (by omega)), by rw [n3]; exact v1, by rw [n3]⟩
      · have x1 : g67 120 67 [0, (d : Int)] (sI hc1 15 3 ((l + 1 + 1 : Nat) : Int)) = some (0, hc3) := x1
        rw [x1, x2]
        simp only [bsome]
        exact JJ_no (FC_tr (FC_mn fc1 (by omega)) (FC_tr (FC_sI (by omega)) (FC_mn fc3 (by omega)))) (FR_tr (FR_mn fr1 (Nat.le_refl _)) (FR_tr (FR_fj j2) (FR_mn fr3 (by omega)))) x3
    · rw [e1, e2]
      simp only [bsome]
      exact JJ_no (FC_tr (FC_mn fc1 (by omega)) (FC_mn fc2 (by omega))) (FR_tr fr1 fr2) e3
  · rw [if_pos rfl]
    simp only [bsome]
    exact JJ_no (FC_mn fc1 (by omega)) fr1 L1
end STM
