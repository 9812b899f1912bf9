/-! the law's start -/
theorem mt_goodW : ∀ w ∈ mt_Ts, mm_good w = true := fun w h => (List.mem_filter.mp h).2
theorem mt_htsW {args : Array Value} {s : State} (hts : ∀ w ∈ lw_tbl, w.before args s = true) : ∀ w ∈ mt_Ts, w.before args s = true := fun w h => hts w (List.mem_filter.mp h).1
theorem mt_okE (xs : List Int32) (oA : Nat → Nat) (dA : Nat → ClassId) : mm_okE mt_Ts (mt_P xs) (mt_G oA dA) mt_cl := by
  refine ⟨fun t ht => ?_, fun t k ht h => ?_⟩
  · show (mt_elT t).isReference = true
    unfold mt_elT
    split <;> rfl
  · have h : mt_el t k = true := h
    unfold mt_el at h
    split at h
    all_goals first
      | (cases h; done)
      | exact ⟨rfl, (by decide +kernel : mm_nm (.array .int) = "[I")⟩
      | exact ⟨_, rfl, Or.inl rfl⟩
      | exact ⟨_, rfl, Or.inr mt_castO⟩
theorem mt_o3 (xs : List Int32) : ∀ j vs, (mt_P xs).2.2.1 j ≠ some (.inl 3, vs) := by
  intro j vs h
  have h : mt_old xs j = some (.inl 3, vs) := h
  unfold mt_old at h
  split at h <;> simp at h
theorem mt_o4 (xs : List Int32) : ∀ j t vs, 4 ≤ t → (mt_P xs).2.2.1 j = some (.inl t, vs) → vs = [] := by
  intro j t vs ht h
  have h : mt_old xs j = some (.inl t, vs) := h
  unfold mt_old at h
  split at h
  all_goals first
    | (cases h; done)
    | (have h := Option.some.inj h; rw [Prod.mk.injEq] at h; obtain ⟨h1, h2⟩ := h; cases h1; first | exact h2.symm | exact absurd ht (by decide))
theorem mt_okS (xs : List Int32) (oA : Nat → Nat) (dA : Nat → ClassId) (B : Nat) (hO : ∀ j, j < 6 → ¬ mm_A B (oA j)) : mm_okS mt_Ts (mt_P xs) (mt_G oA dA) mt_cl B :=
  ⟨mt_goodW, hO, mt_okC, mt_okE xs oA dA, mt_o3 xs, mt_o4 xs⟩
theorem mt_arrP {s : State} {args : Array Value} {ty : FieldType} (h : (Cond.arrayClass ty).before args s = true) : ∃ c : ClassId, ArrOfT s c ty ∧ s.vm.findClass ("[" ++ ty.toString) = some c := by
  obtain ⟨c, k, comp, h1, h2, h3⟩ := Cond.arrayClass_spec h
  exact ⟨c, fun n z => ⟨fun _ h => (by cases h), k, h2, comp, h3⟩, h1⟩
theorem mt_arrO {s : State} {args : Array Value} {C : String} (h : (Cond.arrayOver (.object C)).before args s = true) : ∃ c : ClassId, ArrOfT s c (.object C) ∧ va_RA s c (.object C) ∧ ∃ (kA : Class) (comp : ClassId), s.vm.classes[c]? = some kA ∧ kA.kind = .array comp (.object C) ∧ s.vm.findClass C = some comp := by
  obtain ⟨comp, c, k, h1, h2, h3, h4, h5⟩ := Cond.arrayOver_spec h
  exact ⟨c, fun n z => ⟨fun _ h => (by cases h), k, h3, comp, h4⟩, ⟨k, comp, h3, h4, h1, h5⟩, k, comp, h3, h4, h1⟩
theorem mt_arrA {s : State} {args : Array Value} {t : FieldType} (h : (Cond.arrayOver (.array t)).before args s = true) : ∃ c : ClassId, ArrOfT s c (.array t) ∧ va_RA s c (.array t) ∧ ∃ (kA : Class) (comp : ClassId), s.vm.classes[c]? = some kA ∧ kA.kind = .array comp (.array t) ∧ s.vm.findClass (FieldType.array t).toString = some comp := by
  obtain ⟨comp, c, k, h1, h2, h3, h4, h5⟩ := arrayOverA_spec h
  exact ⟨c, fun n z => ⟨fun _ h => (by cases h), k, h3, comp, h4⟩, h5, k, comp, h3, h4, h1⟩
def mt_pick (l : List ClassId) (j : Nat) : ClassId := l.getD j 0
theorem mt_tyne {a b : ClassId} {t u : FieldType} (h : some (a, t) = some (b, u)) : a = b ∧ t = u := by
  cases h
  exact ⟨rfl, rfl⟩
set_option maxHeartbeats 2000000 in
/-- the classes and arrays -/
theorem mt_startK {s : State} {args : Array Value} (hts : ∀ w ∈ mt_Ts, w.before args s = true) (oA : Nat → Nat) : ∃ (dA : Nat → ClassId) (D : va_G), va_K D mt_cl (mt_tys dA) s ∧ mm_RR (mt_G oA dA) s := by
  obtain ⟨cI, i1, i2⟩ := mt_arrP (hts _ (mt_na0 oA (fun _ => 0)).2.1)
  obtain ⟨cZ, z1, z2⟩ := mt_arrP (hts _ (mt_na1 oA (fun _ => 0)).2.1)
  obtain ⟨cJ, j1, j2⟩ := mt_arrP (hts _ (mt_na3 oA (fun _ => 0)).2.1)
  obtain ⟨c4, a4, b4, r4⟩ := mt_arrO (hts _ mt_ov4)
  obtain ⟨c5, a5, b5, r5⟩ := mt_arrO (hts _ mt_ov5)
  obtain ⟨c6, a6, b6, r6⟩ := mt_arrO (hts _ mt_ov6)
  obtain ⟨c7, a7, b7, r7⟩ := mt_arrO (hts _ mt_ov7)
  obtain ⟨c8, a8, b8, r8⟩ := mt_arrO (hts _ mt_ov8)
  obtain ⟨c9, a9, b9, r9⟩ := mt_arrO (hts _ mt_ov9)
  obtain ⟨c10, a10, b10, r10⟩ := mt_arrA (hts _ mt_ov10)
  have hkn : ∀ c : Nat, ∃ q : ClassId × (Nat → Nat), ∀ r : vw_C, mt_cl[c]? = some r → u_Kn s r.1 r.2.1 r.2.2 q.1 q.2 := by
    intro c
    cases hc : mt_cl[c]? with
    | none => exact ⟨(0, fun _ => 0), fun r h => by cases h⟩
    | some r =>
      have hr := List.mem_of_getElem? hc
      obtain ⟨cC, iS, h⟩ := u_known hts (mt_okC r hr).1 (hts _ (mt_inst r hr))
      exact ⟨(cC, iS), fun r' h' => by cases h'; exact h⟩
  obtain ⟨f, hf⟩ := Classical.axiomOfChoice hkn
  refine ⟨mt_pick [cI, cZ, 0, cJ, c4, c5, c6, c7, c8, c9, c10], (fun c => (f c).1, fun c => (f c).2), ⟨fun c q hq => hf c q hq, fun k q hq => ?_⟩, ?_⟩
  · match k, hq with
    | 0, hq => cases hq; exact ⟨i1, i2⟩
    | 1, hq => cases hq; exact ⟨z1, z2⟩
    | 2, hq => cases hq; exact ⟨j1, j2⟩
    | 3, hq => cases hq; exact ⟨a4, b4⟩
    | 4, hq => cases hq; exact ⟨a5, b5⟩
    | 5, hq => cases hq; exact ⟨a6, b6⟩
    | 6, hq => cases hq; exact ⟨a7, b7⟩
    | 7, hq => cases hq; exact ⟨a8, b8⟩
    | 8, hq => cases hq; exact ⟨a9, b9⟩
    | 9, hq => cases hq; exact ⟨a10, b10⟩
    | k + 10, hq => cases hq
  · intro t ht h0
    by_cases key : t < 11
    · match t, ht, key with
      | 4, _, _ => exact r4
      | 5, _, _ => exact r5
      | 6, _, _ => exact r6
      | 7, _, _ => exact r7
      | 8, _, _ => exact r8
      | 9, _, _ => exact r9
      | 10, _, _ => exact r10
      | t + 11, _, h => exact absurd h (by omega)
    · obtain ⟨t0, h0⟩ := h0
      generalize hdA : mt_pick [cI, cZ, 0, cJ, c4, c5, c6, c7, c8, c9, c10] = dA at h0
      have e9 : dA 9 = c9 := by rw [← hdA]; rfl
      have e1 : mt_elT t = .object "java/lang/Object" := by
        unfold mt_elT
        split <;> first | rfl | (exfalso; omega)
      show ∃ (kA : Class) (comp : ClassId), s.vm.classes[dA t]? = some kA ∧ kA.kind = .array comp (mt_elT t) ∧ s.vm.findClass (mm_nm (mt_elT t)) = some comp
      have h0 : (mt_tys dA)[t0]? = some (dA t, mt_elT t) := h0
      rw [e1] at h0 ⊢
      match t0, h0 with
      | 0, h0 => cases (mt_tyne h0).2
      | 1, h0 => cases (mt_tyne h0).2
      | 2, h0 => cases (mt_tyne h0).2
      | 3, h0 => exact absurd (mt_tyne h0).2 (by decide +kernel)
      | 4, h0 => exact absurd (mt_tyne h0).2 (by decide +kernel)
      | 5, h0 => exact absurd (mt_tyne h0).2 (by decide +kernel)
      | 6, h0 => exact absurd (mt_tyne h0).2 (by decide +kernel)
      | 7, h0 => exact absurd (mt_tyne h0).2 (by decide +kernel)
      | 8, h0 =>
        have e2 : dA t = c9 := by rw [← e9]; exact (mt_tyne h0).1.symm
        rw [e2]
        exact r9
      | 9, h0 => cases (mt_tyne h0).2
      | t0 + 10, h0 => cases h0
/-! the strings and statics -/
abbrev mt_flat : List Cond := flatC (Jvm.Cond.and given_1 narrow_1)
def mt_tm (i : Nat) : Term := if i = 0 then .string "PondHouse$Tokens" 27 else .string "PondHouse$Tokens" 75
theorem mt_fe (i : Nat) (w : Cond) (h : mt_flat[i]? = some w) : w ∈ mt_flat := List.mem_of_getElem? h
theorem mt_el0 : ∀ j, j < 113 → mt_flat[88 + j]? = some (Cond.eq (.elem (.field (.string "PondHouse$Tokens" 27) "java/lang/String" "value" "[B") (.int (Int32.ofNat j))) (.int (mt_sb0.getD j 0))) := by decide +kernel
theorem mt_el1 : ∀ j, j < 11 → mt_flat[205 + j]? = some (Cond.eq (.elem (.field (.string "PondHouse$Tokens" 75) "java/lang/String" "value" "[B") (.int (Int32.ofNat j))) (.int (mt_sb1.getD j 0))) := by decide +kernel
theorem mt_strs {args : Array Value} {s : State} (hs : ∀ w ∈ mt_flat, w.before args s = true) {A : Nat → Prop} (hA : ∀ a : Nat, a < s.heap.size → ¬ A a) : ∃ adK adV : Nat → Nat, vk_S 2 [113, 11] [mt_sb0, mt_sb1] adK adV A s s.heap ∧ ∀ i : Nat, i < 2 → (mt_tm i).eval args s none [] s = some (.ref (adK i)) := by
  refine vk_Sof (N := 2) (tm := mt_tm) (len := [113, 11]) (byt := [mt_sb0, mt_sb1]) ?_ ?_ ?_ ?_ ?_ ?_ ?_ hA
  · intro i hi
    match i, hi with
    | 0, _ => decide
    | 1, _ => decide
    | i + 2, hi => exact absurd hi (by omega)
  · intro i hi
    match i, hi with
    | 0, _ => exact hs _ (mt_fe 84 _ (by decide +kernel))
    | 1, _ => exact hs _ (mt_fe 201 _ (by decide +kernel))
    | i + 2, hi => exact absurd hi (by omega)
  · intro i hi
    match i, hi with
    | 0, _ => exact hs _ (mt_fe 85 _ (by decide +kernel))
    | 1, _ => exact hs _ (mt_fe 202 _ (by decide +kernel))
    | i + 2, hi => exact absurd hi (by omega)
  · intro i hi
    match i, hi with
    | 0, _ => exact hs _ (mt_fe 86 _ (by decide +kernel))
    | 1, _ => exact hs _ (mt_fe 203 _ (by decide +kernel))
    | i + 2, hi => exact absurd hi (by omega)
  · intro i hi
    match i, hi with
    | 0, _ => exact hs _ (mt_fe 87 _ (by decide +kernel))
    | 1, _ => exact hs _ (mt_fe 204 _ (by decide +kernel))
    | i + 2, hi => exact absurd hi (by omega)
  · intro i hi j hj
    match i, hi with
    | 0, _ => exact hs _ (mt_fe (88 + j) _ (mt_el0 j hj))
    | 1, _ => exact hs _ (mt_fe (205 + j) _ (mt_el1 j hj))
    | i + 2, hi => exact absurd hi (by omega)
  · intro i j hi hj hij
    match i, hi, j, hj with
    | 0, _, 0, _ => exact absurd rfl hij
    | 1, _, 1, _ => exact absurd rfl hij
    | 0, _, 1, _ => exact Or.inl (hs _ (mt_fe 216 _ (by decide +kernel)))
    | 1, _, 0, _ => exact Or.inr (hs _ (mt_fe 216 _ (by decide +kernel)))
    | i + 2, hi, _, _ => exact absurd hi (by omega)
    | 0, _, j + 2, hj => exact absurd hj (by omega)
    | 1, _, j + 2, hj => exact absurd hj (by omega)
def mt_xs (L : Nat) (xs : Nat → Int32) : List Int32 := (List.range L).map xs
set_option maxHeartbeats 2000000 in
theorem mt_start {s : State} {b L : Nat} {xs : Nat → Int32} (hts : ∀ w ∈ lw_tbl, w.before #[Value.ref b] s = true) (hX : va_X b L xs s s.heap) (hbl : b < s.heap.size) (hgv : (Jvm.Cond.and given_1 narrow_1).before #[Value.ref b] s = true) :
    ∃ (oA : Nat → Nat) (dA : Nat → ClassId) (D : va_G), mm_GK (mt_P (mt_xs L xs)) (mt_G oA dA) D mt_cl mt_X s.heap.size s ∧ (∀ j, j < 6 → ¬ mm_A s.heap.size (oA j)) ∧ oA 0 = b := by
  have hs := flat_of_before _ hgv
  have hA : ∀ a : Nat, a < s.heap.size → ¬ mm_A s.heap.size a := fun a h q => absurd (show s.heap.size ≤ a from q) (by omega)
  obtain ⟨adK, adV, hSt, hev⟩ := mt_strs hs hA
  obtain ⟨tE, hE1, hE2⟩ := va_Tof (tm := .static "java/util/ArrayList" "DEFAULTCAPACITY_EMPTY_ELEMENTDATA" "[Ljava/lang/Object;") (ty := .object "java/lang/Object") (N := 0) (f := fun _ => .null) (A := mm_A s.heap.size) (by decide) (hs _ (mt_fe 10 _ (by decide +kernel))) (va_eqt (hs _ (mt_fe 12 _ (by decide +kernel)))) (fun j hj => absurd hj (Nat.not_lt_zero j)) hA
  obtain ⟨mi, hmi⟩ := va_Mi.of (hs _ (mt_fe 83 (Cond.isRef (.mirror "[Ljava/lang/Object;")) (by decide +kernel)))
  obtain ⟨k0, k1⟩ := hSt.1 0 (by decide)
  obtain ⟨k2, k3⟩ := hSt.1 1 (by decide)
  have hb0 : ∀ i v, (mt_sb0.map Value.int)[i]? = some v → v = Value.int (mt_sb0.getD i 0) := by
    intro i v h
    rw [List.getElem?_map] at h
    cases hq : mt_sb0[i]? with
    | none => rw [hq] at h; cases h
    | some x => rw [hq] at h; cases h; rw [List.getD_eq_getElem?_getD, hq]; rfl
  have hb1 : ∀ i v, (mt_sb1.map Value.int)[i]? = some v → v = Value.int (mt_sb1.getD i 0) := by
    intro i v h
    rw [List.getElem?_map] at h
    cases hq : mt_sb1[i]? with
    | none => rw [hq] at h; cases h
    | some x => rw [hq] at h; cases h; rw [List.getD_eq_getElem?_getD, hq]; rfl
  let oA : Nat → Nat := fun j => [b, adK 0, adV 0, adK 1, adV 1, tE, mi].getD j b
  obtain ⟨dA, D, hK, hRR⟩ := mt_startK (mt_htsW hts) oA
  have hlen : (mt_xs L xs).length = L := by simp [mt_xs]
  refine ⟨oA, dA, D, ⟨hK, hRR, ?_, ?_, ?_, ?_⟩, ?_, rfl⟩
  · intro j c hc
    have hc : mt_old (mt_xs L xs) j = some c := hc
    match j, hc with
    | 0, hc =>
      cases hc
      obtain ⟨scr, q1, q2, q3, q4, q5⟩ := hX
      refine ⟨fun i => .int (xs i), ⟨scr, q1, q2, q3, ?_, ?_, fun j hj => ?_, hA b hbl⟩, fun i v hv => ?_⟩
      · show ((mt_xs L xs).map Value.int).length ≤ _
        rw [List.length_map, hlen, q4]
        exact Nat.le_refl _
      · show _ = Int32.ofNat ((mt_xs L xs).map Value.int).length
        rw [List.length_map, hlen, q4]
      · have hj : j < ((mt_xs L xs).map Value.int).length := hj
        rw [List.length_map, hlen] at hj
        exact q5 j hj
      · have hv : ((mt_xs L xs).map Value.int)[i]? = some v := hv
        rw [List.getElem?_map, mt_xs, List.getElem?_map] at hv
        by_cases hi : i < L
        · rw [List.getElem?_range hi] at hv
          cases hv
          rfl
        · rw [List.getElem?_eq_none (by simpa using hi)] at hv
          cases hv
    | 1, hc =>
      cases hc
      refine ⟨mt_rS, rfl, k0, fun i v hv => ?_⟩
      match i, hv with
      | 0, hv => cases hv; exact ⟨_, rfl, k1.1⟩
      | 1, hv => cases hv; exact ⟨_, rfl, k1.2.1⟩
      | i + 2, hv => cases hv
    | 2, hc =>
      cases hc
      exact ⟨_, k1.2.2, fun i v hv => by rw [hb0 i v hv]; rfl⟩
    | 3, hc =>
      cases hc
      refine ⟨mt_rS, rfl, k2, fun i v hv => ?_⟩
      match i, hv with
      | 0, hv => cases hv; exact ⟨_, rfl, k3.1⟩
      | 1, hv => cases hv; exact ⟨_, rfl, k3.2.1⟩
      | i + 2, hv => cases hv
    | 4, hc =>
      cases hc
      exact ⟨_, k3.2.2, fun i v hv => by rw [hb1 i v hv]; rfl⟩
    | 5, hc =>
      cases hc
      exact ⟨_, hE2, fun i v hv => by simp at hv⟩
    | j + 6, hc => cases hc
  · intro q hq
    rcases List.mem_cons.mp hq with rfl | hq
    · exact vk_R.of (hts _ mt_sr0) (by
        have h1 := hev 0 (by decide)
        have h2 := h1
        exact h2)
    · rcases List.mem_cons.mp hq with rfl | hq
      · exact vk_R.of (hts _ mt_sr1) (hev 1 (by decide))
      · cases hq
  · intro q hq
    rcases List.mem_cons.mp hq with rfl | hq
    · exact hmi
    · cases hq
  · intro q hq
    rcases List.mem_cons.mp hq with rfl | hq
    · exact va_Zof (hts _ mt_ls0) (hts _ mt_li0) (va_eqt (hs _ (mt_fe 4 _ (by decide +kernel)))) hA
    · rcases List.mem_cons.mp hq with rfl | hq
      · exact va_Zof (hts _ mt_ls1) (hts _ mt_li1) hE1 hA
      · rcases List.mem_cons.mp hq with rfl | hq
        · exact va_Zqof (hts _ mt_ls2) (hts _ mt_li2) (hs _ (mt_fe 5 _ (by decide +kernel))) hA
        · cases hq
  · intro j hj
    match j, hj with
    | 0, _ => exact hA b hbl
    | 1, _ => exact k0.choose_spec.2.2.2
    | 2, _ => exact k1.2.2.choose_spec.2.2.2.2.2.2
    | 3, _ => exact k2.choose_spec.2.2.2
    | 4, _ => exact k3.2.2.choose_spec.2.2.2.2.2.2
    | 5, _ => exact hE2.choose_spec.2.2.2.2.2.2
    | j + 6, h => exact absurd h (by omega)
