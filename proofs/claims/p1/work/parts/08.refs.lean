/-! arrays of references, what is made, casts, constants, comparisons -/
def mm_nm : FieldType → String
  | .object C => C
  | t => t.toString
/-- the classes of the arrays of references, and of what they hold -/
def mm_RR (G : mmG) (s : State) : Prop := ∀ t, 4 ≤ t → (∃ t0 : Nat, G.2.2.2[t0]? = some (G.2.1 t, G.2.2.1 t)) → ∃ (kA : Class) (comp : ClassId), s.vm.classes[G.2.1 t]? = some kA ∧ kA.kind = .array comp (G.2.2.1 t) ∧ s.vm.findClass (mm_nm (G.2.2.1 t)) = some comp
theorem mm_RR.moved {G : mmG} {u U : State} (hvm : u.vm.Alike U.vm) (h : mm_RR G u) : mm_RR G U := by
  intro t ht h0
  obtain ⟨kA, comp, h1, h2, h3⟩ := h t ht h0
  obtain ⟨k', hk', he⟩ := hvm.2.2 _ _ h1
  exact ⟨k', comp, hk', by rw [he]; exact h2, by rw [hvm.findClass]; exact h3⟩
/-- which cells an array takes, by the tables -/
def mm_okE (Ts : List Cond) (P : mmP) (G : mmG) (cl : List vw_C) : Prop := (∀ t, 4 ≤ t → (G.2.2.1 t).isReference = true) ∧ ∀ t k, 4 ≤ t → P.2.2.2.1 t k = true → match k with
  | .inr ci => ∃ r : vw_C, cl[ci]? = some r ∧ (r.1 = mm_nm (G.2.2.1 t) ∨ Cond.castable r.1 (mm_nm (G.2.2.1 t)) ∈ Ts)
  | .inl u => u = 0 ∧ mm_nm (G.2.2.1 t) = "[I"
section MMY
variable {p : Program} {l : Launch} {e : Env} {R : Room} {s : State} {m : MethodId} {args : Array Value} {below : List Frame} {meth : Method} {c : Code} {Q : State → Prop}
variable {G : mmG} {D : va_G} {cl : List vw_C} {ocl : Nat → Option vw_C} {A : Nat → Prop} {nL c0 s0 : Nat} {a0 : List Nat} {cc : ByteArray} {pc : Nat} {ls : mmL} {st : List Value} {w : mmW} {H : Heap} {locs : List Loc} {cells slots : Nat} {L : Array Slot} {S : List Value} {F : mmF} {P : mmP} {Ts : List Cond} {own : String}
theorem mm_tyI (h : mm_ty G 0 = FieldType.int := by rfl) : mm_ty G 0 = .int := h
/-- a cell that the array takes: what the machine asks of it -/
theorem mm_elv {ws : va_W} {t y : Nat} {v' : Value} {vs : List Value} {kd : Nat ⊕ Nat} {comp : ClassId} (hts : ∀ w ∈ Ts, w.before args s = true) (hK : va_K D cl G.2.2.2 s) (hP : va_P D cl ws H) (hW : mm_wR G a0 w ws) (hE : mm_okE Ts P G cl) (ht : 4 ≤ t) (hel : P.2.2.2.1 t kd = true) (hy : w.1[y]? = some (kd, vs)) (hv : mm_vR G (ws.map Prod.fst) (.ref y) v') (h3 : s.vm.findClass (mm_nm (G.2.2.1 t)) = some comp) :
    ∃ (a : Nat) (cellV : Cell), v' = .ref a ∧ H[a]? = some cellV ∧ cellV.vm.isStatics = false ∧ (∀ q, cellV.vm ≠ .statics q) ∧ (∃ kC : Class, s.vm.classes[cellV.cls]? = some kC) ∧ s.vm.assignable cellV.cls comp = true := by
  obtain ⟨a, e, rfl, g1, g2⟩ := mm_at hW hv hy
  have h4 := hE.2 t kd ht hel
  cases kd with
  | inr ci =>
    obtain ⟨r, r1, r2⟩ := h4
    obtain ⟨fs, rfl, -, -⟩ := g2
    obtain ⟨cell, c1, c2, c3⟩ := va_recv hK hP r1 g1
    obtain ⟨kC, hkC, -⟩ := Vm.findClass_spec c3
    refine ⟨a, cell, rfl, c1, c2, (fun q h => by rw [h] at c2; cases c2), ⟨kC, hkC⟩, ?_⟩
    rcases r2 with r2 | r2
    · rw [← r2] at h3
      cases c3.symm.trans h3
      exact va_asg _ _
    · obtain ⟨x, y, f1, f2, f3⟩ := Cond.castable_spec (hts _ r2)
      cases c3.symm.trans f1
      cases h3.symm.trans f2
      exact f3
  | inl u =>
    obtain ⟨rfl, h5⟩ := h4
    obtain ⟨z0, f, g3, rfl, g4⟩ := mm_cR_i (by decide) g2
    have h6 := va_nm_int (hK.2 z0 _ g3).2
    rw [h5, h6] at h3
    cases h3
    obtain ⟨-, kC, hkC, -⟩ := (hK.2 z0 _ g3).1 0 (fun _ => .null)
    exact ⟨a, _, rfl, hP y _ g1, rfl, (fun q h => by cases h), ⟨kC, hkC⟩, va_asg _ _⟩
theorem mm_cR_setr {ad : List Nat} {t i : Nat} {vs : List Value} {v : Value} {f : Nat → Option Nat} {o : Option Nat} (ht : 4 ≤ t) (h0 : ∃ t0 : Nat, G.2.2.2[t0]? = some (G.2.1 t, mm_ty G t)) (hf : ∀ (j : Nat) (v : Value), vs[j]? = some v → mm_vR G ad v (va_rf (f j))) (hv : mm_vR G ad v (va_rf o)) : mm_cR G ad (.inl t, vs.set i v) (.inl (G.2.1 t, vs.length, .inr (.inr (.inr (.inr (va_up f i o)))))) := by
  refine ⟨h0, ?_⟩
  rw [if_neg (show ¬ t < 3 by omega), if_neg (show ¬ t = 3 by omega)]
  refine ⟨_, by rw [List.length_set], fun j z hz => ?_⟩
  rcases mm_setq hz with ⟨rfl, rfl⟩ | ⟨hij, hz⟩
  · simpa [va_up] using hv
  · have := hf j z hz
    simpa [va_up, Ne.symm hij] using this
theorem mm_WaastN (hexec : p.tables.exec = Jvm.exec) (hb : c.code = cc) {a : Addr} {cell : Cell} {ty : FieldType} {j : Int32} (hty : ty.isReference = true) (hcell : H[a]? = some cell) (harr : s.isArrayOf cell ty) (hknown : cell.vm ≠ .unknown) (hin : ¬ (j < 0 ∨ cell.slots.size ≤ j.toNatClampNeg))
    {g : JFrame} (hg : g.method = m) {rest : List Value} (hstack : g.stack = .null :: .int j :: .ref a :: rest) (hdg : decode cc g.pc = .ok (.aastore, 1))
    (kk : ∀ H' : Heap, H'[a]? = some (cell.setSlot j.toNatClampNeg .null) → H'.size = H.size → (∀ q, q ≠ a → H'[q]? = H[q]?) → W p l e R s m args below meth c H' (locs ++ [⟨a, j.toNatClampNeg⟩]) cells slots Q { g with pc := g.pc + 1, stack := rest }) :
    W p l e R s m args below meth c H locs cells slots Q g := by
  intro T hT X
  have hT' : T.heap[a]? = some cell := by rw [hT]; exact hcell
  have hA := State.isArrayOf_alike X.warmed.alike harr
  have hfit : T.fitsSlot cell.cls cell.vm j.toNatClampNeg .null = true := by
    obtain ⟨hobj, k, hk, comp, hkind⟩ := hA
    cases ty <;> simp [FieldType.isReference] at hty <;> cases hvm : cell.vm <;> first | exact absurd hvm (hobj _) | simp [State.fitsSlot, State.slotType?, hk, hkind, fits]
  have X' := X.stored hT' j.toNatClampNeg .null
  have st : ∀ target, Steps p.tables e below ((T.setCell a (cell.setSlot j.toNatClampNeg .null)).setTop { g with pc := g.pc + 1, stack := rest }) target → Steps p.tables e below (T.setTop g) target := by
    intro target hrest
    subst hg
    subst hb
    jvm_step X.here [hexec, hdg]
    refine aastore.wp_of_null (c := cell) (t := ty) X.here.top hstack hT' hA hin hknown (Nat.not_le.mp fun q => hin (Or.inr q)) hfit ?_
    intro acts
    rw [afterInstr_ok]
    exact hrest
  have hlt : a < T.heap.size := (Array.getElem?_eq_some_iff.mp hT').1
  obtain ⟨t', a1, b1⟩ := kk _ (heapAt_setCell_self _ hlt) (by rw [size_setCell, hT]) (fun q hq => by rw [heapAt_setCell_ne _ (Ne.symm hq), hT]) (T.setCell a (cell.setSlot j.toNatClampNeg .null)) rfl X'
  exact ⟨t', st t' a1, b1⟩
theorem mm_s_aast (hx : p.tables.exec = Jvm.exec) (hb : c.code = cc) (hts : ∀ w ∈ Ts, w.before args s = true) (hK : va_K D cl G.2.2.2 s) (hRR : mm_RR G s) (hE : mm_okE Ts P G cl)
    (hd : decode cc pc = .ok (.aastore, 1)) (hI : mm_In G D cl A s.heap nL c0 s0 a0 ls st w H locs cells slots L S) (h : mm_aast P pc ls st w = some (.inr F)) (k : mm_Kn p l e R s m args below meth c Q G D cl A s.heap nL c0 s0 a0 F) : W p l e R s m args below meth c H locs cells slots Q (F0 m pc L S) := by
  unfold mm_aast at h
  split at h
  case h_2 => cases h
  rename_i v i x r
  split at h
  case h_2 => cases h
  rename_i t vs hc
  split at h
  case isFalse => cases h
  rename_i hq
  obtain ⟨ht, hel, hi, hlt⟩ := hq
  cases h
  obtain ⟨ws, lv, hP, hD, hS, hW, hL, hl, hn, hs, e1, e2⟩ := hI
  obtain ⟨v', _, rfl, hvv, i', _, rfl, hii, x', S', rfl, hxx, hs⟩ := hs
  cases hii
  obtain ⟨ad, e, rfl, g1, g2⟩ := mm_at hW hxx hc
  have g0 := g2.1
  obtain ⟨t0, f, g3, rfl, g4⟩ := mm_cR_r ht g2
  obtain ⟨kA, comp, k1, k2, k3⟩ := hRR t ht ⟨t0, g3⟩
  obtain ⟨kcomp, hkcomp, -⟩ := Vm.findClass_spec k3
  have go : ∀ (o : Option Nat) (H1 : Heap), mm_vR G (ws.map Prod.fst) v (va_rf o) → H1[ad]? = some ((vp_cell (G.2.1 t) (vs.length, .inr (.inr (.inr (.inr f))))).setSlot i.toNatClampNeg (va_rf o)) → H1.size = H.size → (∀ q, q ≠ ad → H1[q]? = H[q]?) → W p l e R s m args below meth c H1 (locs ++ [⟨ad, i.toNatClampNeg⟩]) cells slots Q (F0 m (pc + 1) L S') := by
    intro o H1 hvo e z oq
    refine k _ _ _ _ _ _ ⟨ws.set x (ad, .inl (G.2.1 t, vs.length, .inr (.inr (.inr (.inr (va_up f i.toNatClampNeg o)))))), lv, hP.set hD g1 ?_ oq, hD.set g1, hS.put z oq (hD.2 x _ g1), hW.put g1 (mm_cR_setr ht g0 g4 hvo), hL, by rw [mm_mapset g1]; exact hl, hn, by rw [mm_mapset g1]; exact hs, e1, e2⟩
    show H1[ad]? = some (vp_cell _ _)
    rw [e]
    rw [vp_cell_q, vp_cell_q, arrV_store]
    congr 2
    funext q
    by_cases hq : q = i.toNatClampNeg
    · subst hq
      simp [updV, va_up]
    · simp [updV, va_up, hq]
  have hsz : (vp_cell (G.2.1 t) (vs.length, .inr (.inr (.inr (.inr f))))).slots.size = vs.length := arrV_size _ _ _
  cases v with
  | null =>
    cases hvv
    exact mm_WaastN hx hb (hE.1 t ht) (hP x _ g1) ((hK.2 t0 _ g3).1 vs.length (fun j => va_rf (f j))) (fun h => by cases h) (by show ¬ (i < 0 ∨ (arrV _ _ _).slots.size ≤ _); rw [arrV_size]; exact mm_vin hi hlt) rfl rfl hd (go none · rfl)
  | ref y =>
    simp only [mm_elok] at hel
    split at hel
    · rename_i kd vs' hy
      obtain ⟨av, cellV, rfl, v1, v2, v3, ⟨kC, hkC⟩, v5⟩ := mm_elv hts hK hP hW hE ht hel hy hvv k3
      exact W.aast hx hb (hP x _ g1) (fun q h => by cases h) (fun h => by cases h) k1 k2 (hE.1 t ht) hkcomp ⟨hi, by show _ < (arrV _ _ _).slots.size; rw [arrV_size]; exact hlt⟩ v1 v3 hkC v5 rfl rfl hd (go (some av) · hvv)
    · cases hel
  | int x => cases hel
  | long x => cases hel
  | float x => cases hel
  | double x => cases hel
  | retAddr x => cases hel
end MMY
