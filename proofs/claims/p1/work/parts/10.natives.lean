/-! System.arraycopy, getClass -/
section MMN
variable {p : Program} {l : Launch} {e : Env} {R : Room} {s : State} {m : MethodId} {args : Array Value} {below : List Frame} {meth : Method} {c : Code} {Q : State → Prop}
variable {G : mmG} {D : va_G} {cl : List vw_C} {ocl : Nat → Option vw_C} {A : Nat → Prop} {nL c0 s0 : Nat} {a0 : List Nat} {cc : ByteArray} {pc : Nat} {ls : mmL} {st : List Value} {w : mmW} {H : Heap} {locs : List Loc} {cells slots : Nat} {L : Array Slot} {S : List Value} {F : mmF} {P : mmP} {Ts : List Cond} {own : String}
theorem mm_lcpy_len {f g : List Value} {sp dp n : Nat} (h1 : sp + n ≤ f.length) (h2 : dp + n ≤ g.length) : (mm_lcpy f g sp dp n).length = g.length := by
  simp only [mm_lcpy, List.length_append, List.length_take, List.length_drop]
  omega
theorem mm_lcpy_get {f g : List Value} {sp dp n j : Nat} {v : Value} (h1 : sp + n ≤ f.length) (h2 : dp + n ≤ g.length) (h : (mm_lcpy f g sp dp n)[j]? = some v) : (dp ≤ j ∧ j < dp + n ∧ f[sp + (j - dp)]? = some v) ∨ (¬ (dp ≤ j ∧ j < dp + n) ∧ g[j]? = some v) := by
  unfold mm_lcpy at h
  have hA : (List.take dp g ++ List.take n (List.drop sp f)).length = dp + n := by
    simp only [List.length_append, List.length_take, List.length_drop]
    omega
  have hB : (List.take dp g).length = dp := by
    simp only [List.length_take]
    omega
  by_cases c1 : j < dp + n
  · rw [List.getElem?_append_left (by omega)] at h
    by_cases c2 : j < dp
    · rw [List.getElem?_append_left (by omega), List.getElem?_take] at h
      rw [if_pos c2] at h
      exact Or.inr ⟨by omega, h⟩
    · rw [List.getElem?_append_right (by omega), hB, List.getElem?_take, if_pos (by omega), List.getElem?_drop] at h
      exact Or.inl ⟨by omega, c1, h⟩
  · rw [List.getElem?_append_right (by omega), hA, List.getElem?_drop] at h
    exact Or.inr ⟨by omega, by rw [← h]; congr 1; omega⟩
theorem mm_take_get {f : List Value} {sp n i : Nat} {v : Value} (hi : i < n) (h : f[sp + i]? = some v) : v ∈ (f.drop sp).take n := by
  refine List.mem_of_getElem? (i := i) ?_
  rw [List.getElem?_take, if_pos hi, List.getElem?_drop]
  exact h
theorem mm_s_acpy (hx : p.tables.exec = Jvm.exec) (hb : c.code = cc) (hml : c.maxLocals = nL) (hts : ∀ w ∈ Ts, w.before args s = true) (hown : s.vm.findClass own = some m.cls) (hK : va_K D cl G.2.2.2 s) (hRR : mm_RR G s) (hE : mm_okE Ts P G cl) (hf : 1 ≤ R.frames) (hlo : 40 ≤ R.locals)
    {i : Nat} (ok : Cond.methodLink own i arraycopyName ∈ Ts ∧ Cond.native arraycopyName ∈ Ts ∧ Cond.static arraycopyName ∈ Ts ∧ Cond.initialized "java/lang/System" ∈ Ts)
    (hd : decode cc pc = .ok (.invokestatic i, 3)) (hI : mm_In G D cl A s.heap nL c0 s0 a0 ls st w H locs cells slots L S) (h : mm_acpy P pc ls st w = some (.inr F)) (k : mm_Kn p l e R s m args below meth c Q G D cl A s.heap nL c0 s0 a0 F) : W p l e R s m args below meth c H locs cells slots Q (F0 m pc L S) := by
  unfold mm_acpy at h
  split at h
  case h_2 => cases h
  rename_i n dp y sp x r
  split at h
  case h_2 => cases h
  rename_i t f u g hcx hcy
  split at h
  case isFalse => cases h
  rename_i hq
  obtain ⟨hcat, hsp, hdp, hn0, h4, h5, rfl, hty⟩ := hq
  cases h
  obtain ⟨ws, lv, hP, hD, hS, hW, hL, hl, hn, hs, e1, e2⟩ := hI
  obtain ⟨_, _, rfl, hv1, _, _, rfl, hv2, y', _, rfl, hyy, _, _, rfl, hv3, x', S', rfl, hxx, hs⟩ := hs
  cases hv1
  cases hv2
  cases hv3
  obtain ⟨adx, ex, rfl, gx1, gx2⟩ := mm_at hW hxx hcx
  obtain ⟨ady, ey, rfl, gy1, gy2⟩ := mm_at hW hyy hcy
  have hcat2 := hs.cat
  unfold mm_cat at hcat2 hcat
  have hw : nativeFrameWords "java/lang/System" "arraycopy" 5 ≤ 12 := by decide +kernel
  have hlen : (mm_lcpy f g sp.toNatClampNeg dp.toNatClampNeg n.toNatClampNeg).length = g.length := mm_lcpy_len h4 h5
  have g0 := gy2.1
  have prim : ∀ (ty : FieldType), t < 3 → mm_ty G t = ty → refKind ty = false → (∀ v ∈ (f.drop sp.toNatClampNeg).take n.toNatClampNeg, ∀ x, v = .int x → fits ty (.int x) = true) → W p l e R s m args below meth c H locs cells slots Q (F0 m pc L (.int n :: .int dp :: .ref ady :: .int sp :: .ref adx :: S')) := by
    intro ty ht3 hty2 hrk hfit
    obtain ⟨tx, fx, g3x, rfl, g4x⟩ := mm_cR_i ht3 gx2
    obtain ⟨tz, fy, g3y, rfl, g4y⟩ := mm_cR_i ht3 gy2
    rw [hty2] at g3x g3y
    refine va_copyi hx hb (by rw [hml]; exact hL.1.symm) hown (hts _ ok.1) (hts _ ok.2.1) (hts _ ok.2.2.1) (hts _ ok.2.2.2) hK hP hD hS x y tx tz gx1 gy1 g3x g3y hrk hsp hdp hn0 h4 h5 (fun j hj => ?_) hf (by omega) hd (fun H1 locs1 hP1 hD1 hS1 => k _ _ _ _ _ _ ⟨_, lv, hP1, hD1, hS1, hW.put gy1 ⟨g0, ?_⟩, hL, by rw [mm_mapset gy1]; exact hl, hn, by rw [mm_mapset gy1]; exact hs, e1, e2⟩)
    · have hlt : sp.toNatClampNeg + j < f.length := by omega
      have hg := List.getElem?_eq_getElem hlt
      exact hfit _ (mm_take_get hj hg) _ (g4x _ _ hg)
    · rw [if_pos ht3]
      refine ⟨_, by rw [hlen], fun j v hv => ?_⟩
      rcases mm_lcpy_get h4 h5 hv with ⟨q1, q2, q3⟩ | ⟨q1, q2⟩
      · rw [g4x _ _ q3]
        simp only [va_cpy]
        rw [if_pos ⟨q1, q2⟩]
      · rw [g4y _ _ q2]
        simp only [va_cpy]
        rw [if_neg q1]
  rcases hty with rfl | ⟨rfl, hall⟩ | ⟨ht, hall⟩
  · exact prim .int (by decide) rfl rfl (fun v _ x _ => rfl)
  · refine prim .boolean (by decide) rfl rfl (fun v hv x hvx => ?_)
    have := List.all_eq_true.mp hall v hv
    subst hvx
    simpa [mm_fit, fits] using this
  · obtain ⟨tx, fx, g3x, rfl, g4x⟩ := mm_cR_r ht gx2
    obtain ⟨tz, fy, g3y, rfl, g4y⟩ := mm_cR_r ht gy2
    have nn : ∀ z : Int32, ¬ z < 0 → z.toInt = (z.toNatClampNeg : Int) := by
      intro z hz
      have hz0 : (0 : Int) ≤ z.toInt := by
        have := Int32.not_lt.mp hz
        simpa using Int32.le_iff_toInt_le.mp this
      show z.toInt = ((z.toInt.toNat : Nat) : Int)
      omega
    obtain ⟨kA, comp, k1, k2, k3⟩ := hRR t ht ⟨tx, g3x⟩
    obtain ⟨kE, hkE, -⟩ := Vm.findClass_spec k3
    have hc0 : H[adx]? = some (vp_cell (G.2.1 t) (f.length, .inr (.inr (.inr (.inr fx))))) := hP x _ gx1
    have hc1 : H[ady]? = some (vp_cell (G.2.1 t) (g.length, .inr (.inr (.inr (.inr fy))))) := hP y _ gy1
    intro T hT X
    obtain ⟨vm', X', step⟩ := X.arraycopy hx hown (hts _ ok.1) (hts _ ok.2.1) (hts _ ok.2.2.1) (hts _ ok.2.2.2) (src := adx) (dst := ady) (cs := vp_cell (G.2.1 t) (f.length, .inr (.inr (.inr (.inr fx))))) (cd := vp_cell (G.2.1 t) (g.length, .inr (.inr (.inr (.inr fy))))) (srcPos := sp) (destPos := dp) (n := n) (by rw [hT]; exact hc0) (by rw [hT]; exact hc1)
      (fun _ h => by cases h) (fun _ h => by cases h) (fun h => by cases h) (fun h => by cases h) k1 k1 k2 k2 (by simp) hsp hdp hn0
      (by rw [nn sp hsp, nn n hn0]; show ¬ _ > ((arrV (G.2.1 t) f.length (fun j => va_rf (fx j))).slots.size : Int); rw [arrV_size]; omega)
      (by rw [nn dp hdp, nn n hn0]; show ¬ _ > ((arrV (G.2.1 t) g.length (fun j => va_rf (fy j))).slots.size : Int); rw [arrV_size]; omega)
      (fun vm₁ hal i hi => by
        have hlt : sp.toNatClampNeg + i < f.length := by omega
        have e : (vp_cell (G.2.1 t) (f.length, .inr (.inr (.inr (.inr fx))))).slots.getD (sp.toNatClampNeg + i) .null = va_rf (fx (sp.toNatClampNeg + i)) := by
          show (arrV (G.2.1 t) f.length (fun j => va_rf (fx j))).slots.getD _ _ = _
          rw [Array.getD_eq_getD_getElem?, arrV_read _ _ hlt]
          rfl
        rw [e]
        have hfit : ∀ o : Option Nat, fits (G.2.2.1 t) (va_rf o) = true := by
          intro o
          have := hE.1 t ht
          revert this
          cases G.2.2.1 t <;> intro this <;> first | (simp [FieldType.isReference] at this; done) | (cases o <;> rfl)
        refine ⟨hfit _, ?_⟩
        have hg := List.getElem?_eq_getElem hlt
        have hrel := g4x _ _ hg
        have hok := List.all_eq_true.mp hall _ (mm_take_get hi hg)
        generalize f[sp.toNatClampNeg + i] = v at hrel hok
        cases v with
        | null =>
          cases hfx : fx (sp.toNatClampNeg + i) with
          | none => trivial
          | some q => rw [hfx] at hrel; cases hrel
        | ref z =>
          simp only [mm_elok] at hok
          split at hok
          · rename_i kd vs' hz
            obtain ⟨av, cellV, hav, v1, v2, v3, ⟨kC, hkC⟩, v5⟩ := mm_elv hts hK hP hW hE ht hok hz hrel k3
            rw [hav]
            obtain ⟨kC', hkC', -⟩ := hal.2.2 _ _ hkC
            obtain ⟨kE', hkE', -⟩ := hal.2.2 _ _ hkE
            refine ⟨cellV, (show T.heap[av]? = some cellV by rw [hT]; exact v1), v3, ⟨kC', hkC'⟩, ⟨kE', hkE'⟩, ?_⟩
            show vm₁.assignable _ _ = true
            rw [hal.assignable]
            exact v5
          · cases hok
        | int z => cases hok
        | long z => cases hok
        | float z => cases hok
        | double z => cases hok
        | retAddr z => cases hok)
      (g := F0 m pc L (.int n :: .int dp :: .ref ady :: .int sp :: .ref adx :: S')) rfl (by rw [hml]; exact hL.1) (rest := S') rfl (by rw [hb]; exact hd) hf (by show 2 * 0 + _ + _ ≤ _; omega)
    have e3 : copied (vp_cell (G.2.1 t) (f.length, .inr (.inr (.inr (.inr fx))))) (vp_cell (G.2.1 t) (g.length, .inr (.inr (.inr (.inr fy))))) sp dp n = vp_cell (G.2.1 t) (g.length, .inr (.inr (.inr (.inr (va_cpy fx fy sp.toNatClampNeg dp.toNatClampNeg n.toNatClampNeg))))) := by
      rw [vp_cell_q, vp_cell_q, vp_cell_q]
      exact va_copied (fun z => va_rf z) (G.2.1 t) (G.2.1 t) fx fy h4
    rw [e3] at X' step
    have hl2 : ady < H.size := (Array.getElem?_eq_some_iff.mp hc1).1
    generalize hN : vp_cell (G.2.1 t) (g.length, .inr (.inr (.inr (.inr (va_cpy fx fy sp.toNatClampNeg dp.toNatClampNeg n.toNatClampNeg))))) = N at X' step
    have hheap : ((T.setVm vm').setCell ady N).heap = H.setIfInBounds ady N := by rw [← hT]; rfl
    have oq : ∀ q : Nat, q ≠ ady → (H.setIfInBounds ady N)[q]? = H[q]? := fun q hq => by simp [Array.getElem?_setIfInBounds, Ne.symm hq]
    have hat : va_at D cl (ady, .inl (G.2.1 t, g.length, .inr (.inr (.inr (.inr (va_cpy fx fy sp.toNatClampNeg dp.toNatClampNeg n.toNatClampNeg)))))) (H.setIfInBounds ady N) := by
      show (H.setIfInBounds ady N)[ady]? = some (vp_cell _ _)
      rw [hN]
      simp [Array.getElem?_setIfInBounds, hl2]
    have hP1 := hP.set hD gy1 hat oq
    obtain ⟨t2, a1, b1⟩ := k _ _ _ _ _ _ ⟨_, lv, hP1, hD.set gy1, ⟨by simp; exact hS.1, fun q g1 g2 => by
        rw [oq q (fun e => g2 (by rw [e]; exact hD.2 y _ gy1))]
        exact hS.2.1 q g1 g2, fun q hq => by
        rcases List.mem_append.mp hq with h | h
        · exact hS.2.2 q h
        · obtain ⟨z, -, hz⟩ := List.mem_map.mp h
          rw [← hz]
          exact hD.2 y _ gy1⟩, hW.put gy1 ⟨g0, by
        rw [if_neg (show ¬ t < 3 by omega), if_neg (show ¬ t = 3 by omega)]
        refine ⟨_, by rw [hlen], fun j v hv => ?_⟩
        rcases mm_lcpy_get h4 h5 hv with ⟨q1, q2, q3⟩ | ⟨q1, q2⟩
        · have := g4x _ _ q3
          simp only [va_cpy]
          rw [if_pos ⟨q1, q2⟩]
          exact this
        · have := g4y _ _ q2
          simp only [va_cpy]
          rw [if_neg q1]
          exact this⟩, hL, by rw [mm_mapset gy1]; exact hl, hn, by rw [mm_mapset gy1]; exact hs, e1, e2⟩ _ hheap X'
    exact ⟨t2, step t2 a1, b1⟩
abbrev mm_gcN : MethodName := ⟨"java/lang/Object", "getClass", "()Ljava/lang/Class;"⟩
theorem mm_s_getC (hx : p.tables.exec = Jvm.exec) (hb : c.code = cc) (hml : c.maxLocals = nL) (hts : ∀ w ∈ Ts, w.before args s = true) (hown : s.vm.findClass own = some m.cls) (hK : va_K D cl G.2.2.2 s) (hf : 1 ≤ R.frames) (hlo : 40 ≤ R.locals)
    {i a t : Nat} (ok : ∃ C, 4 ≤ t ∧ G.2.2.1 t = .object C ∧ Cond.methodLink own i mm_gcN ∈ Ts ∧ Cond.declares mm_gcN ∈ Ts ∧ Cond.selects ("[" ++ (FieldType.object C).toString) mm_gcN mm_gcN ∈ Ts ∧ Cond.instanceMethod mm_gcN ∈ Ts ∧ Cond.native mm_gcN ∈ Ts ∧ va_Mi ("[" ++ (FieldType.object C).toString) (G.1 a) s)
    (hd : decode cc pc = .ok (.invokevirtual i, 3)) (hI : mm_In G D cl A s.heap nL c0 s0 a0 ls st w H locs cells slots L S) (h : mm_getC P a t pc ls st w = some (.inr F)) (k : mm_Kn p l e R s m args below meth c Q G D cl A s.heap nL c0 s0 a0 F) : W p l e R s m args below meth c H locs cells slots Q (F0 m pc L S) := by
  obtain ⟨C, ht, hC, o1, o2, o3, o4, o5, o6⟩ := ok
  unfold mm_getC at h
  split at h
  case h_2 => cases h
  rename_i x r
  split at h
  case h_2 => cases h
  rename_i t' vs hc
  split at h
  case isFalse => cases h
  rename_i hq
  obtain ⟨rfl, hcat⟩ := hq
  cases h
  obtain ⟨ws, lv, hP, hD, hS, hW, hL, hl, hn, hs, e1, e2⟩ := hI
  obtain ⟨x', S', rfl, hxx, hs⟩ := hs
  obtain ⟨ad, e, rfl, g1, g2⟩ := mm_at hW hxx hc
  obtain ⟨t0, f, g3, rfl, g4⟩ := mm_cR_r ht g2
  have hcat2 := hs.cat
  unfold mm_cat at hcat2 hcat
  rw [hC] at g3
  refine va_getC hx hb (by rw [hml]; exact hL.1.symm) hown (hts _ o1) (hts _ o2) (hts _ o3) (hts _ o4) (hts _ o5) o6 ⟨_, hP x _ g1, rfl, ?_⟩ hf (by omega) hd (k _ _ _ _ _ _ ⟨ws, lv, hP, hD, hS, hW, hL, hl, hn, ⟨_, _, rfl, rfl, hs⟩, e1, e2⟩)
  obtain ⟨_, _, _, _, _, h4⟩ := (hK.2 t0 _ g3).2
  exact h4
end MMN
