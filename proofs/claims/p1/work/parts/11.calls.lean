/-! calls and returns -/
/-- words that a callee may have of its caller -/
def mm_good : Cond → Bool
  | .fieldLinkNest .. => true
  | .methodLinkNest .. => true
  | .castable .. => true
  | .declares _ => true
  | .arrayOver (.object _) => true
  | .arrayOver (.array _) => true
  | w => goodWord w
theorem mm_warm {w : Cond} (hg : mm_good w = true) {args a' : Array Value} {s U : State} (hW : s.WarmedH U.vm) (h : w.before args s = true) : w.before a' U = true := by
  unfold mm_good at hg
  split at hg
  · exact va_Nw.use rfl (va_Nw.warmF hW (va_Nw.of rfl h))
  · exact va_Nw.use rfl (va_Nw.warmM hW (va_Nw.of rfl h))
  · exact va_Nw.use rfl (va_Nw.warmC hW (va_Nw.of rfl h))
  · exact va_Nw.use rfl (va_Nw.warmD hW (va_Nw.of rfl h))
  · exact va_AO.use (va_AO.moved hW.alike (va_AO.of h))
  · exact over_moved hW.alike h
  · exact word_at hW (good_of_word hg) h
abbrev mmX : Type := List (String × Nat × String × Nat) × List (String × Nat) × List (String × String × String × Nat × Nat) × (Nat → Option vw_C)
def mm_A (B : Nat) : Nat → Prop := fun q => B ≤ q
/-- what the tables and the old cells give at a state -/
def mm_GK (P : mmP) (G : mmG) (D : va_G) (cl : List vw_C) (X : mmX) (B : Nat) (U : State) : Prop :=
  va_K D cl G.2.2.2 U ∧ mm_RR G U ∧ mm_oR P G cl X.2.2.2 (mm_A B) U U.heap ∧ (∀ q ∈ X.1, vk_R q.1 q.2.1 q.2.2.1 (G.1 q.2.2.2) U) ∧ (∀ q ∈ X.2.1, va_Mi q.1 (G.1 q.2) U) ∧ ∀ q ∈ X.2.2.1, mm_stF G q.2.2.2.1 q.2.2.2.2 q.1 q.2.1 q.2.2.1 (mm_A B) U U.heap
theorem mm_GK.next {P : mmP} {G : mmG} {D : va_G} {cl : List vw_C} {X : mmX} {B : Nat} {s U : State} {H : Heap} {locs : List Loc} (h : mm_GK P G D cl X B s) (hS : va_S (mm_A B) s.heap H locs) (hU : U.heap = H) (hW : s.WarmedH U.vm) : mm_GK P G D cl X B U := by
  obtain ⟨h1, h2, h3, h4, h5, h6⟩ := h
  refine ⟨va_K.moved hW.alike h1, h2.moved hW.alike, ?_, fun q hq => vk_R.warm hW (h4 q hq), fun q hq => va_Mi.moved hW.alike (h5 q hq), fun q hq => ?_⟩
  · rw [hU]
    exact mm_oR.moved hW.alike (h3.kept hS.2.1)
  · rw [hU]
    exact mm_stF.moved hW.alike ((h6 q hq).kept hS.2.1)
theorem mm_GK.blind {P : mmP} {G : mmG} {D : va_G} {cl : List vw_C} {X : mmX} {B : Nat} {U : State} {g : JFrame} {mk : MethodId} {a : Array Value} (h : mm_GK P G D cl X B U) : mm_GK P G D cl X B (U.calling g mk a) := by
  obtain ⟨h1, h2, h3, h4, h5, h6⟩ := h
  exact ⟨va_K.moved (u := U) (U := U.calling g mk a) (Vm.Alike.refl U.vm) h1, mm_RR.moved (u := U) (U := U.calling g mk a) (Vm.Alike.refl U.vm) h2, mm_oR.moved (u := U) (U := U.calling g mk a) (Vm.Alike.refl U.vm) h3, fun q hq => vk_R.same (u := U) rfl (h4 q hq), fun q hq => va_Mi.moved (u := U) (U := U.calling g mk a) (Vm.Alike.refl U.vm) (h5 q hq), fun q hq => mm_stF.moved (u := U) (U := U.calling g mk a) (Vm.Alike.refl U.vm) (h6 q hq)⟩
def mm_oVR (G : mmG) (ad : List Nat) : Option Value → Option Value → Prop
  | none, v => v = none
  | some x, v => ∃ y, v = some y ∧ mm_vR G ad x y
/-- a method's end -/
def mm_Qc (G : mmG) (D : va_G) (cl : List vw_C) (B : Nat) (a0 : List Nat) (v : Option Value) (w : mmW) : Array Value → State → Outcome → State → Prop := fun _ st o t =>
  (∃ (ws : va_W) (v' : Option Value), o = .returned v' ∧ mm_oVR G (ws.map Prod.fst) v v' ∧ mm_wR G a0 w ws ∧ va_P D cl ws t.heap ∧ va_D (mm_A B) ws) ∧ va_F (mm_A B) st t
/-- a method's start -/
def mm_Pc (P : mmP) (G : mmG) (D : va_G) (cl : List vw_C) (X : mmX) (B : Nat) (ws : va_W) (S : List Value) : Array Value → State → Prop := va_Pc S (fun U => va_P D cl ws U.heap ∧ mm_GK P G D cl X B U ∧ B ≤ U.heap.size)
theorem mm_Pc.blind {P : mmP} {G : mmG} {D : va_G} {cl : List vw_C} {X : mmX} {B : Nat} {ws : va_W} {S : List Value} : FrameBlind (mm_Pc P G D cl X B ws S) := fun a U g mk h => ⟨h.1, h.2.1, h.2.2.1.blind, h.2.2.2⟩
abbrev mmM : Type := Nat → Option (MethodName × ByteArray × Option FieldType)
/-- what a call's code is, by fuel: every call of it that MM ends, the machine ends so -/
def mm_CallOK (l : Launch) (P : mmP) (G : mmG) (D : va_G) (cl : List vw_C) (X : mmX) (B : Nat) (Mt : mmM) (Ts : List Cond) (d : Nat) (call : Nat → List Value → mmW → Option mmO) : Prop :=
  ∀ (a : Nat) (as : List Value) (w w' : mmW) (v : Option Value), call a as w = some (v, w') → w.2.1 ≤ w'.2.1 ∧ w.2.2 ≤ w'.2.2 ∧ ∀ (y : MethodName) (bytes : ByteArray) (ret : Option FieldType), Mt a = some (y, bytes, ret) →
    ∀ (S : List Value) (ws : va_W) (a0 : List Nat), mm_wR G a0 w ws → mm_sR G (ws.map Prod.fst) as S → va_D (mm_A B) ws →
      Met l y (Cond.code y bytes (P.2.2.2.2 a) ret :: Ts) ({ frames := d, cells := w'.2.1 - w.2.1, slots := w'.2.2 - w.2.2, locals := 41 * d }) (mm_Pc P G D cl X B ws S) (mm_Qc G D cl B (ws.map Prod.fst) v w') (w'.2.1 - w.2.1) (w'.2.2 - w.2.2) (mm_A B)
/-- what the tables say of a call -/
def mm_okM (Ts : List Cond) (P : mmP) (cl : List vw_C) (ocl : Nat → Option vw_C) (Mt : mmM) (own : String) (i a b t : Nat) : Prop := ∃ (y : MethodName) (bytes : ByteArray) (ret : Option FieldType), Mt a = some (y, bytes, ret) ∧ Cond.code y bytes (P.2.2.2.2 a) ret ∈ Ts ∧ Cond.initialized y.cls ∈ Ts ∧ P.2.2.2.2 a ≤ 22 ∧ (y.cls ≠ "java/lang/invoke/MethodHandle" ∧ y.cls ≠ "java/lang/invoke/VarHandle") ∧ (Cond.methodLink own i y ∈ Ts ∨ ∃ host, Cond.methodLinkNest own i y host ∈ Ts) ∧
  match t with
  | 0 => Cond.static y ∈ Ts ∧ (parseMethodDescriptor y.desc).map (fun d => d.parameters.length) = some b
  | 1 => y.name = "<init>" ∧ ret = none ∧ Cond.instanceMethod y ∈ Ts ∧ (parseMethodDescriptor y.desc).map (fun d => d.parameters.length + 1) = some b
  | t + 2 => ∃ r : vw_C, mm_cl cl ocl t = some r ∧ Cond.instanceMethod y ∈ Ts ∧ Cond.selects r.1 y y ∈ Ts ∧ (parseMethodDescriptor y.desc).map (fun d => d.parameters.length + 1) = some b
theorem mm_plen {d : String} {n k : Nat} (h : (parseMethodDescriptor d).map (fun d => d.parameters.length + k) = some n) : ∀ sig, parseMethodDescriptor d = some sig → n - k = sig.parameters.length := by
  intro sig hs
  rw [hs] at h
  have := Option.some.inj (show some (sig.parameters.length + k) = some n from h)
  omega
section MMC
variable {p : Program} {l : Launch} {e : Env} {R : Room} {s : State} {m : MethodId} {args : Array Value} {below : List Frame} {meth : Method} {c : Code} {Q : State → Prop}
variable {G : mmG} {D : va_G} {cl : List vw_C} {X : mmX} {B : Nat} {nL c0 s0 : Nat} {a0 : List Nat} {cc : ByteArray} {pc : Nat} {ls : mmL} {st : List Value} {w : mmW} {H : Heap} {locs : List Loc} {cells slots : Nat} {L : Array Slot} {S : List Value} {F : mmF} {P : mmP} {Ts : List Cond} {own : String} {Mt : mmM}
theorem mm_back {mc ms : Nat} {rest S0 : List Value} {a : Array Value} {ad : List Nat} {v : Option Value} {w' : mmW} (hr : va_Run p l e R s m args below meth c H locs cells slots mc ms (F0 m pc L S0) rest (mm_Qc G D cl B ad v w' a) (mm_A B)) (hS : va_S (mm_A B) s.heap H locs)
    (kk : ∀ (v' : Option Value) (ws : va_W) (H1 : Heap) (locs1 : List Loc), mm_oVR G (ws.map Prod.fst) v v' → mm_wR G ad w' ws → va_P D cl ws H1 → va_D (mm_A B) ws → va_S (mm_A B) s.heap H1 locs1 → W p l e R s m args below meth c H1 locs1 (cells + mc) (slots + ms) Q (F0 m (pc + 3) L (v'.toList ++ rest))) : W p l e R s m args below meth c H locs cells slots Q (F0 m pc L S0) := by
  intro T hT X
  obtain ⟨v1, st₀, t, T', L1, h0, X', hL, e1, e2, ⟨⟨ws, v', hv, g1, g2, g3, g4⟩, hz, hk⟩, st⟩ := hr T hT X
  cases hv
  rw [h0] at hz hk
  obtain ⟨t2, a1, b1⟩ := kk v1 ws t.heap (locs ++ L1) g1 g2 g3 g4 ⟨Nat.le_trans hS.1 hz, fun q h1 h2 => by rw [hk q (Nat.lt_of_lt_of_le h1 hS.1) h2]; exact hS.2.1 q h1 h2, fun q hq => by
      rcases List.mem_append.mp hq with h | h
      · exact hS.2.2 q h
      · exact hL q h⟩ T' e1 X'
  exact ⟨t2, st t2 a1, b1⟩
theorem mm_s_call {d : Nat} {call : Nat → List Value → mmW → Option mmO} (hx : p.tables.exec = Jvm.exec) (hb : c.code = cc) (hml : c.maxLocals = nL) (hts : ∀ w ∈ Ts, w.before args s = true) (hgood : ∀ w ∈ Ts, mm_good w = true) (hown : s.vm.findClass own = some m.cls) (hGK : mm_GK P G D cl X B s) (hBs : B ≤ s.heap.size)
    (hcall : mm_CallOK l P G D cl X B Mt Ts d call) (hf : d + 1 ≤ R.frames) (hlo : 41 * d + 41 ≤ R.locals) {i a b t : Nat} (ok : mm_okM Ts P cl X.2.2.2 Mt own i a b t)
    (hd : decode cc pc = .ok (if t = 0 then .invokestatic i else if t = 1 then .invokespecial i else .invokevirtual i, 3)) (hI : mm_In G D cl (mm_A B) s.heap nL c0 s0 a0 ls st w H locs cells slots L S) (h : mm_call P call a b t pc ls st w = some (.inr F)) (hR : F.2.2.2.2.1 ≤ R.cells + c0 ∧ F.2.2.2.2.2 ≤ R.slots + s0) (k : mm_Kn p l e R s m args below meth c Q G D cl (mm_A B) s.heap nL c0 s0 a0 F) : W p l e R s m args below meth c H locs cells slots Q (F0 m pc L S) := by
  unfold mm_call at h
  split at h
  case isFalse => cases h
  rename_i hq
  obtain ⟨hblen, hcat, hrecv⟩ := hq
  split at h
  case h_2 => cases h
  rename_i v w' hc
  cases h
  obtain ⟨y, bytes, ret, o1, o2, o3, o4, o5, o6, o7⟩ := ok
  obtain ⟨ws, lv, hP, hD, hS, hW, hL, hl, hn, hs, e1, e2⟩ := hI
  obtain ⟨hm1, hm2, hMet⟩ := hcall a _ w w' v hc
  have hlenS := hs.len
  have hsT : mm_sR G (ws.map Prod.fst) (st.take b).reverse (S.take b).reverse := (hs.take b).rev
  have hsD : mm_sR G (ws.map Prod.fst) (st.drop b) (S.drop b) := hs.drop b
  have hM := hMet y bytes ret o1 _ ws a0 hW hsT hD
  have hcatS := hsD.cat
  have hGU : ∀ U : State, U.heap = H → s.WarmedH U.vm → mm_Pc P G D cl X B ws (S.take b).reverse (S.take b).reverse.toArray U := fun U hU hWm => ⟨rfl, by rw [hU]; exact hP, hGK.next hS hU hWm, by rw [hU]; exact Nat.le_trans hBs hS.1⟩
  have hwords : ∀ w ∈ Cond.code y bytes (P.2.2.2.2 a) ret :: Ts, ∀ (a' : Array Value) (U : State), s.WarmedH U.vm → w.before a' U = true := fun w hw a' U hWm => by
    rcases List.mem_cons.mp hw with rfl | hw
    · exact mm_warm (hgood _ o2) hWm (hts _ o2)
    · exact mm_warm (hgood _ hw) hWm (hts _ hw)
  have hrl : 8 + (P.2.2.2.2 a + 11) + 41 * d ≤ R.locals := by omega
  have hW2 : 2 * (F0 m pc L S).monitorRoom + ((S.drop b).map fun v => v.category).sum ≤ 8 := by
    unfold mm_cat at hcatS hcat
    show 2 * 0 + _ ≤ 8
    omega
  have hfit : cells + (w'.2.1 - w.2.1) ≤ R.cells ∧ slots + (w'.2.2 - w.2.2) ≤ R.slots := by
    simp only at hR
    omega
  have goes : ∀ (v' : Option Value) (ws1 : va_W) (H1 : Heap) (locs1 : List Loc), mm_oVR G (ws1.map Prod.fst) v v' → mm_wR G (ws.map Prod.fst) w' ws1 → va_P D cl ws1 H1 → va_D (mm_A B) ws1 → va_S (mm_A B) s.heap H1 locs1 → W p l e R s m args below meth c H1 locs1 (cells + (w'.2.1 - w.2.1)) (slots + (w'.2.2 - w.2.2)) Q (F0 m (pc + 3) L (v'.toList ++ S.drop b)) := by
    intro v' ws1 H1 locs1 g1 g2 g3 g4 g5
    refine k _ _ _ _ _ _ ⟨ws1, lv, g3, g4, g5, ⟨g2.1, g2.2.1, hW.2.2.tr g2.2.2⟩, hL, hl.up g2.2.2, hn, ?_, by simp only; omega, by simp only; omega⟩
    refine mm_sR.app ?_ (hsD.up g2.2.2)
    cases v with
    | none => cases g1; rfl
    | some x =>
      obtain ⟨y', rfl, g1⟩ := g1
      exact ⟨y', [], rfl, g1, rfl⟩
  have hstk : S = (S.take b).reverse.reverse ++ S.drop b := by rw [List.reverse_reverse, List.take_append_drop]
  have hlen1 : (S.take b).reverse.length = b := by
    rw [List.length_reverse, List.length_take]
    omega
  match t, o7 with
  | 0, ⟨p1, p2⟩ =>
    have hd : decode cc pc = .ok (.invokestatic i, 3) := hd
    rcases o6 with o6 | ⟨host, o6⟩
    · exact mm_back (va_runS (n := b) (As := (S.take b).reverse) (rest := S.drop b) ⟨hx, hb, hml, hown, hts⟩ hM ⟨⟨rfl, rfl, hf, hrl, hwords, List.mem_cons_self, hts _ o2, hts _ o3, o5, mm_plen (k := 0) p2, hts _ o6⟩, hts _ p1⟩ ⟨mm_Pc.blind, hGU⟩ rfl hlen1 hL.1 hstk hW2 hd hfit) hS goes
    · exact mm_back (va_runSN (n := b) (As := (S.take b).reverse) (rest := S.drop b) ⟨hx, hb, hml, hown, hts⟩ hM ⟨⟨⟨rfl, rfl, hf, hrl, hwords, List.mem_cons_self⟩, hts _ o2, hts _ o3, o5, mm_plen (k := 0) p2, hts _ o6⟩, hts _ p1, trivial⟩ ⟨mm_Pc.blind, hGU⟩ rfl hlen1 hL.1 hstk hW2 hd hfit) hS goes
  | 1, ⟨p1, p2, p3, p4⟩ =>
    have hd : decode cc pc = .ok (.invokespecial i, 3) := hd
    subst p2
    have hb1 := mm_plen (k := 1) p4
    obtain ⟨n1, hn1⟩ : ∃ n1, b = n1 + 1 := by
      cases hsg : parseMethodDescriptor y.desc with
      | none => rw [hsg] at p4; cases p4
      | some sig => rw [hsg] at p4; exact ⟨_, (Option.some.inj p4).symm⟩
    generalize hA1 : (st.take b).reverse = as at hrecv hsT hc
    generalize hA2 : (S.take b).reverse = aS at hsT hM hGU hstk hlen1
    cases as with
    | nil => cases hrecv
    | cons x0 as =>
      cases x0 with
      | ref x0 =>
        obtain ⟨x', aS', rfl, hx0, hsA⟩ := hsT
        obtain ⟨adr, -, rfl⟩ := hx0
        have hstk2 : S = aS'.reverse ++ .ref adr :: S.drop b := hstk.trans (by rw [List.reverse_cons, List.append_assoc]; rfl)
        have hlen2 : aS'.length = b - 1 := by simp at hlen1; omega
        rcases o6 with o6 | ⟨host, o6⟩
        · exact mm_back (va_runI (n := b - 1) (b := adr) (As := aS') (rest := S.drop b) ⟨hx, hb, hml, hown, hts⟩ hM ⟨⟨rfl, rfl, hf, hrl, hwords, List.mem_cons_self, hts _ o2, hts _ o3, o5, hb1, hts _ o6⟩, p1, hts _ p3⟩ ⟨mm_Pc.blind, hGU⟩ rfl hlen2 hL.1 hstk2 hW2 hd hfit) hS goes
        · exact mm_back (va_runIN (n := b - 1) (b := adr) (As := aS') (rest := S.drop b) ⟨hx, hb, hml, hown, hts⟩ hM ⟨⟨⟨rfl, rfl, hf, hrl, hwords, List.mem_cons_self⟩, hts _ o2, hts _ o3, o5, hb1, hts _ o6⟩, p1, hts _ p3⟩ ⟨mm_Pc.blind, hGU⟩ rfl hlen2 hL.1 hstk2 hW2 hd hfit) hS goes
      | int _ => cases hrecv
      | long _ => cases hrecv
      | float _ => cases hrecv
      | double _ => cases hrecv
      | null => cases hrecv
      | retAddr _ => cases hrecv
  | t + 2, ⟨r, p1, p2, p3, p4⟩ =>
    have hd : decode cc pc = .ok (.invokevirtual i, 3) := by
      rw [if_neg (by omega), if_neg (by omega)] at hd
      exact hd
    have hb1 := mm_plen (k := 1) p4
    generalize hA1 : (st.take b).reverse = as at hrecv hsT hc
    generalize hA2 : (S.take b).reverse = aS at hsT hM hGU hstk hlen1
    cases as with
    | nil => cases hrecv
    | cons x0 as =>
      have hrc : ∃ (ci : Nat) (vs : List Value), mm_cell P w x0 = some (.inr ci, vs) ∧ ci = t := by
        simp only [mm_recv] at hrecv
        split at hrecv
        · rename_i ci vs hcc
          exact ⟨ci, vs, hcc, by simpa using hrecv⟩
        · cases hrecv
      obtain ⟨ci, vs, hcell, rfl⟩ := hrc
      obtain ⟨x', aS', rfl, hx0, hsA⟩ := hsT
      have hrv : ∃ adr, x' = .ref adr ∧ ∃ cell : Cell, H[adr]? = some cell ∧ cell.vm.isStatics = false ∧ s.vm.findClass r.1 = some cell.cls := by
        cases x0 with
        | ref z =>
          obtain ⟨ad, e, rfl, g1, g2⟩ := mm_at hW hx0 hcell
          obtain ⟨fs, rfl, -, -⟩ := g2
          obtain ⟨r', g7, -⟩ := hP z _ g1
          have g8 := mm_cl_in p1 g7
          exact ⟨ad, rfl, va_recv hGK.1 hP g8 g1⟩
        | retAddr j =>
          cases hx0
          obtain ⟨r', g1, g2, -⟩ := hGK.2.2.1 j _ hcell
          have hr : r' = r := by rw [p1] at g1; exact (Option.some.inj g1).symm
          subst hr
          exact ⟨_, rfl, va_Orecv g2 hS⟩
        | int _ => cases hcell
        | long _ => cases hcell
        | float _ => cases hcell
        | double _ => cases hcell
        | null => cases hcell
      obtain ⟨adr, rfl, hrv⟩ := hrv
      have hstk2 : S = aS'.reverse ++ .ref adr :: S.drop b := hstk.trans (by rw [List.reverse_cons, List.append_assoc]; rfl)
      have hlen2 : aS'.length = b - 1 := by simp at hlen1; omega
      rcases o6 with o6 | ⟨host, o6⟩
      · exact mm_back (va_runV (n := b - 1) (C := r.1) (b := adr) (As := aS') (rest := S.drop b) ⟨hx, hb, hml, hown, hts⟩ hM ⟨⟨rfl, rfl, hf, hrl, hwords, List.mem_cons_self, hts _ o2, hts _ o3, o5, hb1, hts _ o6⟩, hts _ p2, hts _ p3⟩ ⟨mm_Pc.blind, hrv, hGU⟩ rfl hlen2 hL.1 hstk2 hW2 hd hfit) hS goes
      · exact mm_back (va_runVN (n := b - 1) (C := r.1) (b := adr) (As := aS') (rest := S.drop b) ⟨hx, hb, hml, hown, hts⟩ hM ⟨⟨⟨rfl, rfl, hf, hrl, hwords, List.mem_cons_self⟩, hts _ o2, hts _ o3, o5, hb1, hts _ o6⟩, hts _ p2, hts _ p3⟩ ⟨mm_Pc.blind, hrv, hGU⟩ rfl hlen2 hL.1 hstk2 hW2 hd hfit) hS goes
end MMC
