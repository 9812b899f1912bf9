/-! arrays -/
section MMX
variable {p : Program} {l : Launch} {e : Env} {R : Room} {s : State} {m : MethodId} {args : Array Value} {below : List Frame} {meth : Method} {c : Code} {Q : State → Prop}
variable {G : mmG} {D : va_G} {cl : List vw_C} {ocl : Nat → Option vw_C} {A : Nat → Prop} {nL c0 s0 : Nat} {a0 : List Nat} {cc : ByteArray} {pc : Nat} {ls : mmL} {st : List Value} {w : mmW} {H : Heap} {locs : List Loc} {cells slots : Nat} {L : Array Slot} {S : List Value} {F : mmF} {P : mmP} {Ts : List Cond} {own : String}
theorem mm_ald_inv {q : Nat → Bool} (h : mm_ald q P pc ls st w = some (.inr F)) : ∃ i x r t vs v, st = .int i :: x :: r ∧ mm_cell P w x = some (.inl t, vs) ∧ q t = true ∧ ¬ i < 0 ∧ vs[i.toNatClampNeg]? = some v ∧ F = (pc + 1, ls, v :: r, w) := by
  unfold mm_ald at h
  split at h
  case h_2 => cases h
  rename_i i x r
  split at h
  case h_2 => cases h
  rename_i t vs hc
  split at h
  case isFalse => cases h
  rename_i hq
  split at h
  case h_2 => cases h
  rename_i v hv
  cases h
  exact ⟨i, x, r, t, vs, v, rfl, hc, hq.1, hq.2, hv, rfl⟩
theorem mm_vin {i : Int32} {n : Nat} (h0 : ¬ i < 0) (h1 : i.toNatClampNeg < n) : vp_in i n := fun h => by
  rcases h with h | h
  · exact h0 h
  · omega
theorem mm_cR_i {ad : List Nat} {t : Nat} {vs : List Value} {e : va_E} (ht : t < 3) (h : mm_cR G ad (.inl t, vs) e) : ∃ t0 f, G.2.2.2[(t0 : Nat)]? = some (G.2.1 t, mm_ty G t) ∧ e = .inl (G.2.1 t, vs.length, .inl f) ∧ ∀ (j : Nat) (v : Value), vs[j]? = some v → v = .int (f j) := by
  obtain ⟨⟨t0, h1⟩, h2⟩ := h
  rw [if_pos ht] at h2
  obtain ⟨f, h3, h4⟩ := h2
  exact ⟨t0, f, h1, h3, h4⟩
theorem mm_cR_l {ad : List Nat} {vs : List Value} {e : va_E} (h : mm_cR G ad (.inl 3, vs) e) : ∃ t0 f, G.2.2.2[(t0 : Nat)]? = some (G.2.1 3, .long) ∧ e = .inl (G.2.1 3, vs.length, .inr (.inl f)) ∧ ∀ (j : Nat) (v : Value), vs[j]? = some v → v = .long (f j) := by
  obtain ⟨⟨t0, h1⟩, h2⟩ := h
  rw [if_neg (by decide), if_pos rfl] at h2
  obtain ⟨f, h3, h4⟩ := h2
  exact ⟨t0, f, h1, h3, h4⟩
theorem mm_ty_r {t : Nat} (ht : 4 ≤ t) : mm_ty G t = G.2.2.1 t := by
  unfold mm_ty
  rw [if_neg (by omega), if_neg (by omega), if_neg (by omega), if_neg (by omega)]
theorem mm_cR_r {ad : List Nat} {t : Nat} {vs : List Value} {e : va_E} (ht : 4 ≤ t) (h : mm_cR G ad (.inl t, vs) e) : ∃ t0 f, G.2.2.2[(t0 : Nat)]? = some (G.2.1 t, G.2.2.1 t) ∧ e = .inl (G.2.1 t, vs.length, .inr (.inr (.inr (.inr f)))) ∧ ∀ (j : Nat) (v : Value), vs[j]? = some v → mm_vR G ad v (va_rf (f j)) := by
  obtain ⟨⟨t0, h1⟩, h2⟩ := h
  rw [if_neg (show ¬ t < 3 by omega), if_neg (show ¬ t = 3 by omega)] at h2
  obtain ⟨f, h3, h4⟩ := h2
  exact ⟨t0, f, by rw [← mm_ty_r ht]; exact h1, h3, h4⟩
theorem mm_s_iald (hx : p.tables.exec = Jvm.exec) (hb : c.code = cc) (hK : va_K D cl G.2.2.2 s) (hO : mm_oR P G cl ocl A s s.heap)
    (hd : decode cc pc = .ok (.iaload, 1)) (hI : mm_In G D cl A s.heap nL c0 s0 a0 ls st w H locs cells slots L S) (h : mm_ald (fun t => t == 0) P pc ls st w = some (.inr F)) (k : mm_Kn p l e R s m args below meth c Q G D cl A s.heap nL c0 s0 a0 F) : W p l e R s m args below meth c H locs cells slots Q (F0 m pc L S) := by
  obtain ⟨i, x, r, t, vs, v, rfl, hc, hq, hi, hv, rfl⟩ := mm_ald_inv h
  have ht : t = 0 := by simpa using hq
  subst ht
  have hlt : i.toNatClampNeg < vs.length := (List.getElem?_eq_some_iff.mp hv).1
  obtain ⟨ws, lv, hP, hD, hS, hW, hL, hl, hn, hs, e1, e2⟩ := hI
  obtain ⟨i', _, rfl, hii, x', S', rfl, hxx, hs⟩ := hs
  cases hii
  cases x with
  | ref x =>
    obtain ⟨ad, e, rfl, g1, g2⟩ := mm_at hW hxx hc
    obtain ⟨t0, f, g3, rfl, g4⟩ := mm_cR_i (by decide) g2
    exact va_iald hx hb hK hP x t0 g1 g3 (mm_vin hi hlt) hd (k H locs cells slots L _ ⟨ws, lv, hP, hD, hS, hW, hL, hl, hn, ⟨_, _, rfl, by rw [g4 _ v hv]; rfl, hs⟩, e1, e2⟩)
  | retAddr j =>
    cases hxx
    obtain ⟨f, g1, g2⟩ := hO j _ hc
    exact va_ti hx hb g1 hS (mm_vin hi hlt) rfl hd (k H locs cells slots L _ ⟨ws, lv, hP, hD, hS, hW, hL, hl, hn, ⟨_, _, rfl, (g2 _ v hv).nil, hs⟩, e1, e2⟩)
  | int x => cases hc
  | long x => cases hc
  | float x => cases hc
  | double x => cases hc
  | null => cases hc
theorem mm_s_bald (hx : p.tables.exec = Jvm.exec) (hb : c.code = cc) (hK : va_K D cl G.2.2.2 s) (hO : mm_oR P G cl ocl A s s.heap)
    (hd : decode cc pc = .ok (.baload, 1)) (hI : mm_In G D cl A s.heap nL c0 s0 a0 ls st w H locs cells slots L S) (h : mm_ald (fun t => t == 1 || t == 2) P pc ls st w = some (.inr F)) (k : mm_Kn p l e R s m args below meth c Q G D cl A s.heap nL c0 s0 a0 F) : W p l e R s m args below meth c H locs cells slots Q (F0 m pc L S) := by
  obtain ⟨i, x, r, t, vs, v, rfl, hc, hq, hi, hv, rfl⟩ := mm_ald_inv h
  have ht : t = 1 ∨ t = 2 := by simpa using hq
  have hlt : i.toNatClampNeg < vs.length := (List.getElem?_eq_some_iff.mp hv).1
  obtain ⟨ws, lv, hP, hD, hS, hW, hL, hl, hn, hs, e1, e2⟩ := hI
  obtain ⟨i', _, rfl, hii, x', S', rfl, hxx, hs⟩ := hs
  cases hii
  cases x with
  | ref x =>
    obtain ⟨ad, e, rfl, g1, g2⟩ := mm_at hW hxx hc
    obtain ⟨t0, f, g3, rfl, g4⟩ := mm_cR_i (by omega) g2
    have kk := k H locs cells slots L _ ⟨ws, lv, hP, hD, hS, hW, hL, hl, hn, ⟨.int (f i.toNatClampNeg), _, rfl, by rw [g4 _ v hv]; rfl, hs⟩, e1, e2⟩
    rcases ht with rfl | rfl
    · exact va_zald hx hb hK hP x t0 g1 g3 (mm_vin hi hlt) hd kk
    · exact va_bald hx hb hK hP x t0 g1 g3 (mm_vin hi hlt) hd kk
  | retAddr j =>
    cases hxx
    obtain ⟨f, g1, g2⟩ := hO j _ hc
    have kk := k H locs cells slots L _ ⟨ws, lv, hP, hD, hS, hW, hL, hl, hn, ⟨_, _, rfl, (g2 _ v hv).nil, hs⟩, e1, e2⟩
    rcases ht with rfl | rfl
    · obtain ⟨cell, h1, h2, h3, h4, h5, h6, h7⟩ := g1
      exact W.zald (v := f i.toNatClampNeg) hx hb (by rw [hS.2.1 _ (Array.getElem?_eq_some_iff.mp h1).1 h7]; exact h1) h2 h3 (fun q => by
        rcases q with q | q
        · exact hi q
        · dsimp only at h4; omega) (h6 _ hlt) rfl rfl hd kk
    · exact va_tb hx hb g1 hS (mm_vin hi hlt) rfl hd kk
  | int x => cases hc
  | long x => cases hc
  | float x => cases hc
  | double x => cases hc
  | null => cases hc
theorem mm_s_lald (hx : p.tables.exec = Jvm.exec) (hb : c.code = cc) (hK : va_K D cl G.2.2.2 s) (ho : ∀ j vs, P.2.2.1 j ≠ some (.inl 3, vs))
    (hd : decode cc pc = .ok (.laload, 1)) (hI : mm_In G D cl A s.heap nL c0 s0 a0 ls st w H locs cells slots L S) (h : mm_ald (fun t => t == 3) P pc ls st w = some (.inr F)) (k : mm_Kn p l e R s m args below meth c Q G D cl A s.heap nL c0 s0 a0 F) : W p l e R s m args below meth c H locs cells slots Q (F0 m pc L S) := by
  obtain ⟨i, x, r, t, vs, v, rfl, hc, hq, hi, hv, rfl⟩ := mm_ald_inv h
  have ht : t = 3 := by simpa using hq
  subst ht
  have hlt : i.toNatClampNeg < vs.length := (List.getElem?_eq_some_iff.mp hv).1
  obtain ⟨ws, lv, hP, hD, hS, hW, hL, hl, hn, hs, e1, e2⟩ := hI
  obtain ⟨i', _, rfl, hii, x', S', rfl, hxx, hs⟩ := hs
  cases hii
  cases x with
  | ref x =>
    obtain ⟨ad, e, rfl, g1, g2⟩ := mm_at hW hxx hc
    obtain ⟨t0, f, g3, rfl, g4⟩ := mm_cR_l g2
    exact va_lald hx hb hK hP x t0 g1 g3 (mm_vin hi hlt) hd (k H locs cells slots L _ ⟨ws, lv, hP, hD, hS, hW, hL, hl, hn, ⟨_, _, rfl, by rw [g4 _ v hv]; rfl, hs⟩, e1, e2⟩)
  | retAddr j => exact absurd hc (ho j vs)
  | int x => cases hc
  | long x => cases hc
  | float x => cases hc
  | double x => cases hc
  | null => cases hc
theorem mm_s_aald (hx : p.tables.exec = Jvm.exec) (hb : c.code = cc) (hK : va_K D cl G.2.2.2 s) (hRf : ∀ t, 4 ≤ t → (G.2.2.1 t).isReference = true) (ho : ∀ j t vs, 4 ≤ t → P.2.2.1 j = some (.inl t, vs) → vs = [])
    (hd : decode cc pc = .ok (.aaload, 1)) (hI : mm_In G D cl A s.heap nL c0 s0 a0 ls st w H locs cells slots L S) (h : mm_ald (fun t => decide (4 ≤ t)) P pc ls st w = some (.inr F)) (k : mm_Kn p l e R s m args below meth c Q G D cl A s.heap nL c0 s0 a0 F) : W p l e R s m args below meth c H locs cells slots Q (F0 m pc L S) := by
  obtain ⟨i, x, r, t, vs, v, rfl, hc, hq, hi, hv, rfl⟩ := mm_ald_inv h
  have ht : 4 ≤ t := by simpa using hq
  have hlt : i.toNatClampNeg < vs.length := (List.getElem?_eq_some_iff.mp hv).1
  obtain ⟨ws, lv, hP, hD, hS, hW, hL, hl, hn, hs, e1, e2⟩ := hI
  obtain ⟨i', _, rfl, hii, x', S', rfl, hxx, hs⟩ := hs
  cases hii
  cases x with
  | ref x =>
    obtain ⟨ad, e, rfl, g1, g2⟩ := mm_at hW hxx hc
    obtain ⟨t0, f, g3, rfl, g4⟩ := mm_cR_r ht g2
    exact W.aald (v := va_rf (f i.toNatClampNeg)) hx hb (hP x _ g1) ((hK.2 t0 _ g3).1 vs.length (fun j => va_rf (f j))) (hRf t ht) (fun q => by cases q) (by show ¬ (i < 0 ∨ (arrV _ _ _).slots.size ≤ _); rw [arrV_size]; exact mm_vin hi hlt) (by show (arrV _ _ _).slots[_]? = _; rw [arrV_read _ _ hlt]) rfl rfl hd (k H locs cells slots L _ ⟨ws, lv, hP, hD, hS, hW, hL, hl, hn, ⟨_, _, rfl, g4 _ v hv, hs⟩, e1, e2⟩)
  | retAddr j =>
    have := ho j t vs ht hc
    subst this
    exact absurd hlt (Nat.not_lt_zero _)
  | int x => cases hc
  | long x => cases hc
  | float x => cases hc
  | double x => cases hc
  | null => cases hc
/-- stores -/
theorem mm_setq {vs : List Value} {i j : Nat} {v x : Value} (h : (vs.set i v)[j]? = some x) : (i = j ∧ x = v) ∨ (i ≠ j ∧ vs[j]? = some x) := by
  rw [List.getElem?_set] at h
  split at h
  · rename_i hij
    split at h
    · cases h
      exact Or.inl ⟨hij, rfl⟩
    · cases h
  · rename_i hij
    exact Or.inr ⟨hij, h⟩
theorem mm_s_iast (hx : p.tables.exec = Jvm.exec) (hb : c.code = cc) (hK : va_K D cl G.2.2.2 s)
    (hd : decode cc pc = .ok (.iastore, 1)) (hI : mm_In G D cl A s.heap nL c0 s0 a0 ls st w H locs cells slots L S) (h : mm_ast 0 0 pc ls st w = some (.inr F)) (k : mm_Kn p l e R s m args below meth c Q G D cl A s.heap nL c0 s0 a0 F) : W p l e R s m args below meth c H locs cells slots Q (F0 m pc L S) := by
  unfold mm_ast at h
  split at h
  case h_2 => cases h
  rename_i v i x r
  split at h
  case h_2 => cases h
  rename_i t vs hc
  split at h
  case isFalse => cases h
  rename_i hq
  obtain ⟨rfl, hkd, hi, hlt⟩ := hq
  cases h
  obtain ⟨ws, lv, hP, hD, hS, hW, hL, hl, hn, hs, e1, e2⟩ := hI
  obtain ⟨v', _, rfl, hvv, i', _, rfl, hii, x', S', rfl, hxx, hs⟩ := hs
  cases hii
  obtain ⟨y, rfl, rfl⟩ := mm_kd0 hkd hvv
  obtain ⟨ad, e, rfl, g1, g2⟩ := mm_at hW hxx hc
  have g0 := g2.1
  obtain ⟨t0, f, g3, rfl, g4⟩ := mm_cR_i (by decide) g2
  refine va_iast hx hb hK hP hD hS x t0 g1 g3 (mm_vin hi hlt) hd (fun H1 locs1 hP1 hD1 hS1 => k _ _ _ _ _ _ ⟨_, lv, hP1, hD1, hS1, hW.put g1 ?_, hL, by rw [mm_mapset g1]; exact hl, hn, by rw [mm_mapset g1]; exact hs, e1, e2⟩)
  refine ⟨g0, ?_⟩
  rw [if_pos (by decide)]
  refine ⟨_, by rw [List.length_set], fun j z hz => ?_⟩
  rcases mm_setq hz with ⟨rfl, rfl⟩ | ⟨hij, hz⟩
  · simp [upd]
  · rw [g4 j z hz]
    simp [upd, Ne.symm hij]
theorem mm_s_last (hx : p.tables.exec = Jvm.exec) (hb : c.code = cc) (hK : va_K D cl G.2.2.2 s)
    (hd : decode cc pc = .ok (.lastore, 1)) (hI : mm_In G D cl A s.heap nL c0 s0 a0 ls st w H locs cells slots L S) (h : mm_ast 3 1 pc ls st w = some (.inr F)) (k : mm_Kn p l e R s m args below meth c Q G D cl A s.heap nL c0 s0 a0 F) : W p l e R s m args below meth c H locs cells slots Q (F0 m pc L S) := by
  unfold mm_ast at h
  split at h
  case h_2 => cases h
  rename_i v i x r
  split at h
  case h_2 => cases h
  rename_i t vs hc
  split at h
  case isFalse => cases h
  rename_i hq
  obtain ⟨rfl, hkd, hi, hlt⟩ := hq
  cases h
  obtain ⟨ws, lv, hP, hD, hS, hW, hL, hl, hn, hs, e1, e2⟩ := hI
  obtain ⟨v', _, rfl, hvv, i', _, rfl, hii, x', S', rfl, hxx, hs⟩ := hs
  cases hii
  obtain ⟨y, rfl, rfl⟩ := mm_kd1 hkd hvv
  obtain ⟨ad, e, rfl, g1, g2⟩ := mm_at hW hxx hc
  have g0 := g2.1
  obtain ⟨t0, f, g3, rfl, g4⟩ := mm_cR_l g2
  refine va_last hx hb hK hP hD hS x t0 g1 g3 (mm_vin hi hlt) hd (fun H1 locs1 hP1 hD1 hS1 => k _ _ _ _ _ _ ⟨_, lv, hP1, hD1, hS1, hW.put g1 ?_, hL, by rw [mm_mapset g1]; exact hl, hn, by rw [mm_mapset g1]; exact hs, e1, e2⟩)
  refine ⟨g0, ?_⟩
  rw [if_neg (by decide), if_pos rfl]
  refine ⟨_, by rw [List.length_set], fun j z hz => ?_⟩
  rcases mm_setq hz with ⟨rfl, rfl⟩ | ⟨hij, hz⟩
  · simp [vp_updL]
  · rw [g4 j z hz]
    simp [vp_updL, Ne.symm hij]
theorem mm_s_bast (hx : p.tables.exec = Jvm.exec) (hb : c.code = cc) (hK : va_K D cl G.2.2.2 s)
    (hd : decode cc pc = .ok (.bastore, 1)) (hI : mm_In G D cl A s.heap nL c0 s0 a0 ls st w H locs cells slots L S) (h : mm_bast pc ls st w = some (.inr F)) (k : mm_Kn p l e R s m args below meth c Q G D cl A s.heap nL c0 s0 a0 F) : W p l e R s m args below meth c H locs cells slots Q (F0 m pc L S) := by
  unfold mm_bast at h
  split at h
  case h_2 => cases h
  rename_i v i x r
  split at h
  case h_2 => cases h
  rename_i vs hc
  split at h
  case isFalse => cases h
  rename_i hq
  obtain ⟨hi, hlt⟩ := hq
  cases h
  obtain ⟨ws, lv, hP, hD, hS, hW, hL, hl, hn, hs, e1, e2⟩ := hI
  obtain ⟨v', _, rfl, hvv, i', _, rfl, hii, x', S', rfl, hxx, hs⟩ := hs
  cases hii
  cases hvv
  obtain ⟨ad, e, rfl, g1, g2⟩ := mm_at hW hxx hc
  have g0 := g2.1
  obtain ⟨t0, f, g3, rfl, g4⟩ := mm_cR_i (by decide) g2
  refine va_zast hx hb hK hP hD hS x t0 g1 g3 (mm_vin hi hlt) hd (fun H1 locs1 hP1 hD1 hS1 => k _ _ _ _ _ _ ⟨_, lv, hP1, hD1, hS1, hW.put g1 ?_, hL, by rw [mm_mapset g1]; exact hl, hn, by rw [mm_mapset g1]; exact hs, e1, e2⟩)
  refine ⟨g0, ?_⟩
  rw [if_pos (by decide)]
  refine ⟨_, by rw [List.length_set], fun j z hz => ?_⟩
  rcases mm_setq hz with ⟨rfl, rfl⟩ | ⟨hij, hz⟩
  · simp [upd]
  · rw [g4 j z hz]
    simp [upd, Ne.symm hij]
theorem mm_s_alen (hx : p.tables.exec = Jvm.exec) (hb : c.code = cc) (hK : va_K D cl G.2.2.2 s) (hO : mm_oR P G cl ocl A s s.heap)
    (hd : decode cc pc = .ok (.arraylength, 1)) (hI : mm_In G D cl A s.heap nL c0 s0 a0 ls st w H locs cells slots L S) (h : mm_alen P pc ls st w = some (.inr F)) (k : mm_Kn p l e R s m args below meth c Q G D cl A s.heap nL c0 s0 a0 F) : W p l e R s m args below meth c H locs cells slots Q (F0 m pc L S) := by
  unfold mm_alen at h
  split at h
  case h_2 => cases h
  rename_i x r
  split at h
  case h_2 => cases h
  rename_i t vs hc
  cases h
  obtain ⟨ws, lv, hP, hD, hS, hW, hL, hl, hn, hs, e1, e2⟩ := hI
  obtain ⟨x', S', rfl, hxx, hs⟩ := hs
  have kk := k H locs cells slots L _ ⟨ws, lv, hP, hD, hS, hW, hL, hl, hn, ⟨_, _, rfl, rfl, hs⟩, e1, e2⟩
  cases x with
  | ref x =>
    obtain ⟨ad, e, rfl, g1, g2⟩ := mm_at hW hxx hc
    by_cases h3 : t < 3
    · obtain ⟨t0, f, g3, rfl, g4⟩ := mm_cR_i h3 g2
      exact va_alen hx hb hK hP x t0 g1 g3 rfl hd kk
    · by_cases h4 : t = 3
      · subst h4
        obtain ⟨t0, f, g3, rfl, g4⟩ := mm_cR_l g2
        exact va_alen hx hb hK hP x t0 g1 g3 rfl hd kk
      · obtain ⟨t0, f, g3, rfl, g4⟩ := mm_cR_r (by omega) g2
        exact va_alen hx hb hK hP x t0 g1 g3 rfl hd kk
  | retAddr j =>
    cases hxx
    obtain ⟨f, ⟨cell, h1, h2, h3, h4, h5, h6, h7⟩, g2⟩ := hO j _ hc
    exact W.alen hx hb (by rw [hS.2.1 _ (Array.getElem?_eq_some_iff.mp h1).1 h7]; exact h1) h2 h5 rfl rfl hd kk
  | int x => cases hc
  | long x => cases hc
  | float x => cases hc
  | double x => cases hc
  | null => cases hc
end MMX
