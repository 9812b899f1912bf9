/-! call 18: beat, a long act: the other side lays its level -/
section BTV
variable {h h' h0 h1 t t' t0 t1 t2 : hS} {K : Nat → Int → Prop} {p m q κ l x c i : Nat} {r : Int → Nat} {n v : Int}
theorem c272_r (hl : l < 10) : ∀ (D i N : Nat) (T : hS), i + D = 12 → D < N → (fp (fun y j => 414 ≤ y ∧ y ≤ 416 ∧ j < 12) t T ∧ ∀ u, u < i → ∀ y, 414 ≤ y → y ≤ 416 → hI T y u = hI t (y + 21) (12 * l + u)) → ∃ T', lp (fun s => c272_b83 (l : Int) s.1 s.2) N ((i : Int), T) = some T' ∧ fp (fun y j => 414 ≤ y ∧ y ≤ 416 ∧ j < 12) t T' ∧ ∀ u, u < 12 → ∀ y, 414 ≤ y → y ≤ 416 → hI T' y u = hI t (y + 21) (12 * l + u) := by
  intro D
  induction D with
  | zero =>
    intro i N T hi hN ⟨g1, g2⟩
    obtain ⟨N, rfl⟩ : ∃ N1, N = N1 + 1 := ⟨N - 1, by omega⟩
    refine ⟨T, lp_d ?_, g1, fun u hu => g2 u (by omega)⟩
    show c272_b83 (l : Int) (i : Int) T = _
    unfold c272_b83
    rw [if_pos (by omega)]
  | succ D ih =>
    intro i N T hi hN ⟨g1, g2⟩
    obtain ⟨N, rfl⟩ : ∃ N1, N = N1 + 1 := ⟨N - 1, by omega⟩
    obtain ⟨T1, hT1⟩ : ∃ T1, T1 = sI (sI (sI T 414 i (hI t 435 (12 * l + i))) 415 i (hI t 436 (12 * l + i))) 416 i (hI t 437 (12 * l + i)) := ⟨_, rfl⟩
    have i1 : ∀ y u, hI T1 y u = if y = 416 ∧ u = i then hI t 437 (12 * l + i) else if y = 415 ∧ u = i then hI t 436 (12 * l + i) else if y = 414 ∧ u = i then hI t 435 (12 * l + i) else hI T y u := fun y u => by rw [hT1, hI_sI, hI_sI, hI_sI]
    have f1 : fp (fun y j => 414 ≤ y ∧ y ≤ 416 ∧ j < 12) t (sI T 414 i (hI t 435 (12 * l + i))) := fp_tr g1 (fp_sI ⟨by omega, by omega, by omega⟩)
    have f2 : fp (fun y j => 414 ≤ y ∧ y ≤ 416 ∧ j < 12) t (sI (sI T 414 i (hI t 435 (12 * l + i))) 415 i (hI t 436 (12 * l + i))) := fp_tr f1 (fp_sI ⟨by omega, by omega, by omega⟩)
    have f3 : fp (fun y j => 414 ≤ y ∧ y ≤ 416 ∧ j < 12) t T1 := by rw [hT1]; exact fp_tr f2 (fp_sI ⟨by omega, by omega, by omega⟩)
    have rd : ∀ (T2 : hS) (y : Nat), 417 ≤ y → fp (fun y j => 414 ≤ y ∧ y ≤ 416 ∧ j < 12) t T2 → aIs T2 y 120 (wadd (wmul 12 (l : Int)) (i : Int)) = some (hI t y (12 * l + i)) := fun T2 y hy g => by
      rw [wmul_e (by omega) (by omega), wadd_e (by omega) (by omega), aIs_s (by omega) (by omega), show (12 * (l : Int) + (i : Int)).toNat = 12 * l + i by omega, g.2 y _ (by omega)]
    have ws : ∀ (y : Nat) (v : Int) (T2 : hS), wIs T2 y 252 (i : Int) v = some (sI T2 y i v) := fun y v T2 => by
      rw [wIs_s (by omega) (by omega), Int.toNat_natCast]
    have e1 : c272_b83 (l : Int) (i : Int) T = some (.inl (((i + 1 : Nat) : Int), T1)) := by
      unfold c272_b83
      rw [if_neg (by omega)]
      refine bnd (rd T 435 (by omega) g1) ?_
      refine bnd (ws 414 _ T) ?_
      refine bnd (rd _ 436 (by omega) f1) ?_
      refine bnd (ws 415 _ _) ?_
      refine bnd (rd _ 437 (by omega) f2) ?_
      refine bnd (ws 416 _ _) ?_
      rw [wadd_n (by omega), ← hT1]
    obtain ⟨T', b1, b2, b3⟩ := ih (i + 1) N T1 (by omega) (by omega) ⟨f3, fun u hu y y1 y2 => by
      by_cases z : u = i
      · subst z
        rw [i1]
        by_cases y16 : y = 416
        · rw [if_pos ⟨by omega, rfl⟩, y16]
        · rw [if_neg (by omega)]
          by_cases y15 : y = 415
          · rw [if_pos ⟨by omega, rfl⟩, y15]
          · rw [if_neg (by omega), if_pos ⟨by omega, rfl⟩, show y = 414 by omega]
      · rw [i1, if_neg (by omega), if_neg (by omega), if_neg (by omega)]
        exact g2 u (by omega) y y1 y2⟩
    exact ⟨T', (lp_n (f := fun s => c272_b83 (l : Int) s.1 s.2) (s := ((i : Int), T)) (s' := (((i + 1 : Nat) : Int), T1)) e1).trans b1, b2, b3⟩
theorem c272_r0 (hl : l < 10) : ∃ T', lp (fun s => c272_b83 (l : Int) s.1 s.2) hF0 ((0 : Int), t) = some T' ∧ fp (fun y j => 414 ≤ y ∧ y ≤ 416 ∧ j < 12) t T' ∧ ∀ u, u < 12 → ∀ y, 414 ≤ y → y ≤ 416 → hI T' y u = hI t (y + 21) (12 * l + u) := c272_r hl 12 0 hF0 t (by omega) (hF0_lt (by omega)) ⟨fp_rf, fun u hu => absurd hu (by omega)⟩
/-- what comes behind the run -/
def c272t (l : Int) (v24 : Int × hS) : Option hS := (aIs v24.2 410 21 0).bind (fun v25 => (wIs v24.2 428 10 l v25).bind (fun h26 => if v24.1 = 3 then (wIs h26 429 10 l (hI h26 395 55)).bind (fun h34 => some h34) else (wIs h26 423 10 l (wbol 0)).bind (fun h28 => (c268 v24.1 h28).bind (fun v29 => (wIs v29.2 431 10 l v29.1).bind (fun h30 => (aIs h30 431 10 l).bind (fun v31 => if v31 = 0 then c272_j227 l (hI h30 395 40) h30 else c272_j227 l 0 h30))))))
/-- the level that a long act runs on -/
theorem AHD (l10 : l < 10) : ∃ tA, (∀ o, (g254 700 254 [hI t 429 l, 0, 1] tA).bind (fun v24 => c272t (l : Int) v24) = some o → c272 (l : Int) t = some o) ∧ fp (fun y j => (y = 395 ∧ (j = 39 ∨ j = 40 ∨ j = 41 ∨ j = 42)) ∨ (y = 430 ∧ j = l) ∨ (408 ≤ y ∧ y ≤ 413 ∧ j = 0) ∨ (414 ≤ y ∧ y ≤ 416 ∧ j < 12)) t tA ∧ (hI tA 395 39 = 0 ∧ hI tA 395 40 = 0 ∧ hI tA 395 41 = 0 ∧ hI tA 395 42 = 0) ∧ hI tA 430 l = wadd (hI t 430 l) 1 ∧ (hI tA 408 0 = hI t 426 l ∧ hI tA 409 0 = hI t 427 l ∧ hI tA 410 0 = hI t 428 l ∧ hI tA 411 0 = hI t 433 l ∧ hI tA 412 0 = 0 ∧ hI tA 413 0 = hI t 434 l) ∧ ∀ u, u < 12 → ∀ y, 414 ≤ y → y ≤ 416 → hI tA y u = hI t (y + 21) (12 * l + u) := by
  have ai : ∀ (y : Nat) (T2 : hS), aIs T2 y 10 (l : Int) = some (hI T2 y l) := fun y T2 => by rw [aIs_s (by omega) (by omega), Int.toNat_natCast]
  have ws : ∀ (y : Nat) (v : Int) (T2 : hS), wIs T2 y 10 (l : Int) v = some (sI T2 y l v) := fun y v T2 => by rw [wIs_s (by omega) (by omega), Int.toNat_natCast]
  have w0 : ∀ (y : Nat) (v : Int) (T2 : hS), wIs T2 y 21 0 v = some (sI T2 y 0 v) := fun y v T2 => by rw [wIs_s (by omega) (by omega)]; rfl
  obtain ⟨B, eB⟩ : ∃ B, B = sI (sI (sI (rs t) 430 l (wadd (hI t 430 l) 1)) 408 0 (hI t 426 l)) 409 0 (hI t 427 l) := ⟨_, rfl⟩
  have iB : ∀ y j, hI B y j = if y = 409 ∧ j = 0 then hI t 427 l else if y = 408 ∧ j = 0 then hI t 426 l else if y = 430 ∧ j = l then wadd (hI t 430 l) 1 else hI (rs t) y j := fun y j => by rw [eB, hI_sI, hI_sI, hI_sI]
  obtain ⟨A, eA⟩ : ∃ A, A = sI (sI (sI (sI B 410 0 (hI t 428 l)) 411 0 (hI t 433 l)) 412 0 0) 413 0 (hI t 434 l) := ⟨_, rfl⟩
  have iA : ∀ y j, hI A y j = if y = 413 ∧ j = 0 then hI t 434 l else if y = 412 ∧ j = 0 then 0 else if y = 411 ∧ j = 0 then hI t 433 l else if y = 410 ∧ j = 0 then hI t 428 l else hI B y j := fun y j => by rw [eA, hI_sI, hI_sI, hI_sI, hI_sI]
  have lo : ∀ y j, ¬ ((408 ≤ y ∧ y ≤ 413 ∧ j = 0) ∨ (y = 430 ∧ j = l) ∨ (y = 395 ∧ (j = 39 ∨ j = 40 ∨ j = 41 ∨ j = 42))) → hI A y j = hI t y j := fun y j hy => by
    rw [iA, if_neg (by omega), if_neg (by omega), if_neg (by omega), if_neg (by omega), iB, if_neg (by omega), if_neg (by omega), if_neg (by omega), rs_i (by omega)]
  have l5 : ∀ y j, y = 395 → hI A y j = hI (rs t) y j := fun y j hy => by
    rw [iA, if_neg (by omega), if_neg (by omega), if_neg (by omega), if_neg (by omega), iB, if_neg (by omega), if_neg (by omega), if_neg (by omega)]
  have h2 : A.2 = t.2 := by rw [eA, eB]; rfl
  obtain ⟨tA, b1, b2, b3⟩ := c272_r0 (t := A) l10
  have vA : ∀ y j, ¬ (414 ≤ y ∧ y ≤ 416 ∧ j < 12) → hI tA y j = hI A y j := fun y j hy => b2.2 y j hy
  refine ⟨tA, fun o e => ?_, ⟨by rw [b2.1]; exact h2, fun y j hy => by rw [vA y j (by omega)]; exact lo y j (by omega)⟩, ⟨by rw [vA _ _ (by omega), l5 _ _ rfl]; exact rs_0.1, by rw [vA _ _ (by omega), l5 _ _ rfl]; exact rs_0.2.1, by rw [vA _ _ (by omega), l5 _ _ rfl]; exact rs_0.2.2.1, by rw [vA _ _ (by omega), l5 _ _ rfl]; exact rs_0.2.2.2⟩, ?_, ⟨?_, ?_, ?_, ?_, ?_, ?_⟩, fun u hu y y1 y2 => by rw [b3 u hu y y1 y2]; exact lo _ _ (by omega)⟩
  · unfold c272
    refine bnd c251_s ?_
    refine bnd (ai 430 _) ?_
    rw [rs_i (by omega)]
    refine bnd (ws 430 _ _) ?_
    refine bnd (ai 426 _) ?_
    rw [hI_sI, if_neg (by omega), rs_i (by omega)]
    refine bnd (w0 408 _ _) ?_
    refine bnd (ai 427 _) ?_
    rw [hI_sI, if_neg (by omega), hI_sI, if_neg (by omega), rs_i (by omega)]
    refine bnd (w0 409 _ _) ?_
    rw [← eB]
    have oB : ∀ y, y ≠ 430 → 414 ≤ y → hI B y l = hI t y l := fun y h1 h2 => by rw [iB, if_neg (by omega), if_neg (by omega), if_neg (by omega), rs_i (by omega)]
    refine bnd (ai 428 _) ?_
    rw [oB 428 (by omega) (by omega)]
    refine bnd (w0 410 _ _) ?_
    refine bnd (ai 433 _) ?_
    rw [hI_sI, if_neg (by omega), oB 433 (by omega) (by omega)]
    refine bnd (w0 411 _ _) ?_
    refine bnd (w0 412 _ _) ?_
    refine bnd (ai 434 _) ?_
    rw [hI_sI, if_neg (by omega), hI_sI, if_neg (by omega), hI_sI, if_neg (by omega), oB 434 (by omega) (by omega)]
    refine bnd (w0 413 _ _) ?_
    rw [← eA]
    refine bnd b1 ?_
    refine bnd (ai 429 _) ?_
    rw [vA 429 l (by omega), lo 429 l (by omega)]
    exact e
  · rw [vA _ _ (by omega), iA, if_neg (by omega), if_neg (by omega), if_neg (by omega), if_neg (by omega), iB, if_neg (by omega), if_neg (by omega), if_pos ⟨rfl, rfl⟩]
  · rw [vA _ _ (by omega), iA, if_neg (by omega), if_neg (by omega), if_neg (by omega), if_neg (by omega), iB, if_neg (by omega), if_pos ⟨rfl, rfl⟩]
  · rw [vA _ _ (by omega), iA, if_neg (by omega), if_neg (by omega), if_neg (by omega), if_neg (by omega), iB, if_pos ⟨rfl, rfl⟩]
  · rw [vA _ _ (by omega), iA, if_neg (by omega), if_neg (by omega), if_neg (by omega), if_pos ⟨rfl, rfl⟩]
  · rw [vA _ _ (by omega), iA, if_neg (by omega), if_neg (by omega), if_pos ⟨rfl, rfl⟩]
  · rw [vA _ _ (by omega), iA, if_neg (by omega), if_pos ⟨rfl, rfl⟩]
  · rw [vA _ _ (by omega), iA, if_pos ⟨rfl, rfl⟩]
end BTV
