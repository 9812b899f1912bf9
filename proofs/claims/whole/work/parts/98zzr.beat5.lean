/-! call 18: beat, what a long act's run leaves -/
section BTX
variable {h h' h0 h1 t t' t0 t1 t2 t4 : hS} {K : Nat → Int → Prop} {p m q κ l x c i : Nat} {r : Int → Nat} {n v out how w : Int}
theorem c138_5 (T : hT h1 (375 + 2 * l) = 20) : c138 (375 + 2 * l) 5 w h1 = some (sI h1 (375 + 2 * l) 4 (wadd (hI h1 (375 + 2 * l) 4) 1)) := by
  unfold c138
  rw [if_neg (by omega), gI_s T]
  refine bnd rfl ?_
  refine bnd (pI_s T) ?_
  unfold c138_j15
  rw [if_pos rfl]
theorem c138_o (T : hT h1 (375 + 2 * l) = 20) (ho : out = 0 ∨ out = 1 ∨ out = 4) : c138 (375 + 2 * l) out w h1 = some (sI (sI (sI (sI h1 (375 + 2 * l) 4 (wadd (hI h1 (375 + 2 * l) 4) 1)) (375 + 2 * l) 2 0) (375 + 2 * l) 5 out) (375 + 2 * l) 6 (if out = 0 then w else 0)) := by
  unfold c138
  rw [if_neg (by omega), gI_s T]
  refine bnd rfl ?_
  refine bnd (pI_s T) ?_
  unfold c138_j15
  rw [if_neg (by omega)]
  refine bnd (pI_s (h := sI h1 (375 + 2 * l) 4 (wadd (hI h1 (375 + 2 * l) 4) 1)) (x := 375 + 2 * l) (t := 20) T) ?_
  refine bnd (pI_s (h := sI (sI h1 (375 + 2 * l) 4 (wadd (hI h1 (375 + 2 * l) 4) 1)) (375 + 2 * l) 2 0) (x := 375 + 2 * l) (t := 20) T) ?_
  have ej : ∀ z : Int, c138_j40 (375 + 2 * l) z (sI (sI (sI h1 (375 + 2 * l) 4 (wadd (hI h1 (375 + 2 * l) 4) 1)) (375 + 2 * l) 2 0) (375 + 2 * l) 5 out) = some (sI (sI (sI (sI h1 (375 + 2 * l) 4 (wadd (hI h1 (375 + 2 * l) 4) 1)) (375 + 2 * l) 2 0) (375 + 2 * l) 5 out) (375 + 2 * l) 6 z) := fun z => by
    unfold c138_j40
    exact bnd (pI_s (h := sI (sI (sI h1 (375 + 2 * l) 4 (wadd (hI h1 (375 + 2 * l) 4) 1)) (375 + 2 * l) 2 0) (375 + 2 * l) 5 out) (x := 375 + 2 * l) (t := 20) T) rfl
  by_cases z : out = 0
  · rw [if_pos z, if_pos z, ej]
  · rw [if_neg z, if_neg z, ej]
theorem c272t_3 (l10 : l < 10) : c272t (l : Int) (3, t4) = some (sI (sI t4 428 l (hI t4 410 0)) 429 l (hI t4 395 55)) := by
  have ws : ∀ (y : Nat) (v : Int) (T2 : hS), wIs T2 y 10 (l : Int) v = some (sI T2 y l v) := fun y v T2 => by rw [wIs_s (by omega) (by omega), Int.toNat_natCast]
  unfold c272t
  refine bnd (show aIs t4 410 21 0 = some (hI t4 410 0) by rw [aIs_s (by omega) (by omega)]; rfl) ?_
  refine bnd (ws 428 _ _) ?_
  rw [if_pos rfl, hI_sI, if_neg (by omega)]
  exact bnd (ws 429 _ _) rfl
/-- the mark that c268 leaves -/
def mk8 (how : Int) (t4 : hS) : hS := if how = 1 then t4 else sI t4 395 40 0
theorem c272t_o (l10 : l < 10) (h3 : how ≠ 3) (e : ∀ u, hI u 395 42 = hI t4 395 42 → c268 how u = some (out, mk8 how u)) : ∃ u, u = mk8 how (sI (sI t4 428 l (hI t4 410 0)) 423 l 0) ∧ c272t (l : Int) (how, t4) = some (sI (sI u 431 l out) 432 l (if out = 0 then hI u 395 40 else 0)) := by
  have ws : ∀ (y : Nat) (v : Int) (T2 : hS), wIs T2 y 10 (l : Int) v = some (sI T2 y l v) := fun y v T2 => by rw [wIs_s (by omega) (by omega), Int.toNat_natCast]
  obtain ⟨u, hu⟩ : ∃ u, u = mk8 how (sI (sI t4 428 l (hI t4 410 0)) 423 l 0) := ⟨_, rfl⟩
  refine ⟨u, hu, ?_⟩
  unfold c272t
  refine bnd (show aIs t4 410 21 0 = some (hI t4 410 0) by rw [aIs_s (by omega) (by omega)]; rfl) ?_
  refine bnd (ws 428 _ _) ?_
  rw [if_neg h3, wbol_0]
  refine bnd (ws 423 _ _) ?_
  refine bnd (e _ (by rw [hI_sI, if_neg (by omega), hI_sI, if_neg (by omega)])) ?_
  rw [← hu]
  refine bnd (ws 431 _ _) ?_
  refine bnd (show aIs (sI u 431 l out) 431 10 (l : Int) = some out by rw [aIs_s (by omega) (by omega), Int.toNat_natCast, hI_sI, if_pos ⟨rfl, rfl⟩]) ?_
  have ej : ∀ z : Int, c272_j227 (l : Int) z (sI u 431 l out) = some (sI (sI u 431 l out) 432 l z) := fun z => by
    unfold c272_j227
    exact bnd (ws 432 _ _) rfl
  by_cases z : out = 0
  · rw [if_pos z, if_pos z, ej, hI_sI, if_neg (by omega)]
  · rw [if_neg z, if_neg z, ej]
theorem c268_e (ho : ((how = 0 ∨ how = 1) ∧ out = 0) ∨ (how = 2 ∧ ((out = 1 ∧ hI t4 395 42 = 0) ∨ (out = 4 ∧ hI t4 395 42 = 1)))) (u : hS) (eu : hI u 395 42 = hI t4 395 42) : c268 how u = some (out, mk8 how u) := by
  unfold c268 mk8
  rcases ho with ⟨z | z, z2⟩ | ⟨z, z2⟩
  · rw [if_neg (by omega), if_neg (by omega)]
    refine bnd rfl ?_
    unfold c268_j10
    rw [if_neg (by omega), z2]
  · rw [if_pos z, if_pos z]
    unfold c268_j10
    rw [if_neg (by omega), z2]
  · rw [if_neg (by omega), if_neg (by omega)]
    refine bnd rfl ?_
    unfold c268_j10
    have e42 : hI (sI u 395 40 0) 395 42 = hI t4 395 42 := by rw [hI_sI, if_neg (by omega)]; exact eu
    rw [if_pos z, e42]
    rcases z2 with ⟨z3, z4⟩ | ⟨z3, z4⟩
    · rw [if_pos z4, z3]
    · rw [if_neg (by omega), z3]
end BTX
