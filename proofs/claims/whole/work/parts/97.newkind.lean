/-! a kind comes -/
def nst (k : Nat) (h : hS) (e : Nat × Nat × Nat) : hS := sR (mkH h e.1 e.2.1) k e.2.2 (hN h)
def rowL : List (Nat × Nat × Nat) := [(1, 8, 5), (1, 8, 6), (1, 8, 7), (1, 4, 9), (1, 4, 10), (1, 8, 12), (21, 8, 13), (3, 40, 14), (17, 40, 15), (1, 40, 16), (17, 40, 17), (1, 40, 18)]
section NWK
variable {k : Nat}
theorem nst_n {h : hS} {e : Nat × Nat × Nat} : hN (nst k h e) = hN h + 1 := rfl
theorem nst_t {h : hS} {e : Nat × Nat × Nat} {t : Nat} (hk : k < hN h) (ht : hT h k = t) : hT (nst k h e) k = t := by
  show (if k = hN h then e.1 else hT h k) = t
  rw [if_neg (by omega)]
  exact ht
theorem nst_a {h : hS} {t : Nat} {z : Int} (n : Nat) (z0 : 0 ≤ z ∧ z ≤ 100000) (hz : z.toNat = n) : ∃ x, nA h t z = some x ∧ x = mkH h t n := by
  subst hz
  exact ⟨_, if_pos z0, rfl⟩
theorem nst_b {h m : hS} {t f n : Nat} (hm : m = mkH h t n) (q : k < hN h ∧ hT h k = 24) : ∃ x, pR m k 24 f (hN h) = some x ∧ (x = nst k h (t, n, f) ∧ (k < hN x ∧ hT x k = 24)) := by
  subst hm
  exact ⟨nst k h (t, n, f), pR_s (show hT (mkH h t n) k = 24 from by rw [hT_mk, if_neg (by omega)]; exact q.2), rfl, by rw [nst_n]; omega, nst_t q.1 q.2⟩
theorem nst_L : ∀ (L : List (Nat × Nat × Nat)) (h : hS), k < hN h → (L.map (fun e => e.2.2)).Nodup → hN (L.foldl (nst k) h) = hN h + L.length ∧ hM (L.foldl (nst k) h) = hM h + (L.map (fun e => e.2.1)).sum ∧ (∀ x j, hI (L.foldl (nst k) h) x j = if hN h ≤ x ∧ x < hN h + L.length then 0 else hI h x j) ∧ (∀ x j, x < hN h → x ≠ k → hR (L.foldl (nst k) h) x j = hR h x j) ∧ (∀ j, (∀ e ∈ L, e.2.2 ≠ j) → hR (L.foldl (nst k) h) k j = hR h k j) ∧ (∀ x j, hN h ≤ x → x < hN h + L.length → hR (L.foldl (nst k) h) x j = 0) ∧ (∀ x, x < hN h → hT (L.foldl (nst k) h) x = hT h x ∧ hL (L.foldl (nst k) h) x = hL h x) ∧ (∀ (i : Nat) (e : Nat × Nat × Nat), L[i]? = some e → hR (L.foldl (nst k) h) k e.2.2 = hN h + i ∧ hT (L.foldl (nst k) h) (hN h + i) = e.1 ∧ hL (L.foldl (nst k) h) (hN h + i) = e.2.1)
  | [], h, hk, _ => ⟨rfl, rfl, fun x j => by rw [if_neg (fun z => by have := z.2; simp at this; omega)]; rfl, fun _ _ _ _ => rfl, fun _ _ => rfl, fun x j h1 h2 => by simp at h2; omega, fun _ _ => ⟨rfl, rfl⟩, fun i e he => by simp at he⟩
  | e0 :: L, h, hk, hd => by
    rw [List.map_cons, List.nodup_cons] at hd
    obtain ⟨i1, i2, i3, i4, i5, i6, i7, i8⟩ := nst_L L (nst k h e0) (by rw [nst_n]; omega) hd.2
    rw [nst_n] at i1 i3 i4 i6 i7 i8
    have mI : ∀ x j, hI (nst k h e0) x j = if x = hN h then 0 else hI h x j := fun _ _ => rfl
    have mR : ∀ x j, hR (nst k h e0) x j = if x = k ∧ j = e0.2.2 then hN h else if x = hN h then 0 else hR h x j := fun _ _ => rfl
    have mT : ∀ x, hT (nst k h e0) x = if x = hN h then e0.1 else hT h x := fun _ => rfl
    have mL : ∀ x, hL (nst k h e0) x = if x = hN h then e0.2.1 else hL h x := fun _ => rfl
    rw [List.foldl_cons, List.length_cons, List.map_cons, List.sum_cons]
    refine ⟨by omega, ?_, fun x j => ?_, fun x j h1 h2 => ?_, fun j hj => ?_, fun x j h1 h2 => ?_, fun x hx => ?_, fun i e he => ?_⟩
    · rw [i2]
      show hM h + e0.2.1 + _ = _
      omega
    · rw [i3, mI]
      by_cases c : x = hN h
      · rw [if_neg (by omega), if_pos c, if_pos (by omega)]
      · rw [if_neg c]
        by_cases c2 : hN h + 1 ≤ x ∧ x < hN h + 1 + L.length
        · rw [if_pos c2, if_pos (by omega)]
        · rw [if_neg c2, if_neg (by omega)]
    · rw [i4 x j (by omega) h2, mR, if_neg (fun z => h2 z.1), if_neg (by omega)]
    · rw [i5 j (fun e he => hj e (List.mem_cons_of_mem _ he)), mR, if_neg (fun z => hj e0 List.mem_cons_self z.2.symm), if_neg (by omega)]
    · by_cases c : x = hN h
      · rw [i4 x j (by omega) (by omega), mR, if_neg (by omega), if_pos c]
      · exact i6 x j (by omega) (by omega)
    · obtain ⟨a, b⟩ := i7 x (by omega)
      rw [a, b, mT, mL, if_neg (by omega), if_neg (by omega)]
      exact ⟨rfl, rfl⟩
    · cases i with
      | zero =>
        have he : e0 = e := by simpa using he
        subst he
        obtain ⟨a, b⟩ := i7 (hN h + 0) (by omega)
        rw [a, b, mT, mL, if_pos (show hN h + 0 = hN h from rfl), if_pos (show hN h + 0 = hN h from rfl), i5 e0.2.2 (fun e he c => hd.1 (by rw [← c]; exact List.mem_map_of_mem he)), mR, if_pos ⟨rfl, rfl⟩]
        exact ⟨rfl, rfl, rfl⟩
      | succ i =>
        have he : L[i]? = some e := by simpa using he
        obtain ⟨a, b, c⟩ := i8 i e he
        rw [show hN h + (i + 1) = hN h + 1 + i by omega]
        exact ⟨a, b, c⟩
theorem c57_o {h : hS} {n : Int} (k8 : 8 ≤ k) (hk : k < hN h) (t24 : hT h k = 24) : ∃ o, c57 k n h = some o ∧ ∃ h', h' = rowL.foldl (nst k) h ∧ o = sI h' k 0 n := by
  unfold c57
  refine bex (fun _ => True) ⟨_, k8_s k8, trivial⟩ (fun _ _ => ?_)
  have q0 : k < hN h ∧ hT h k = 24 := ⟨hk, t24⟩
  refine bex (fun x => x = mkH h 1 8) (nst_a 8 (by omega) rfl) (fun m1 x1 => ?_)
  refine bex (fun x => x = nst k h (1, 8, 5) ∧ (k < hN x ∧ hT x k = 24)) (nst_b x1 q0) (fun h1 y1 => ?_)
  refine bex (fun x => x = mkH h1 1 8) (nst_a 8 (by omega) rfl) (fun m2 x2 => ?_)
  refine bex (fun x => x = nst k h1 (1, 8, 6) ∧ (k < hN x ∧ hT x k = 24)) (nst_b x2 y1.2) (fun h2 y2 => ?_)
  refine bex (fun x => x = mkH h2 1 8) (nst_a 8 (by omega) rfl) (fun m3 x3 => ?_)
  refine bex (fun x => x = nst k h2 (1, 8, 7) ∧ (k < hN x ∧ hT x k = 24)) (nst_b x3 y2.2) (fun h3 y3 => ?_)
  refine bex (fun x => x = mkH h3 1 4) (nst_a 4 (by omega) rfl) (fun m4 x4 => ?_)
  refine bex (fun x => x = nst k h3 (1, 4, 9) ∧ (k < hN x ∧ hT x k = 24)) (nst_b x4 y3.2) (fun h4 y4 => ?_)
  refine bex (fun x => x = mkH h4 1 4) (nst_a 4 (by omega) rfl) (fun m5 x5 => ?_)
  refine bex (fun x => x = nst k h4 (1, 4, 10) ∧ (k < hN x ∧ hT x k = 24)) (nst_b x5 y4.2) (fun h5 y5 => ?_)
  refine bex (fun x => x = mkH h5 1 8) (nst_a 8 (by omega) rfl) (fun m6 x6 => ?_)
  refine bex (fun x => x = nst k h5 (1, 8, 12) ∧ (k < hN x ∧ hT x k = 24)) (nst_b x6 y5.2) (fun h6 y6 => ?_)
  refine bex (fun x => x = mkH h6 21 8) (nst_a 8 (by omega) rfl) (fun m7 x7 => ?_)
  refine bex (fun x => x = nst k h6 (21, 8, 13) ∧ (k < hN x ∧ hT x k = 24)) (nst_b x7 y6.2) (fun h7 y7 => ?_)
  refine bex (fun x => x = mkH h7 3 40) (nst_a 40 (by omega) rfl) (fun m8 x8 => ?_)
  refine bex (fun x => x = nst k h7 (3, 40, 14) ∧ (k < hN x ∧ hT x k = 24)) (nst_b x8 y7.2) (fun h8 y8 => ?_)
  refine bex (fun x => x = mkH h8 17 40) (nst_a 40 (by omega) rfl) (fun m9 x9 => ?_)
  refine bex (fun x => x = nst k h8 (17, 40, 15) ∧ (k < hN x ∧ hT x k = 24)) (nst_b x9 y8.2) (fun h9 y9 => ?_)
  refine bex (fun x => x = mkH h9 1 40) (nst_a 40 (by omega) rfl) (fun m10 x10 => ?_)
  refine bex (fun x => x = nst k h9 (1, 40, 16) ∧ (k < hN x ∧ hT x k = 24)) (nst_b x10 y9.2) (fun h10 y10 => ?_)
  refine bex (fun x => x = mkH h10 17 40) (nst_a 40 (by omega) rfl) (fun m11 x11 => ?_)
  refine bex (fun x => x = nst k h10 (17, 40, 17) ∧ (k < hN x ∧ hT x k = 24)) (nst_b x11 y10.2) (fun h11 y11 => ?_)
  refine bex (fun x => x = mkH h11 1 40) (nst_a 40 (by omega) rfl) (fun m12 x12 => ?_)
  refine bex (fun x => x = nst k h11 (1, 40, 18) ∧ (k < hN x ∧ hT x k = 24)) (nst_b x12 y11.2) (fun h12 y12 => ?_)
  refine bex (fun x => x = sI h12 k 0 n) ⟨_, pI_s y12.2.2, rfl⟩ (fun z hz => ?_)
  refine ⟨z, rfl, h12, ?_, hz⟩
  unfold rowL
  rw [List.foldl_cons, ← y1.1, List.foldl_cons, ← y2.1, List.foldl_cons, ← y3.1, List.foldl_cons, ← y4.1, List.foldl_cons, ← y5.1, List.foldl_cons, ← y6.1, List.foldl_cons, ← y7.1, List.foldl_cons, ← y8.1, List.foldl_cons, ← y9.1, List.foldl_cons, ← y10.1, List.foldl_cons, ← y11.1, List.foldl_cons, ← y12.1, List.foldl_nil]
theorem rowL_n : (rowL.map (fun e => e.2.2)).Nodup := by decide
/-- the fresh kind -/
theorem c57_k {h : hS} {n : Int} (k448 : 448 ≤ k) (hk : hN h = k + 1) (t24 : hT h k = 24) : ∃ h', c57 k n h = some h' ∧ hN h' = k + 13 ∧ hM h' = hM h + 248 ∧ KD h' k ∧ (∀ x j, hI h' x j = if x = k ∧ j = 0 then n else if k + 1 ≤ x ∧ x < k + 13 then 0 else hI h x j) ∧ (∀ x j, x < k → hR h' x j = hR h x j) ∧ (∀ j, j ≤ 4 → hR h' k j = hR h k j) ∧ (∀ x j, k + 1 ≤ x → x < k + 13 → hR h' x j = 0) ∧ (∀ x, x < k + 1 → hT h' x = hT h x ∧ hL h' x = hL h x) := by
  obtain ⟨i1, i2, i3, i4, i5, i6, i7, i8⟩ := nst_L (k := k) rowL h (by omega) rowL_n
  obtain ⟨o, ec, h', eh, rfl⟩ := c57_o (n := n) (show 8 ≤ k by omega) (show k < hN h by omega) t24
  rw [← eh] at i1 i2 i3 i4 i5 i6 i7 i8
  have l12 : rowL.length = 12 := rfl
  rw [l12, hk] at i1 i3 i6
  rw [hk] at i4 i7 i8
  clear eh
  refine ⟨_, ec, i1, i2, ⟨k448, ?_, ?_, fun e he => ?_⟩, fun x j => ?_, fun x j hx => ?_, fun j hj => ?_, fun x j h1 h2 => ?_, fun x hx => ?_⟩
  · show k + 12 < hN h'
    omega
  · exact (i7 k (by omega)).1.trans t24
  · have key : ∀ e ∈ karL, ∃ i, i < 12 ∧ rowL[i]? = some (e.2.2.1, e.2.2.2, e.1) ∧ e.2.1 = i + 1 := by
      intro e he
      have : ∀ e ∈ karL, rowL[e.2.1 - 1]? = some (e.2.2.1, e.2.2.2, e.1) ∧ 1 ≤ e.2.1 ∧ e.2.1 ≤ 12 := by decide
      obtain ⟨a, b, c⟩ := this e he
      exact ⟨e.2.1 - 1, by omega, a, by omega⟩
    obtain ⟨i, hi, h1, h2⟩ := key e he
    obtain ⟨a, b, c⟩ := i8 i _ h1
    rw [h2, show k + (i + 1) = k + 1 + i by omega]
    exact ⟨a, b, c⟩
  · rw [hI_sI]
    by_cases c : x = k ∧ j = 0
    · rw [if_pos c, if_pos c]
    · rw [if_neg c, if_neg c, i3, show k + 1 + 12 = k + 13 by omega]
  · exact i4 x j (by omega) (by omega)
  · refine i5 j (fun e he => ?_)
    have : ∀ e ∈ rowL, 5 ≤ e.2.2 := by decide
    have := this e he
    omega
  · exact i6 x j h1 (by omega)
  · exact i7 x (by omega)
end NWK
