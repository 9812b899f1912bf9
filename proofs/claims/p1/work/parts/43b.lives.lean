/-! is it alive: on any world whose creatures are the fresh ones -/
def mv_cr11 : List Value := [.ref 207, .ref 211, .ref 215, .ref 219, .ref 223, .ref 227, .ref 231, .ref 235, .ref 239, .ref 243, .ref 247, .ref 251, .ref 255, .ref 259, .ref 263, .ref 267, .ref 271, .ref 275, .ref 279, .ref 283, .ref 287, .ref 291, .ref 295, .ref 299, .ref 303, .ref 307, .ref 311, .ref 315, .ref 319, .ref 323, .ref 327, .ref 331, .ref 335, .ref 339, .ref 343, .ref 347, .ref 351, .ref 355, .ref 359, .ref 363]
set_option maxRecDepth 100000 in
theorem mv_crW : ∀ j, j < 40 → mv_cr11[j]? = some (.ref (207 + 4 * j)) ∧ ∃ vs, mv_W2.1[207 + 4 * j]? = some (.inr 7, vs) ∧ vs[1]? = some (.int 0)
  | 0, _ => ⟨rfl, _, rfl, rfl⟩
  | 1, _ => ⟨rfl, _, rfl, rfl⟩
  | 2, _ => ⟨rfl, _, rfl, rfl⟩
  | 3, _ => ⟨rfl, _, rfl, rfl⟩
  | 4, _ => ⟨rfl, _, rfl, rfl⟩
  | 5, _ => ⟨rfl, _, rfl, rfl⟩
  | 6, _ => ⟨rfl, _, rfl, rfl⟩
  | 7, _ => ⟨rfl, _, rfl, rfl⟩
  | 8, _ => ⟨rfl, _, rfl, rfl⟩
  | 9, _ => ⟨rfl, _, rfl, rfl⟩
  | 10, _ => ⟨rfl, _, rfl, rfl⟩
  | 11, _ => ⟨rfl, _, rfl, rfl⟩
  | 12, _ => ⟨rfl, _, rfl, rfl⟩
  | 13, _ => ⟨rfl, _, rfl, rfl⟩
  | 14, _ => ⟨rfl, _, rfl, rfl⟩
  | 15, _ => ⟨rfl, _, rfl, rfl⟩
  | 16, _ => ⟨rfl, _, rfl, rfl⟩
  | 17, _ => ⟨rfl, _, rfl, rfl⟩
  | 18, _ => ⟨rfl, _, rfl, rfl⟩
  | 19, _ => ⟨rfl, _, rfl, rfl⟩
  | 20, _ => ⟨rfl, _, rfl, rfl⟩
  | 21, _ => ⟨rfl, _, rfl, rfl⟩
  | 22, _ => ⟨rfl, _, rfl, rfl⟩
  | 23, _ => ⟨rfl, _, rfl, rfl⟩
  | 24, _ => ⟨rfl, _, rfl, rfl⟩
  | 25, _ => ⟨rfl, _, rfl, rfl⟩
  | 26, _ => ⟨rfl, _, rfl, rfl⟩
  | 27, _ => ⟨rfl, _, rfl, rfl⟩
  | 28, _ => ⟨rfl, _, rfl, rfl⟩
  | 29, _ => ⟨rfl, _, rfl, rfl⟩
  | 30, _ => ⟨rfl, _, rfl, rfl⟩
  | 31, _ => ⟨rfl, _, rfl, rfl⟩
  | 32, _ => ⟨rfl, _, rfl, rfl⟩
  | 33, _ => ⟨rfl, _, rfl, rfl⟩
  | 34, _ => ⟨rfl, _, rfl, rfl⟩
  | 35, _ => ⟨rfl, _, rfl, rfl⟩
  | 36, _ => ⟨rfl, _, rfl, rfl⟩
  | 37, _ => ⟨rfl, _, rfl, rfl⟩
  | 38, _ => ⟨rfl, _, rfl, rfl⟩
  | 39, _ => ⟨rfl, _, rfl, rfl⟩
  | _ + 40, h => absurd h (by omega)
theorem mv_livesW (xs : List Int32) (n : Int32) (w : mmW) {vs0 vs11 : List Value} (b0 : w.1[0]? = some (.inr 0, vs0)) (hv : vs0[2]? = some (.ref 11)) (b11 : w.1[11]? = some (.inl 4, vs11)) (bc : ∀ j, j < 40 → ∃ c vs, vs11[j]? = some (.ref c) ∧ w.1[c]? = some (.inr 7, vs) ∧ vs[1]? = some (.int 0)) : ∃ N0, mm_ev (mt_P xs) N0 19 103 [.ref 0, .int n] w = some (some (.int 0), w) := by
  refine mu_ev (d := 18) (Nat.le_of_ble_eq_true rfl) ?_
  refine mt_runs 1 (f' := (1, [some (.ref 0), some (.int n)], [.int n], w)) rfl ?_
  refine mu_if (tgt := 26) rfl (by decide) (fun (c1 : n.toInt < 0) => ?_) (fun (c1 : ¬ (n.toInt < 0)) => ?_)
  · refine mt_runs 1 (f' := (27, [some (.ref 0), some (.int n)], [.int 0], w)) rfl ?_
    refine mt_ret rfl rfl ?_
    rfl
  · refine mt_runs 2 (f' := (7, [some (.ref 0), some (.int n)], [.int 40, .int n], w)) rfl ?_
    refine mu_icmp (tgt := 26) rfl (by decide) (fun (c2 : 40 ≤ n.toInt) => ?_) (fun (c2 : ¬ (40 ≤ n.toInt)) => ?_)
    · refine mt_runs 1 (f' := (27, [some (.ref 0), some (.int n)], [.int 0], w)) rfl ?_
      refine mt_ret rfl rfl ?_
      rfl
    · refine mt_runs 1 (f' := (11, [some (.ref 0), some (.int n)], [.ref 0], w)) rfl ?_
      refine mu_get rfl b0 hv ?_
      refine mt_runs 1 (f' := (15, [some (.ref 0), some (.int n)], [.int n, .ref 11], w)) rfl ?_
      have hn : n.toNatClampNeg < 40 := by show n.toInt.toNat < 40; omega
      obtain ⟨c, vs, h1, h2, h3⟩ := bc n.toNatClampNeg hn
      have h0 : ¬ n < 0 := fun h => c1 (Int32.lt_iff_toInt_lt.mp h)
      refine mu_ald (q := fun t => decide (4 ≤ t)) (n := n.toNatClampNeg) rfl (fun _ _ _ _ => rfl) b11 rfl rfl h0 h1 ?_
      refine mu_get rfl h2 h3 ?_
      refine mt_runs 2 (f' := (27, [some (.ref 0), some (.int n)], [.int 0], w)) rfl ?_
      refine mt_ret rfl rfl ?_
      rfl
