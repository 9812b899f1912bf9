/-! further: laid by wip/whole/p1gen.py -/
set_option maxRecDepth 100000 in
theorem mv_b0 : mv_W2.1[0]? = some (.inr 0, [.ref 1, .ref 7, .ref 11, .ref 12, .ref 13, .ref 14, .ref 40, .ref 205, .int 0, .int 0, .int (-1), .int 0, .int 0, .int 0]) := rfl
set_option maxRecDepth 100000 in
theorem mv_b11 : mv_W2.1[11]? = some (.inl 4, [.ref 207, .ref 211, .ref 215, .ref 219, .ref 223, .ref 227, .ref 231, .ref 235, .ref 239, .ref 243, .ref 247, .ref 251, .ref 255, .ref 259, .ref 263, .ref 267, .ref 271, .ref 275, .ref 279, .ref 283, .ref 287, .ref 291, .ref 295, .ref 299, .ref 303, .ref 307, .ref 311, .ref 315, .ref 319, .ref 323, .ref 327, .ref 331, .ref 335, .ref 339, .ref 343, .ref 347, .ref 351, .ref 355, .ref 359, .ref 363]) := rfl
set_option maxRecDepth 100000 in
theorem mv_b387 : mv_W2.1[387]? = some (.inr 13, [.ref 388, .int 0, .int 0, .int 0, .int 0, .int 0, .ref 389, .int 0, .ref 390, .int 0, .long 0, .int 0, .int 0, .int 0, .int (-1), .ref 391, .int 0, .int 0, .int 0, .int 0, .int 0, .int 0, .int 0, .ref 392, .int 0, .int 0, .int 0, .int 0, .int (-1), .int (-1), .int (-1), .ref 393, .ref 394, .int 0, .ref 395, .ref 396, .ref 397, .ref 398, .ref 399, .int 0, .int 0, .int 0, .int 0, .ref 400, .ref 401, .ref 402, .ref 403, .ref 404, .ref 405, .ref 406, .ref 407, .ref 408, .int 0, .ref 409, .int 0, .int 0, .int 0, .int 0, .int 0, .int 0, .int 0, .ref 410, .ref 411, .ref 412, .ref 413, .ref 414, .int 0, .ref 415, .ref 416, .ref 417, .ref 418, .ref 419, .ref 420, .ref 421, .ref 422, .ref 423, .ref 424, .ref 425, .ref 426, .ref 427, .ref 428, .ref 429, .int 0, .int (-1), .int (-1), .ref 430, .ref 431, .ref 432, .ref 433, .ref 434, .ref 435, .ref 436, .ref 437, .ref 438, .ref 439]) := rfl
set_option maxRecDepth 100000 in
theorem mv_tail (x0 x1 x2 x3 x4 x5 : Int32) (w : mmW) (h1 : w.2.1 ≤ 600000) (h2 : w.2.2 ≤ 7302250) : mu_G (mt_P (mv_xs x0 x1 x2 x3 x4 x5)) 20 301 (958, [some (.retAddr 0), some (.ref 0), some (.ref 387), some (.int 0)], [], w) mv_Q := by
  refine mt_runs 1 (f' := (961, [some (.retAddr 0), some (.ref 0), some (.ref 387), some (.int 6)], [], _)) rfl ?_
  refine mt_runs 1 (f' := (18, [some (.retAddr 0), some (.ref 0), some (.ref 387), some (.int 6)], [], _)) rfl ?_
  refine mt_runs 1 (f' := (19, [some (.retAddr 0), some (.ref 0), some (.ref 387), some (.int 6)], [.int 6], _)) rfl ?_
  refine mt_runs 1 (f' := (20, [some (.retAddr 0), some (.ref 0), some (.ref 387), some (.int 6)], [.retAddr 0, .int 6], _)) rfl ?_
  refine mt_runs 1 (f' := (21, [some (.retAddr 0), some (.ref 0), some (.ref 387), some (.int 6)], [.int 6, .int 6], _)) rfl ?_
  refine mt_runs 1 (f' := (23, [some (.retAddr 0), some (.ref 0), some (.ref 387), some (.int 6)], [.int 6, .int 6, .int 6], _)) rfl ?_
  refine mt_runs 1 (f' := (24, [some (.retAddr 0), some (.ref 0), some (.ref 387), some (.int 6)], [.int 0, .int 6], _)) rfl ?_
  refine mt_runs 1 (f' := (964, [some (.retAddr 0), some (.ref 0), some (.ref 387), some (.int 6)], [], _)) rfl ?_
  refine mt_runs 1 (f' := (965, [some (.retAddr 0), some (.ref 0), some (.ref 387), some (.int 6)], [.int 1], _)) rfl ?_
  refine mt_ret rfl rfl ?_
  exact ⟨rfl, h1, h2⟩
set_option maxRecDepth 100000 in
set_option maxHeartbeats 4000000 in
theorem mv_op15 (x0 x1 x2 x3 x4 x5 : Int32) : mu_G (mt_P (mv_xs x0 x1 x2 x3 x4 x5)) 20 301 (569, [some (.retAddr 0), some (.ref 0), some (.ref 387), some (.int 0)], [], mv_W2) mv_Q := by
  refine mt_runs 16 (f' := (585, [some (.retAddr 0), some (.ref 0), some (.ref 387), some (.int 0)], [.int x3, .int x2, .int x1, .ref 0], _)) rfl ?_
  refine mt_call rfl (fun _ => rfl) ⟨Nat.le_of_ble_eq_true rfl, Nat.le_of_ble_eq_true rfl, rfl⟩ (Nat.le_of_ble_eq_true rfl) ?_
  refine mt_runs 4 (f' := (5, [some (.ref 0), some (.int x1), some (.int x2), some (.int x3), some (.int 3)], [.int 0, .ref 0], _)) rfl ?_
  refine mu_put rfl mv_b0 (Nat.le_of_ble_eq_true rfl) rfl ?_
  refine mt_runs 2 (f' := (10, [some (.ref 0), some (.int x1), some (.int x2), some (.int x3), some (.int 3)], [.int 0, .ref 0], _)) rfl ?_
  refine mu_put rfl (mm_getS mv_b0) (Nat.le_of_ble_eq_true rfl) rfl ?_
  refine mt_runs 2 (f' := (15, [some (.ref 0), some (.int x1), some (.int x2), some (.int x3), some (.int 3)], [.int 0, .ref 0], _)) rfl ?_
  refine mu_put rfl (mm_getS (mm_getS mv_b0)) (Nat.le_of_ble_eq_true rfl) rfl ?_
  refine mt_runs 2 (f' := (20, [some (.ref 0), some (.int x1), some (.int x2), some (.int x3), some (.int 3)], [.int x1, .ref 0], _)) rfl ?_
  refine mt_callX rfl (fun _ => rfl) ⟨Nat.le_of_ble_eq_true rfl, Nat.le_of_ble_eq_true rfl, rfl⟩ (mv_livesW _ x1 _ (mm_getS (mm_getS (mm_getS mv_b0))) rfl (mm_getN (by decide) (mm_getN (by decide) (mm_getN (by decide) mv_b11))) (fun j hj => match mv_crW j hj with | ⟨h1, vs, h2, h3⟩ => ⟨_, vs, h1, (mm_getN (by omega) (mm_getN (by omega) (mm_getN (by omega) h2))), h3⟩)) ?_
  refine mt_runs 2 (f' := (78, [some (.ref 0), some (.int x1), some (.int x2), some (.int x3), some (.int 3)], [.int 3], _)) rfl ?_
  refine mt_ret rfl rfl ?_
  refine mt_runs 16 (f' := (604, [some (.retAddr 0), some (.ref 0), some (.ref 387), some (.int 0)], [.int x3, .int x2, .int x1, .ref 387, .int 3], _)) rfl ?_
  refine mt_call rfl (fun _ => rfl) ⟨Nat.le_of_ble_eq_true rfl, Nat.le_of_ble_eq_true rfl, rfl⟩ (Nat.le_of_ble_eq_true rfl) ?_
  refine mt_runs 1 (f' := (1, [some (.ref 387), some (.int x1), some (.int x2), some (.int x3), none], [.ref 387], _)) rfl ?_
  refine mt_call rfl (fun _ => rfl) ⟨Nat.le_of_ble_eq_true rfl, Nat.le_of_ble_eq_true rfl, rfl⟩ (Nat.le_of_ble_eq_true rfl) ?_
  refine mt_runs 2 (f' := (2, [some (.ref 387)], [.int 0, .ref 387], _)) rfl ?_
  refine mu_put rfl (mm_getN (by decide) (mm_getN (by decide) (mm_getN (by decide) mv_b387))) (Nat.le_of_ble_eq_true rfl) rfl ?_
  refine mt_runs 2 (f' := (7, [some (.ref 387)], [.int 0, .ref 387], _)) rfl ?_
  refine mu_put rfl (mm_getS (mm_getN (by decide) (mm_getN (by decide) (mm_getN (by decide) mv_b387)))) (Nat.le_of_ble_eq_true rfl) rfl ?_
  refine mt_runs 2 (f' := (12, [some (.ref 387)], [.int 0, .ref 387], _)) rfl ?_
  refine mu_put rfl (mm_getS (mm_getS (mm_getN (by decide) (mm_getN (by decide) (mm_getN (by decide) mv_b387))))) (Nat.le_of_ble_eq_true rfl) rfl ?_
  refine mt_runs 2 (f' := (17, [some (.ref 387)], [.int 0, .ref 387], _)) rfl ?_
  refine mu_put rfl (mm_getS (mm_getS (mm_getS (mm_getN (by decide) (mm_getN (by decide) (mm_getN (by decide) mv_b387)))))) (Nat.le_of_ble_eq_true rfl) rfl ?_
  refine mt_ret rfl rfl ?_
  refine mt_runs 4 (f' := (9, [some (.ref 387), some (.int x1), some (.int x2), some (.int x3), some (.int 3)], [.int x1, .ref 387], _)) rfl ?_
  refine mt_call rfl (fun _ => rfl) ⟨Nat.le_of_ble_eq_true rfl, Nat.le_of_ble_eq_true rfl, rfl⟩ (Nat.le_of_ble_eq_true rfl) ?_
  refine mt_runs 3 (f' := (3, [some (.ref 387), some (.int x1)], [.ref 387, .int 0, .int x1], _)) rfl ?_
  refine mu_get rfl (mm_getS (mm_getS (mm_getS (mm_getS (mm_getN (by decide) (mm_getN (by decide) (mm_getN (by decide) mv_b387))))))) rfl ?_
  refine mt_runs 2 (f' := (8, [some (.ref 387), some (.int x1)], [.int (-1), .int 0, .int x1], _)) rfl ?_
  refine mt_call rfl (fun _ => rfl) ⟨Nat.le_of_ble_eq_true rfl, Nat.le_of_ble_eq_true rfl, rfl⟩ (Nat.le_of_ble_eq_true rfl) ?_
  refine mt_runs 2 (f' := (2, [some (.int x1), some (.int 0), some (.int (-1))], [.int 0, .int x1], _)) rfl ?_
  refine mu_icmp (tgt := 14) rfl (by decide) (fun (c1 : x1.toInt < 0) => ?_) (fun (c1 : ¬ (x1.toInt < 0)) => ?_)
  · refine mt_runs 1 (f' := (15, [some (.int x1), some (.int 0), some (.int (-1))], [.int 0], _)) rfl ?_
    refine mt_ret rfl rfl ?_
    refine mt_runs 2 (f' := (28, [some (.ref 387), some (.int x1)], [.int 0], _)) rfl ?_
    refine mt_ret rfl rfl ?_
    refine mt_runs 5 (f' := (61, [some (.ref 387), some (.int x1), some (.int x2), some (.int x3), some (.int 3)], [.int 0, .ref 387], _)) rfl ?_
    refine mu_put rfl (mm_getS (mm_getS (mm_getS (mm_getS (mm_getN (by decide) (mm_getN (by decide) (mm_getN (by decide) mv_b387))))))) (Nat.le_of_ble_eq_true rfl) rfl ?_
    refine mt_runs 5 (f' := (79, [some (.ref 387), some (.int x1), some (.int x2), some (.int x3), some (.int 3)], [.int 0, .ref 387], _)) rfl ?_
    refine mu_put rfl (mm_getS (mm_getS (mm_getS (mm_getS (mm_getS (mm_getN (by decide) (mm_getN (by decide) (mm_getN (by decide) mv_b387)))))))) (Nat.le_of_ble_eq_true rfl) rfl ?_
    refine mt_runs 2 (f' := (84, [some (.ref 387), some (.int x1), some (.int x2), some (.int x3), some (.int 3)], [.ref 387, .ref 387], _)) rfl ?_
    refine mu_get rfl (mm_getS (mm_getS (mm_getS (mm_getS (mm_getS (mm_getS (mm_getN (by decide) (mm_getN (by decide) (mm_getN (by decide) mv_b387))))))))) rfl ?_
    refine mu_put rfl (mm_getS (mm_getS (mm_getS (mm_getS (mm_getS (mm_getS (mm_getN (by decide) (mm_getN (by decide) (mm_getN (by decide) mv_b387))))))))) (Nat.le_of_ble_eq_true rfl) rfl ?_
    refine mt_runs 1 (f' := (92, [some (.ref 387), some (.int x1), some (.int x2), some (.int x3), some (.int 3)], [.int 3], _)) rfl ?_
    refine mt_ret rfl rfl ?_
    refine mt_runs 1 (f' := (958, [some (.retAddr 0), some (.ref 0), some (.ref 387), some (.int 0)], [], _)) rfl ?_
    exact mv_tail _ _ _ _ _ _ _ (Nat.le_of_ble_eq_true rfl) (Nat.le_of_ble_eq_true rfl)
  · refine mt_runs 2 (f' := (7, [some (.int x1), some (.int 0), some (.int (-1))], [.int (-1), .int x1], _)) rfl ?_
    refine mu_icmp (tgt := 14) rfl (by decide) (fun (c2 : (-1) < x1.toInt) => ?_) (fun (c2 : ¬ ((-1) < x1.toInt)) => ?_)
    · refine mt_runs 1 (f' := (15, [some (.int x1), some (.int 0), some (.int (-1))], [.int 0], _)) rfl ?_
      refine mt_ret rfl rfl ?_
      refine mt_runs 2 (f' := (28, [some (.ref 387), some (.int x1)], [.int 0], _)) rfl ?_
      refine mt_ret rfl rfl ?_
      refine mt_runs 5 (f' := (61, [some (.ref 387), some (.int x1), some (.int x2), some (.int x3), some (.int 3)], [.int 0, .ref 387], _)) rfl ?_
      refine mu_put rfl (mm_getS (mm_getS (mm_getS (mm_getS (mm_getN (by decide) (mm_getN (by decide) (mm_getN (by decide) mv_b387))))))) (Nat.le_of_ble_eq_true rfl) rfl ?_
      refine mt_runs 5 (f' := (79, [some (.ref 387), some (.int x1), some (.int x2), some (.int x3), some (.int 3)], [.int 0, .ref 387], _)) rfl ?_
      refine mu_put rfl (mm_getS (mm_getS (mm_getS (mm_getS (mm_getS (mm_getN (by decide) (mm_getN (by decide) (mm_getN (by decide) mv_b387)))))))) (Nat.le_of_ble_eq_true rfl) rfl ?_
      refine mt_runs 2 (f' := (84, [some (.ref 387), some (.int x1), some (.int x2), some (.int x3), some (.int 3)], [.ref 387, .ref 387], _)) rfl ?_
      refine mu_get rfl (mm_getS (mm_getS (mm_getS (mm_getS (mm_getS (mm_getS (mm_getN (by decide) (mm_getN (by decide) (mm_getN (by decide) mv_b387))))))))) rfl ?_
      refine mu_put rfl (mm_getS (mm_getS (mm_getS (mm_getS (mm_getS (mm_getS (mm_getN (by decide) (mm_getN (by decide) (mm_getN (by decide) mv_b387))))))))) (Nat.le_of_ble_eq_true rfl) rfl ?_
      refine mt_runs 1 (f' := (92, [some (.ref 387), some (.int x1), some (.int x2), some (.int x3), some (.int 3)], [.int 3], _)) rfl ?_
      refine mt_ret rfl rfl ?_
      refine mt_runs 1 (f' := (958, [some (.retAddr 0), some (.ref 0), some (.ref 387), some (.int 0)], [], _)) rfl ?_
      exact mv_tail _ _ _ _ _ _ _ (Nat.le_of_ble_eq_true rfl) (Nat.le_of_ble_eq_true rfl)
    · exfalso
      omega
