/-! the first call on a fresh object: laid by wip/whole/p1gen.py -/
def mv_Q (o : mmO) : Prop := o.1 = some (.int 1) ∧ o.2.2.1 ≤ 600000 ∧ o.2.2.2 ≤ 7302250
abbrev mv_xs (x0 x1 x2 x3 x4 x5 : Int32) : List Int32 := [x0, x1, x2, x3, x4, x5]
theorem mv_val {r : Option mmO} {v : Value} {w0 : mmW} (h : r.map (·.1) = some (some v)) : r = some (some v, (r.getD (none, w0)).2) := by
  cases r with
  | none => cases h
  | some o =>
    obtain ⟨v', w'⟩ := o
    have h : some v' = some (some v) := h
    cases h
    rfl
set_option maxRecDepth 100000 in
set_option maxHeartbeats 4000000 in
theorem mv_op1 (x0 x1 x2 x3 x4 x5 : Int32) : mu_G (mt_P (mv_xs x0 x1 x2 x3 x4 x5)) 20 301 (227, [some (.retAddr 0), some (.ref 0), some (.ref 387), some (.int 0)], [], mv_W2) mv_Q := by
  refine mt_runs 1 (f' := (228, [some (.retAddr 0), some (.ref 0), some (.ref 387), some (.int 0)], [.ref 0], mv_W2)) rfl ?_
  refine mt_runs 1 (f' := (229, [some (.retAddr 0), some (.ref 0), some (.ref 387), some (.int 0)], [.retAddr 0, .ref 0], mv_W2)) rfl ?_
  refine mt_runs 1 (f' := (230, [some (.retAddr 0), some (.ref 0), some (.ref 387), some (.int 0)], [.int 0, .retAddr 0, .ref 0], mv_W2)) rfl ?_
  refine mt_runs 1 (f' := (231, [some (.retAddr 0), some (.ref 0), some (.ref 387), some (.int 0)], [.int 1, .int 0, .retAddr 0, .ref 0], mv_W2)) rfl ?_
  refine mt_runs 1 (f' := (232, [some (.retAddr 0), some (.ref 0), some (.ref 387), some (.int 0)], [.int 1, .retAddr 0, .ref 0], mv_W2)) rfl ?_
  refine mt_runs 1 (f' := (233, [some (.retAddr 0), some (.ref 0), some (.ref 387), some (.int 0)], [.int x1, .ref 0], mv_W2)) rfl ?_
  refine mt_call rfl (fun _ => rfl) ⟨Nat.le_of_ble_eq_true rfl, Nat.le_of_ble_eq_true rfl, rfl⟩ (Nat.le_of_ble_eq_true rfl) ?_
  refine mt_runs 1 (f' := (1, [some (.ref 0), some (.int x1)], [.int x1], mv_W2)) rfl ?_
  refine mu_if (tgt := 15) rfl (by decide) (fun (c1 : x1.toInt < 0) => ?_) (fun (c1 : ¬ (x1.toInt < 0)) => ?_)
  · refine mt_runs 1 (f' := (16, [some (.ref 0), some (.int x1)], [.int 0], mv_W2)) rfl ?_
    refine mt_ret rfl rfl ?_
    refine mt_runs 1 (f' := (237, [some (.retAddr 0), some (.ref 0), some (.ref 387), some (.int 0)], [.ref 387, .int 0], mv_W2)) rfl ?_
    refine mt_runs 1 (f' := (238, [some (.retAddr 0), some (.ref 0), some (.ref 387), some (.int 0)], [.retAddr 0, .ref 387, .int 0], mv_W2)) rfl ?_
    refine mt_runs 1 (f' := (239, [some (.retAddr 0), some (.ref 0), some (.ref 387), some (.int 0)], [.int 0, .retAddr 0, .ref 387, .int 0], mv_W2)) rfl ?_
    refine mt_runs 1 (f' := (240, [some (.retAddr 0), some (.ref 0), some (.ref 387), some (.int 0)], [.int 1, .int 0, .retAddr 0, .ref 387, .int 0], mv_W2)) rfl ?_
    refine mt_runs 1 (f' := (241, [some (.retAddr 0), some (.ref 0), some (.ref 387), some (.int 0)], [.int 1, .retAddr 0, .ref 387, .int 0], mv_W2)) rfl ?_
    refine mt_runs 1 (f' := (242, [some (.retAddr 0), some (.ref 0), some (.ref 387), some (.int 0)], [.int x1, .ref 387, .int 0], mv_W2)) rfl ?_
    refine mt_call rfl (fun _ => rfl) ⟨Nat.le_of_ble_eq_true rfl, Nat.le_of_ble_eq_true rfl, rfl⟩ (Nat.le_of_ble_eq_true rfl) ?_
    refine mt_runs 4 (f' := (6, [some (.ref 387), some (.int x1)], [.int 0, .int 0, .int x1], mv_W2)) rfl ?_
    refine mt_call rfl (fun _ => rfl) ⟨Nat.le_of_ble_eq_true rfl, Nat.le_of_ble_eq_true rfl, rfl⟩ (Nat.le_of_ble_eq_true rfl) ?_
    refine mt_runs 2 (f' := (2, [some (.int x1), some (.int 0), some (.int 0)], [.int 0, .int x1], mv_W2)) rfl ?_
    refine mu_icmp (tgt := 14) rfl (by decide) (fun (c2 : x1.toInt < 0) => ?_) (fun (c2 : ¬ (x1.toInt < 0)) => ?_)
    · refine mt_runs 1 (f' := (15, [some (.int x1), some (.int 0), some (.int 0)], [.int 0], mv_W2)) rfl ?_
      refine mt_ret rfl rfl ?_
      refine mt_runs 2 (f' := (13, [some (.ref 387), some (.int x1)], [.int 0], mv_W2)) rfl ?_
      refine mt_ret rfl rfl ?_
      refine mt_runs 1 (f' := (958, [some (.retAddr 0), some (.ref 0), some (.ref 387), some (.int 0)], [], mv_W2)) rfl ?_
      refine mt_runs 1 (f' := (961, [some (.retAddr 0), some (.ref 0), some (.ref 387), some (.int 6)], [], mv_W2)) rfl ?_
      refine mt_runs 1 (f' := (18, [some (.retAddr 0), some (.ref 0), some (.ref 387), some (.int 6)], [], mv_W2)) rfl ?_
      refine mt_runs 1 (f' := (19, [some (.retAddr 0), some (.ref 0), some (.ref 387), some (.int 6)], [.int 6], mv_W2)) rfl ?_
      refine mt_runs 1 (f' := (20, [some (.retAddr 0), some (.ref 0), some (.ref 387), some (.int 6)], [.retAddr 0, .int 6], mv_W2)) rfl ?_
      refine mt_runs 1 (f' := (21, [some (.retAddr 0), some (.ref 0), some (.ref 387), some (.int 6)], [.int 6, .int 6], mv_W2)) rfl ?_
      refine mt_runs 1 (f' := (23, [some (.retAddr 0), some (.ref 0), some (.ref 387), some (.int 6)], [.int 6, .int 6, .int 6], mv_W2)) rfl ?_
      refine mt_runs 1 (f' := (24, [some (.retAddr 0), some (.ref 0), some (.ref 387), some (.int 6)], [.int 0, .int 6], mv_W2)) rfl ?_
      refine mt_runs 1 (f' := (964, [some (.retAddr 0), some (.ref 0), some (.ref 387), some (.int 6)], [], mv_W2)) rfl ?_
      refine mt_runs 1 (f' := (965, [some (.retAddr 0), some (.ref 0), some (.ref 387), some (.int 6)], [.int 1], mv_W2)) rfl ?_
      refine mt_ret rfl rfl ?_
      exact ⟨rfl, Nat.le_of_ble_eq_true rfl, Nat.le_of_ble_eq_true rfl⟩
    · exfalso
      omega
  · refine mt_runs 4 (f' := (12, [some (.ref 0), some (.int x1)], [.int 0, .int x1], mv_W2)) rfl ?_
    refine mu_icmp (tgt := 17) rfl (by decide) (fun (c3 : x1.toInt ≤ 0) => ?_) (fun (c3 : ¬ (x1.toInt ≤ 0)) => ?_)
    · refine mt_runs 5 (f' := (26, [some (.ref 0), some (.int x1)], [.int 1], (mm_set mv_W2 1 (.inr 1, [.ref 2, .int x1, .ref 3, .ref 4, .ref 5, .int 0, .ref 6])))) rfl ?_
      refine mt_ret rfl rfl ?_
      refine mt_runs 1 (f' := (237, [some (.retAddr 0), some (.ref 0), some (.ref 387), some (.int 0)], [.ref 387, .int 1], (mm_set mv_W2 1 (.inr 1, [.ref 2, .int x1, .ref 3, .ref 4, .ref 5, .int 0, .ref 6])))) rfl ?_
      refine mt_runs 1 (f' := (238, [some (.retAddr 0), some (.ref 0), some (.ref 387), some (.int 0)], [.retAddr 0, .ref 387, .int 1], (mm_set mv_W2 1 (.inr 1, [.ref 2, .int x1, .ref 3, .ref 4, .ref 5, .int 0, .ref 6])))) rfl ?_
      refine mt_runs 1 (f' := (239, [some (.retAddr 0), some (.ref 0), some (.ref 387), some (.int 0)], [.int 0, .retAddr 0, .ref 387, .int 1], (mm_set mv_W2 1 (.inr 1, [.ref 2, .int x1, .ref 3, .ref 4, .ref 5, .int 0, .ref 6])))) rfl ?_
      refine mt_runs 1 (f' := (240, [some (.retAddr 0), some (.ref 0), some (.ref 387), some (.int 0)], [.int 1, .int 0, .retAddr 0, .ref 387, .int 1], (mm_set mv_W2 1 (.inr 1, [.ref 2, .int x1, .ref 3, .ref 4, .ref 5, .int 0, .ref 6])))) rfl ?_
      refine mt_runs 1 (f' := (241, [some (.retAddr 0), some (.ref 0), some (.ref 387), some (.int 0)], [.int 1, .retAddr 0, .ref 387, .int 1], (mm_set mv_W2 1 (.inr 1, [.ref 2, .int x1, .ref 3, .ref 4, .ref 5, .int 0, .ref 6])))) rfl ?_
      refine mt_runs 1 (f' := (242, [some (.retAddr 0), some (.ref 0), some (.ref 387), some (.int 0)], [.int x1, .ref 387, .int 1], (mm_set mv_W2 1 (.inr 1, [.ref 2, .int x1, .ref 3, .ref 4, .ref 5, .int 0, .ref 6])))) rfl ?_
      refine mt_call rfl (fun _ => rfl) ⟨Nat.le_of_ble_eq_true rfl, Nat.le_of_ble_eq_true rfl, rfl⟩ (Nat.le_of_ble_eq_true rfl) ?_
      refine mt_runs 4 (f' := (6, [some (.ref 387), some (.int x1)], [.int 0, .int 0, .int x1], (mm_set mv_W2 1 (.inr 1, [.ref 2, .int x1, .ref 3, .ref 4, .ref 5, .int 0, .ref 6])))) rfl ?_
      refine mt_call rfl (fun _ => rfl) ⟨Nat.le_of_ble_eq_true rfl, Nat.le_of_ble_eq_true rfl, rfl⟩ (Nat.le_of_ble_eq_true rfl) ?_
      refine mt_runs 2 (f' := (2, [some (.int x1), some (.int 0), some (.int 0)], [.int 0, .int x1], (mm_set mv_W2 1 (.inr 1, [.ref 2, .int x1, .ref 3, .ref 4, .ref 5, .int 0, .ref 6])))) rfl ?_
      refine mu_icmp (tgt := 14) rfl (by decide) (fun (c4 : x1.toInt < 0) => ?_) (fun (c4 : ¬ (x1.toInt < 0)) => ?_)
      · exfalso
        omega
      · refine mt_runs 2 (f' := (7, [some (.int x1), some (.int 0), some (.int 0)], [.int 0, .int x1], (mm_set mv_W2 1 (.inr 1, [.ref 2, .int x1, .ref 3, .ref 4, .ref 5, .int 0, .ref 6])))) rfl ?_
        refine mu_icmp (tgt := 14) rfl (by decide) (fun (c5 : 0 < x1.toInt) => ?_) (fun (c5 : ¬ (0 < x1.toInt)) => ?_)
        · exfalso
          omega
        · refine mt_runs 2 (f' := (15, [some (.int x1), some (.int 0), some (.int 0)], [.int 1], (mm_set mv_W2 1 (.inr 1, [.ref 2, .int x1, .ref 3, .ref 4, .ref 5, .int 0, .ref 6])))) rfl ?_
          refine mt_ret rfl rfl ?_
          refine mt_runs 5 (f' := (20, [some (.ref 387), some (.int x1)], [.int 1], (mm_set (mm_set mv_W2 1 (.inr 1, [.ref 2, .int x1, .ref 3, .ref 4, .ref 5, .int 0, .ref 6])) 387 (.inr 13, [.ref 388, .int x1, .int 0, .int 0, .int 0, .int 0, .ref 389, .int 0, .ref 390, .int 0, .long 0, .int 0, .int 0, .int 0, .int (-1), .ref 391, .int 0, .int 0, .int 0, .int 0, .int 0, .int 0, .int 0, .ref 392, .int 0, .int 0, .int 0, .int 0, .int (-1), .int (-1), .int (-1), .ref 393, .ref 394, .int 0, .ref 395, .ref 396, .ref 397, .ref 398, .ref 399, .int 0, .int 0, .int 0, .int 0, .ref 400, .ref 401, .ref 402, .ref 403, .ref 404, .ref 405, .ref 406, .ref 407, .ref 408, .int 0, .ref 409, .int 0, .int 0, .int 0, .int 0, .int 0, .int 0, .int 0, .ref 410, .ref 411, .ref 412, .ref 413, .ref 414, .int 0, .ref 415, .ref 416, .ref 417, .ref 418, .ref 419, .ref 420, .ref 421, .ref 422, .ref 423, .ref 424, .ref 425, .ref 426, .ref 427, .ref 428, .ref 429, .int 0, .int (-1), .int (-1), .ref 430, .ref 431, .ref 432, .ref 433, .ref 434, .ref 435, .ref 436, .ref 437, .ref 438, .ref 439])))) rfl ?_
          refine mt_ret rfl rfl ?_
          refine mt_runs 1 (f' := (958, [some (.retAddr 0), some (.ref 0), some (.ref 387), some (.int 0)], [], (mm_set (mm_set mv_W2 1 (.inr 1, [.ref 2, .int x1, .ref 3, .ref 4, .ref 5, .int 0, .ref 6])) 387 (.inr 13, [.ref 388, .int x1, .int 0, .int 0, .int 0, .int 0, .ref 389, .int 0, .ref 390, .int 0, .long 0, .int 0, .int 0, .int 0, .int (-1), .ref 391, .int 0, .int 0, .int 0, .int 0, .int 0, .int 0, .int 0, .ref 392, .int 0, .int 0, .int 0, .int 0, .int (-1), .int (-1), .int (-1), .ref 393, .ref 394, .int 0, .ref 395, .ref 396, .ref 397, .ref 398, .ref 399, .int 0, .int 0, .int 0, .int 0, .ref 400, .ref 401, .ref 402, .ref 403, .ref 404, .ref 405, .ref 406, .ref 407, .ref 408, .int 0, .ref 409, .int 0, .int 0, .int 0, .int 0, .int 0, .int 0, .int 0, .ref 410, .ref 411, .ref 412, .ref 413, .ref 414, .int 0, .ref 415, .ref 416, .ref 417, .ref 418, .ref 419, .ref 420, .ref 421, .ref 422, .ref 423, .ref 424, .ref 425, .ref 426, .ref 427, .ref 428, .ref 429, .int 0, .int (-1), .int (-1), .ref 430, .ref 431, .ref 432, .ref 433, .ref 434, .ref 435, .ref 436, .ref 437, .ref 438, .ref 439])))) rfl ?_
          refine mt_runs 1 (f' := (961, [some (.retAddr 0), some (.ref 0), some (.ref 387), some (.int 6)], [], (mm_set (mm_set mv_W2 1 (.inr 1, [.ref 2, .int x1, .ref 3, .ref 4, .ref 5, .int 0, .ref 6])) 387 (.inr 13, [.ref 388, .int x1, .int 0, .int 0, .int 0, .int 0, .ref 389, .int 0, .ref 390, .int 0, .long 0, .int 0, .int 0, .int 0, .int (-1), .ref 391, .int 0, .int 0, .int 0, .int 0, .int 0, .int 0, .int 0, .ref 392, .int 0, .int 0, .int 0, .int 0, .int (-1), .int (-1), .int (-1), .ref 393, .ref 394, .int 0, .ref 395, .ref 396, .ref 397, .ref 398, .ref 399, .int 0, .int 0, .int 0, .int 0, .ref 400, .ref 401, .ref 402, .ref 403, .ref 404, .ref 405, .ref 406, .ref 407, .ref 408, .int 0, .ref 409, .int 0, .int 0, .int 0, .int 0, .int 0, .int 0, .int 0, .ref 410, .ref 411, .ref 412, .ref 413, .ref 414, .int 0, .ref 415, .ref 416, .ref 417, .ref 418, .ref 419, .ref 420, .ref 421, .ref 422, .ref 423, .ref 424, .ref 425, .ref 426, .ref 427, .ref 428, .ref 429, .int 0, .int (-1), .int (-1), .ref 430, .ref 431, .ref 432, .ref 433, .ref 434, .ref 435, .ref 436, .ref 437, .ref 438, .ref 439])))) rfl ?_
          refine mt_runs 1 (f' := (18, [some (.retAddr 0), some (.ref 0), some (.ref 387), some (.int 6)], [], (mm_set (mm_set mv_W2 1 (.inr 1, [.ref 2, .int x1, .ref 3, .ref 4, .ref 5, .int 0, .ref 6])) 387 (.inr 13, [.ref 388, .int x1, .int 0, .int 0, .int 0, .int 0, .ref 389, .int 0, .ref 390, .int 0, .long 0, .int 0, .int 0, .int 0, .int (-1), .ref 391, .int 0, .int 0, .int 0, .int 0, .int 0, .int 0, .int 0, .ref 392, .int 0, .int 0, .int 0, .int 0, .int (-1), .int (-1), .int (-1), .ref 393, .ref 394, .int 0, .ref 395, .ref 396, .ref 397, .ref 398, .ref 399, .int 0, .int 0, .int 0, .int 0, .ref 400, .ref 401, .ref 402, .ref 403, .ref 404, .ref 405, .ref 406, .ref 407, .ref 408, .int 0, .ref 409, .int 0, .int 0, .int 0, .int 0, .int 0, .int 0, .int 0, .ref 410, .ref 411, .ref 412, .ref 413, .ref 414, .int 0, .ref 415, .ref 416, .ref 417, .ref 418, .ref 419, .ref 420, .ref 421, .ref 422, .ref 423, .ref 424, .ref 425, .ref 426, .ref 427, .ref 428, .ref 429, .int 0, .int (-1), .int (-1), .ref 430, .ref 431, .ref 432, .ref 433, .ref 434, .ref 435, .ref 436, .ref 437, .ref 438, .ref 439])))) rfl ?_
          refine mt_runs 1 (f' := (19, [some (.retAddr 0), some (.ref 0), some (.ref 387), some (.int 6)], [.int 6], (mm_set (mm_set mv_W2 1 (.inr 1, [.ref 2, .int x1, .ref 3, .ref 4, .ref 5, .int 0, .ref 6])) 387 (.inr 13, [.ref 388, .int x1, .int 0, .int 0, .int 0, .int 0, .ref 389, .int 0, .ref 390, .int 0, .long 0, .int 0, .int 0, .int 0, .int (-1), .ref 391, .int 0, .int 0, .int 0, .int 0, .int 0, .int 0, .int 0, .ref 392, .int 0, .int 0, .int 0, .int 0, .int (-1), .int (-1), .int (-1), .ref 393, .ref 394, .int 0, .ref 395, .ref 396, .ref 397, .ref 398, .ref 399, .int 0, .int 0, .int 0, .int 0, .ref 400, .ref 401, .ref 402, .ref 403, .ref 404, .ref 405, .ref 406, .ref 407, .ref 408, .int 0, .ref 409, .int 0, .int 0, .int 0, .int 0, .int 0, .int 0, .int 0, .ref 410, .ref 411, .ref 412, .ref 413, .ref 414, .int 0, .ref 415, .ref 416, .ref 417, .ref 418, .ref 419, .ref 420, .ref 421, .ref 422, .ref 423, .ref 424, .ref 425, .ref 426, .ref 427, .ref 428, .ref 429, .int 0, .int (-1), .int (-1), .ref 430, .ref 431, .ref 432, .ref 433, .ref 434, .ref 435, .ref 436, .ref 437, .ref 438, .ref 439])))) rfl ?_
          refine mt_runs 1 (f' := (20, [some (.retAddr 0), some (.ref 0), some (.ref 387), some (.int 6)], [.retAddr 0, .int 6], (mm_set (mm_set mv_W2 1 (.inr 1, [.ref 2, .int x1, .ref 3, .ref 4, .ref 5, .int 0, .ref 6])) 387 (.inr 13, [.ref 388, .int x1, .int 0, .int 0, .int 0, .int 0, .ref 389, .int 0, .ref 390, .int 0, .long 0, .int 0, .int 0, .int 0, .int (-1), .ref 391, .int 0, .int 0, .int 0, .int 0, .int 0, .int 0, .int 0, .ref 392, .int 0, .int 0, .int 0, .int 0, .int (-1), .int (-1), .int (-1), .ref 393, .ref 394, .int 0, .ref 395, .ref 396, .ref 397, .ref 398, .ref 399, .int 0, .int 0, .int 0, .int 0, .ref 400, .ref 401, .ref 402, .ref 403, .ref 404, .ref 405, .ref 406, .ref 407, .ref 408, .int 0, .ref 409, .int 0, .int 0, .int 0, .int 0, .int 0, .int 0, .int 0, .ref 410, .ref 411, .ref 412, .ref 413, .ref 414, .int 0, .ref 415, .ref 416, .ref 417, .ref 418, .ref 419, .ref 420, .ref 421, .ref 422, .ref 423, .ref 424, .ref 425, .ref 426, .ref 427, .ref 428, .ref 429, .int 0, .int (-1), .int (-1), .ref 430, .ref 431, .ref 432, .ref 433, .ref 434, .ref 435, .ref 436, .ref 437, .ref 438, .ref 439])))) rfl ?_
          refine mt_runs 1 (f' := (21, [some (.retAddr 0), some (.ref 0), some (.ref 387), some (.int 6)], [.int 6, .int 6], (mm_set (mm_set mv_W2 1 (.inr 1, [.ref 2, .int x1, .ref 3, .ref 4, .ref 5, .int 0, .ref 6])) 387 (.inr 13, [.ref 388, .int x1, .int 0, .int 0, .int 0, .int 0, .ref 389, .int 0, .ref 390, .int 0, .long 0, .int 0, .int 0, .int 0, .int (-1), .ref 391, .int 0, .int 0, .int 0, .int 0, .int 0, .int 0, .int 0, .ref 392, .int 0, .int 0, .int 0, .int 0, .int (-1), .int (-1), .int (-1), .ref 393, .ref 394, .int 0, .ref 395, .ref 396, .ref 397, .ref 398, .ref 399, .int 0, .int 0, .int 0, .int 0, .ref 400, .ref 401, .ref 402, .ref 403, .ref 404, .ref 405, .ref 406, .ref 407, .ref 408, .int 0, .ref 409, .int 0, .int 0, .int 0, .int 0, .int 0, .int 0, .int 0, .ref 410, .ref 411, .ref 412, .ref 413, .ref 414, .int 0, .ref 415, .ref 416, .ref 417, .ref 418, .ref 419, .ref 420, .ref 421, .ref 422, .ref 423, .ref 424, .ref 425, .ref 426, .ref 427, .ref 428, .ref 429, .int 0, .int (-1), .int (-1), .ref 430, .ref 431, .ref 432, .ref 433, .ref 434, .ref 435, .ref 436, .ref 437, .ref 438, .ref 439])))) rfl ?_
          refine mt_runs 1 (f' := (23, [some (.retAddr 0), some (.ref 0), some (.ref 387), some (.int 6)], [.int 6, .int 6, .int 6], (mm_set (mm_set mv_W2 1 (.inr 1, [.ref 2, .int x1, .ref 3, .ref 4, .ref 5, .int 0, .ref 6])) 387 (.inr 13, [.ref 388, .int x1, .int 0, .int 0, .int 0, .int 0, .ref 389, .int 0, .ref 390, .int 0, .long 0, .int 0, .int 0, .int 0, .int (-1), .ref 391, .int 0, .int 0, .int 0, .int 0, .int 0, .int 0, .int 0, .ref 392, .int 0, .int 0, .int 0, .int 0, .int (-1), .int (-1), .int (-1), .ref 393, .ref 394, .int 0, .ref 395, .ref 396, .ref 397, .ref 398, .ref 399, .int 0, .int 0, .int 0, .int 0, .ref 400, .ref 401, .ref 402, .ref 403, .ref 404, .ref 405, .ref 406, .ref 407, .ref 408, .int 0, .ref 409, .int 0, .int 0, .int 0, .int 0, .int 0, .int 0, .int 0, .ref 410, .ref 411, .ref 412, .ref 413, .ref 414, .int 0, .ref 415, .ref 416, .ref 417, .ref 418, .ref 419, .ref 420, .ref 421, .ref 422, .ref 423, .ref 424, .ref 425, .ref 426, .ref 427, .ref 428, .ref 429, .int 0, .int (-1), .int (-1), .ref 430, .ref 431, .ref 432, .ref 433, .ref 434, .ref 435, .ref 436, .ref 437, .ref 438, .ref 439])))) rfl ?_
          refine mt_runs 1 (f' := (24, [some (.retAddr 0), some (.ref 0), some (.ref 387), some (.int 6)], [.int 0, .int 6], (mm_set (mm_set mv_W2 1 (.inr 1, [.ref 2, .int x1, .ref 3, .ref 4, .ref 5, .int 0, .ref 6])) 387 (.inr 13, [.ref 388, .int x1, .int 0, .int 0, .int 0, .int 0, .ref 389, .int 0, .ref 390, .int 0, .long 0, .int 0, .int 0, .int 0, .int (-1), .ref 391, .int 0, .int 0, .int 0, .int 0, .int 0, .int 0, .int 0, .ref 392, .int 0, .int 0, .int 0, .int 0, .int (-1), .int (-1), .int (-1), .ref 393, .ref 394, .int 0, .ref 395, .ref 396, .ref 397, .ref 398, .ref 399, .int 0, .int 0, .int 0, .int 0, .ref 400, .ref 401, .ref 402, .ref 403, .ref 404, .ref 405, .ref 406, .ref 407, .ref 408, .int 0, .ref 409, .int 0, .int 0, .int 0, .int 0, .int 0, .int 0, .int 0, .ref 410, .ref 411, .ref 412, .ref 413, .ref 414, .int 0, .ref 415, .ref 416, .ref 417, .ref 418, .ref 419, .ref 420, .ref 421, .ref 422, .ref 423, .ref 424, .ref 425, .ref 426, .ref 427, .ref 428, .ref 429, .int 0, .int (-1), .int (-1), .ref 430, .ref 431, .ref 432, .ref 433, .ref 434, .ref 435, .ref 436, .ref 437, .ref 438, .ref 439])))) rfl ?_
          refine mt_runs 1 (f' := (964, [some (.retAddr 0), some (.ref 0), some (.ref 387), some (.int 6)], [], (mm_set (mm_set mv_W2 1 (.inr 1, [.ref 2, .int x1, .ref 3, .ref 4, .ref 5, .int 0, .ref 6])) 387 (.inr 13, [.ref 388, .int x1, .int 0, .int 0, .int 0, .int 0, .ref 389, .int 0, .ref 390, .int 0, .long 0, .int 0, .int 0, .int 0, .int (-1), .ref 391, .int 0, .int 0, .int 0, .int 0, .int 0, .int 0, .int 0, .ref 392, .int 0, .int 0, .int 0, .int 0, .int (-1), .int (-1), .int (-1), .ref 393, .ref 394, .int 0, .ref 395, .ref 396, .ref 397, .ref 398, .ref 399, .int 0, .int 0, .int 0, .int 0, .ref 400, .ref 401, .ref 402, .ref 403, .ref 404, .ref 405, .ref 406, .ref 407, .ref 408, .int 0, .ref 409, .int 0, .int 0, .int 0, .int 0, .int 0, .int 0, .int 0, .ref 410, .ref 411, .ref 412, .ref 413, .ref 414, .int 0, .ref 415, .ref 416, .ref 417, .ref 418, .ref 419, .ref 420, .ref 421, .ref 422, .ref 423, .ref 424, .ref 425, .ref 426, .ref 427, .ref 428, .ref 429, .int 0, .int (-1), .int (-1), .ref 430, .ref 431, .ref 432, .ref 433, .ref 434, .ref 435, .ref 436, .ref 437, .ref 438, .ref 439])))) rfl ?_
          refine mt_runs 1 (f' := (965, [some (.retAddr 0), some (.ref 0), some (.ref 387), some (.int 6)], [.int 1], (mm_set (mm_set mv_W2 1 (.inr 1, [.ref 2, .int x1, .ref 3, .ref 4, .ref 5, .int 0, .ref 6])) 387 (.inr 13, [.ref 388, .int x1, .int 0, .int 0, .int 0, .int 0, .ref 389, .int 0, .ref 390, .int 0, .long 0, .int 0, .int 0, .int 0, .int (-1), .ref 391, .int 0, .int 0, .int 0, .int 0, .int 0, .int 0, .int 0, .ref 392, .int 0, .int 0, .int 0, .int 0, .int (-1), .int (-1), .int (-1), .ref 393, .ref 394, .int 0, .ref 395, .ref 396, .ref 397, .ref 398, .ref 399, .int 0, .int 0, .int 0, .int 0, .ref 400, .ref 401, .ref 402, .ref 403, .ref 404, .ref 405, .ref 406, .ref 407, .ref 408, .int 0, .ref 409, .int 0, .int 0, .int 0, .int 0, .int 0, .int 0, .int 0, .ref 410, .ref 411, .ref 412, .ref 413, .ref 414, .int 0, .ref 415, .ref 416, .ref 417, .ref 418, .ref 419, .ref 420, .ref 421, .ref 422, .ref 423, .ref 424, .ref 425, .ref 426, .ref 427, .ref 428, .ref 429, .int 0, .int (-1), .int (-1), .ref 430, .ref 431, .ref 432, .ref 433, .ref 434, .ref 435, .ref 436, .ref 437, .ref 438, .ref 439])))) rfl ?_
          refine mt_ret rfl rfl ?_
          exact ⟨rfl, Nat.le_of_ble_eq_true rfl, Nat.le_of_ble_eq_true rfl⟩
    · refine mt_runs 1 (f' := (16, [some (.ref 0), some (.int x1)], [.int 0], mv_W2)) rfl ?_
      refine mt_ret rfl rfl ?_
      refine mt_runs 1 (f' := (237, [some (.retAddr 0), some (.ref 0), some (.ref 387), some (.int 0)], [.ref 387, .int 0], mv_W2)) rfl ?_
      refine mt_runs 1 (f' := (238, [some (.retAddr 0), some (.ref 0), some (.ref 387), some (.int 0)], [.retAddr 0, .ref 387, .int 0], mv_W2)) rfl ?_
      refine mt_runs 1 (f' := (239, [some (.retAddr 0), some (.ref 0), some (.ref 387), some (.int 0)], [.int 0, .retAddr 0, .ref 387, .int 0], mv_W2)) rfl ?_
      refine mt_runs 1 (f' := (240, [some (.retAddr 0), some (.ref 0), some (.ref 387), some (.int 0)], [.int 1, .int 0, .retAddr 0, .ref 387, .int 0], mv_W2)) rfl ?_
      refine mt_runs 1 (f' := (241, [some (.retAddr 0), some (.ref 0), some (.ref 387), some (.int 0)], [.int 1, .retAddr 0, .ref 387, .int 0], mv_W2)) rfl ?_
      refine mt_runs 1 (f' := (242, [some (.retAddr 0), some (.ref 0), some (.ref 387), some (.int 0)], [.int x1, .ref 387, .int 0], mv_W2)) rfl ?_
      refine mt_call rfl (fun _ => rfl) ⟨Nat.le_of_ble_eq_true rfl, Nat.le_of_ble_eq_true rfl, rfl⟩ (Nat.le_of_ble_eq_true rfl) ?_
      refine mt_runs 4 (f' := (6, [some (.ref 387), some (.int x1)], [.int 0, .int 0, .int x1], mv_W2)) rfl ?_
      refine mt_call rfl (fun _ => rfl) ⟨Nat.le_of_ble_eq_true rfl, Nat.le_of_ble_eq_true rfl, rfl⟩ (Nat.le_of_ble_eq_true rfl) ?_
      refine mt_runs 2 (f' := (2, [some (.int x1), some (.int 0), some (.int 0)], [.int 0, .int x1], mv_W2)) rfl ?_
      refine mu_icmp (tgt := 14) rfl (by decide) (fun (c6 : x1.toInt < 0) => ?_) (fun (c6 : ¬ (x1.toInt < 0)) => ?_)
      · exfalso
        omega
      · refine mt_runs 2 (f' := (7, [some (.int x1), some (.int 0), some (.int 0)], [.int 0, .int x1], mv_W2)) rfl ?_
        refine mu_icmp (tgt := 14) rfl (by decide) (fun (c7 : 0 < x1.toInt) => ?_) (fun (c7 : ¬ (0 < x1.toInt)) => ?_)
        · refine mt_runs 1 (f' := (15, [some (.int x1), some (.int 0), some (.int 0)], [.int 0], mv_W2)) rfl ?_
          refine mt_ret rfl rfl ?_
          refine mt_runs 2 (f' := (13, [some (.ref 387), some (.int x1)], [.int 0], mv_W2)) rfl ?_
          refine mt_ret rfl rfl ?_
          refine mt_runs 1 (f' := (958, [some (.retAddr 0), some (.ref 0), some (.ref 387), some (.int 0)], [], mv_W2)) rfl ?_
          refine mt_runs 1 (f' := (961, [some (.retAddr 0), some (.ref 0), some (.ref 387), some (.int 6)], [], mv_W2)) rfl ?_
          refine mt_runs 1 (f' := (18, [some (.retAddr 0), some (.ref 0), some (.ref 387), some (.int 6)], [], mv_W2)) rfl ?_
          refine mt_runs 1 (f' := (19, [some (.retAddr 0), some (.ref 0), some (.ref 387), some (.int 6)], [.int 6], mv_W2)) rfl ?_
          refine mt_runs 1 (f' := (20, [some (.retAddr 0), some (.ref 0), some (.ref 387), some (.int 6)], [.retAddr 0, .int 6], mv_W2)) rfl ?_
          refine mt_runs 1 (f' := (21, [some (.retAddr 0), some (.ref 0), some (.ref 387), some (.int 6)], [.int 6, .int 6], mv_W2)) rfl ?_
          refine mt_runs 1 (f' := (23, [some (.retAddr 0), some (.ref 0), some (.ref 387), some (.int 6)], [.int 6, .int 6, .int 6], mv_W2)) rfl ?_
          refine mt_runs 1 (f' := (24, [some (.retAddr 0), some (.ref 0), some (.ref 387), some (.int 6)], [.int 0, .int 6], mv_W2)) rfl ?_
          refine mt_runs 1 (f' := (964, [some (.retAddr 0), some (.ref 0), some (.ref 387), some (.int 6)], [], mv_W2)) rfl ?_
          refine mt_runs 1 (f' := (965, [some (.retAddr 0), some (.ref 0), some (.ref 387), some (.int 6)], [.int 1], mv_W2)) rfl ?_
          refine mt_ret rfl rfl ?_
          exact ⟨rfl, Nat.le_of_ble_eq_true rfl, Nat.le_of_ble_eq_true rfl⟩
        · exfalso
          omega
def mv_k0W : mmW := ((mm_ev mt_P0 100000 20 23 [.ref 0] mv_W2).getD (none, mv_W2)).2
set_option maxRecDepth 1000000 in
theorem mv_k0 : (mm_ev mt_P0 100000 20 23 [.ref 0] mv_W2).map (·.1) = some (some (.int (-1))) := by decide +kernel
theorem mv_k0e (xs : List Int32) : mm_ev (mt_P xs) 100000 20 23 [.ref 0] mv_W2 = some (some (.int (-1)), mv_k0W) := mt_ev0 xs (mv_val mv_k0)
def mv_k1W : mmW := ((mm_ev mt_P0 100000 20 235 [.ref 387] mv_k0W).getD (none, mv_W2)).2
set_option maxRecDepth 1000000 in
theorem mv_k1 : (mm_ev mt_P0 100000 20 235 [.ref 387] mv_k0W).map (·.1) = some (some (.int (-1))) := by decide +kernel
theorem mv_k1e (xs : List Int32) : mm_ev (mt_P xs) 100000 20 235 [.ref 387] mv_k0W = some (some (.int (-1)), mv_k1W) := mt_ev0 xs (mv_val mv_k1)
set_option maxRecDepth 1000000 in
theorem mv_k1Wc : mv_k1W.2.1 ≤ 600000 ∧ mv_k1W.2.2 ≤ 7302250 := by decide +kernel
set_option maxRecDepth 100000 in
set_option maxHeartbeats 4000000 in
theorem mv_op2 (x0 x1 x2 x3 x4 x5 : Int32) : mu_G (mt_P (mv_xs x0 x1 x2 x3 x4 x5)) 20 301 (250, [some (.retAddr 0), some (.ref 0), some (.ref 387), some (.int 0)], [], mv_W2) mv_Q := by
  refine mt_runs 1 (f' := (251, [some (.retAddr 0), some (.ref 0), some (.ref 387), some (.int 0)], [.ref 0], mv_W2)) rfl ?_
  refine mt_callE rfl (fun _ => rfl) ⟨Nat.le_of_ble_eq_true rfl, Nat.le_of_ble_eq_true rfl, rfl⟩ (mv_k0e _) ?_
  refine mt_runs 1 (f' := (255, [some (.retAddr 0), some (.ref 0), some (.ref 387), some (.int 0)], [.ref 387, .int (-1)], mv_k0W)) rfl ?_
  refine mt_callE rfl (fun _ => rfl) ⟨Nat.le_of_ble_eq_true rfl, Nat.le_of_ble_eq_true rfl, rfl⟩ (mv_k1e _) ?_
  refine mt_runs 1 (f' := (958, [some (.retAddr 0), some (.ref 0), some (.ref 387), some (.int 0)], [], mv_k1W)) rfl ?_
  refine mt_runs 1 (f' := (961, [some (.retAddr 0), some (.ref 0), some (.ref 387), some (.int 6)], [], mv_k1W)) rfl ?_
  refine mt_runs 1 (f' := (18, [some (.retAddr 0), some (.ref 0), some (.ref 387), some (.int 6)], [], mv_k1W)) rfl ?_
  refine mt_runs 1 (f' := (19, [some (.retAddr 0), some (.ref 0), some (.ref 387), some (.int 6)], [.int 6], mv_k1W)) rfl ?_
  refine mt_runs 1 (f' := (20, [some (.retAddr 0), some (.ref 0), some (.ref 387), some (.int 6)], [.retAddr 0, .int 6], mv_k1W)) rfl ?_
  refine mt_runs 1 (f' := (21, [some (.retAddr 0), some (.ref 0), some (.ref 387), some (.int 6)], [.int 6, .int 6], mv_k1W)) rfl ?_
  refine mt_runs 1 (f' := (23, [some (.retAddr 0), some (.ref 0), some (.ref 387), some (.int 6)], [.int 6, .int 6, .int 6], mv_k1W)) rfl ?_
  refine mt_runs 1 (f' := (24, [some (.retAddr 0), some (.ref 0), some (.ref 387), some (.int 6)], [.int 0, .int 6], mv_k1W)) rfl ?_
  refine mt_runs 1 (f' := (964, [some (.retAddr 0), some (.ref 0), some (.ref 387), some (.int 6)], [], mv_k1W)) rfl ?_
  refine mt_runs 1 (f' := (965, [some (.retAddr 0), some (.ref 0), some (.ref 387), some (.int 6)], [.int 1], mv_k1W)) rfl ?_
  refine mt_ret rfl rfl ?_
  exact ⟨rfl, mv_k1Wc⟩
def mv_k2W : mmW := ((mm_ev mt_P0 100000 20 41 [.ref 0] mv_W2).getD (none, mv_W2)).2
set_option maxRecDepth 1000000 in
theorem mv_k2 : (mm_ev mt_P0 100000 20 41 [.ref 0] mv_W2).map (·.1) = some (some (.int (-1))) := by decide +kernel
theorem mv_k2e (xs : List Int32) : mm_ev (mt_P xs) 100000 20 41 [.ref 0] mv_W2 = some (some (.int (-1)), mv_k2W) := mt_ev0 xs (mv_val mv_k2)
def mv_k3W : mmW := ((mm_ev mt_P0 100000 20 183 [.ref 387] mv_k2W).getD (none, mv_W2)).2
set_option maxRecDepth 1000000 in
theorem mv_k3 : (mm_ev mt_P0 100000 20 183 [.ref 387] mv_k2W).map (·.1) = some (some (.int (-1))) := by decide +kernel
theorem mv_k3e (xs : List Int32) : mm_ev (mt_P xs) 100000 20 183 [.ref 387] mv_k2W = some (some (.int (-1)), mv_k3W) := mt_ev0 xs (mv_val mv_k3)
set_option maxRecDepth 1000000 in
theorem mv_k3Wc : mv_k3W.2.1 ≤ 600000 ∧ mv_k3W.2.2 ≤ 7302250 := by decide +kernel
set_option maxRecDepth 100000 in
set_option maxHeartbeats 4000000 in
theorem mv_op3 (x0 x1 x2 x3 x4 x5 : Int32) : mu_G (mt_P (mv_xs x0 x1 x2 x3 x4 x5)) 20 301 (263, [some (.retAddr 0), some (.ref 0), some (.ref 387), some (.int 0)], [], mv_W2) mv_Q := by
  refine mt_runs 1 (f' := (264, [some (.retAddr 0), some (.ref 0), some (.ref 387), some (.int 0)], [.ref 0], mv_W2)) rfl ?_
  refine mt_callE rfl (fun _ => rfl) ⟨Nat.le_of_ble_eq_true rfl, Nat.le_of_ble_eq_true rfl, rfl⟩ (mv_k2e _) ?_
  refine mt_runs 1 (f' := (268, [some (.retAddr 0), some (.ref 0), some (.ref 387), some (.int 0)], [.ref 387, .int (-1)], mv_k2W)) rfl ?_
  refine mt_callE rfl (fun _ => rfl) ⟨Nat.le_of_ble_eq_true rfl, Nat.le_of_ble_eq_true rfl, rfl⟩ (mv_k3e _) ?_
  refine mt_runs 1 (f' := (958, [some (.retAddr 0), some (.ref 0), some (.ref 387), some (.int 0)], [], mv_k3W)) rfl ?_
  refine mt_runs 1 (f' := (961, [some (.retAddr 0), some (.ref 0), some (.ref 387), some (.int 6)], [], mv_k3W)) rfl ?_
  refine mt_runs 1 (f' := (18, [some (.retAddr 0), some (.ref 0), some (.ref 387), some (.int 6)], [], mv_k3W)) rfl ?_
  refine mt_runs 1 (f' := (19, [some (.retAddr 0), some (.ref 0), some (.ref 387), some (.int 6)], [.int 6], mv_k3W)) rfl ?_
  refine mt_runs 1 (f' := (20, [some (.retAddr 0), some (.ref 0), some (.ref 387), some (.int 6)], [.retAddr 0, .int 6], mv_k3W)) rfl ?_
  refine mt_runs 1 (f' := (21, [some (.retAddr 0), some (.ref 0), some (.ref 387), some (.int 6)], [.int 6, .int 6], mv_k3W)) rfl ?_
  refine mt_runs 1 (f' := (23, [some (.retAddr 0), some (.ref 0), some (.ref 387), some (.int 6)], [.int 6, .int 6, .int 6], mv_k3W)) rfl ?_
  refine mt_runs 1 (f' := (24, [some (.retAddr 0), some (.ref 0), some (.ref 387), some (.int 6)], [.int 0, .int 6], mv_k3W)) rfl ?_
  refine mt_runs 1 (f' := (964, [some (.retAddr 0), some (.ref 0), some (.ref 387), some (.int 6)], [], mv_k3W)) rfl ?_
  refine mt_runs 1 (f' := (965, [some (.retAddr 0), some (.ref 0), some (.ref 387), some (.int 6)], [.int 1], mv_k3W)) rfl ?_
  refine mt_ret rfl rfl ?_
  exact ⟨rfl, mv_k3Wc⟩
def mv_k4W : mmW := ((mm_ev mt_P0 100000 20 92 [.ref 0] mv_W2).getD (none, mv_W2)).2
set_option maxRecDepth 1000000 in
theorem mv_k4 : (mm_ev mt_P0 100000 20 92 [.ref 0] mv_W2).map (·.1) = some (some (.int (-1))) := by decide +kernel
theorem mv_k4e (xs : List Int32) : mm_ev (mt_P xs) 100000 20 92 [.ref 0] mv_W2 = some (some (.int (-1)), mv_k4W) := mt_ev0 xs (mv_val mv_k4)
def mv_k5W : mmW := ((mm_ev mt_P0 100000 20 227 [.ref 387] mv_k4W).getD (none, mv_W2)).2
set_option maxRecDepth 1000000 in
theorem mv_k5 : (mm_ev mt_P0 100000 20 227 [.ref 387] mv_k4W).map (·.1) = some (some (.int (-1))) := by decide +kernel
theorem mv_k5e (xs : List Int32) : mm_ev (mt_P xs) 100000 20 227 [.ref 387] mv_k4W = some (some (.int (-1)), mv_k5W) := mt_ev0 xs (mv_val mv_k5)
set_option maxRecDepth 1000000 in
theorem mv_k5Wc : mv_k5W.2.1 ≤ 600000 ∧ mv_k5W.2.2 ≤ 7302250 := by decide +kernel
set_option maxRecDepth 100000 in
set_option maxHeartbeats 4000000 in
theorem mv_op4 (x0 x1 x2 x3 x4 x5 : Int32) : mu_G (mt_P (mv_xs x0 x1 x2 x3 x4 x5)) 20 301 (276, [some (.retAddr 0), some (.ref 0), some (.ref 387), some (.int 0)], [], mv_W2) mv_Q := by
  refine mt_runs 1 (f' := (277, [some (.retAddr 0), some (.ref 0), some (.ref 387), some (.int 0)], [.ref 0], mv_W2)) rfl ?_
  refine mt_callE rfl (fun _ => rfl) ⟨Nat.le_of_ble_eq_true rfl, Nat.le_of_ble_eq_true rfl, rfl⟩ (mv_k4e _) ?_
  refine mt_runs 1 (f' := (281, [some (.retAddr 0), some (.ref 0), some (.ref 387), some (.int 0)], [.ref 387, .int (-1)], mv_k4W)) rfl ?_
  refine mt_callE rfl (fun _ => rfl) ⟨Nat.le_of_ble_eq_true rfl, Nat.le_of_ble_eq_true rfl, rfl⟩ (mv_k5e _) ?_
  refine mt_runs 1 (f' := (958, [some (.retAddr 0), some (.ref 0), some (.ref 387), some (.int 0)], [], mv_k5W)) rfl ?_
  refine mt_runs 1 (f' := (961, [some (.retAddr 0), some (.ref 0), some (.ref 387), some (.int 6)], [], mv_k5W)) rfl ?_
  refine mt_runs 1 (f' := (18, [some (.retAddr 0), some (.ref 0), some (.ref 387), some (.int 6)], [], mv_k5W)) rfl ?_
  refine mt_runs 1 (f' := (19, [some (.retAddr 0), some (.ref 0), some (.ref 387), some (.int 6)], [.int 6], mv_k5W)) rfl ?_
  refine mt_runs 1 (f' := (20, [some (.retAddr 0), some (.ref 0), some (.ref 387), some (.int 6)], [.retAddr 0, .int 6], mv_k5W)) rfl ?_
  refine mt_runs 1 (f' := (21, [some (.retAddr 0), some (.ref 0), some (.ref 387), some (.int 6)], [.int 6, .int 6], mv_k5W)) rfl ?_
  refine mt_runs 1 (f' := (23, [some (.retAddr 0), some (.ref 0), some (.ref 387), some (.int 6)], [.int 6, .int 6, .int 6], mv_k5W)) rfl ?_
  refine mt_runs 1 (f' := (24, [some (.retAddr 0), some (.ref 0), some (.ref 387), some (.int 6)], [.int 0, .int 6], mv_k5W)) rfl ?_
  refine mt_runs 1 (f' := (964, [some (.retAddr 0), some (.ref 0), some (.ref 387), some (.int 6)], [], mv_k5W)) rfl ?_
  refine mt_runs 1 (f' := (965, [some (.retAddr 0), some (.ref 0), some (.ref 387), some (.int 6)], [.int 1], mv_k5W)) rfl ?_
  refine mt_ret rfl rfl ?_
  exact ⟨rfl, mv_k5Wc⟩
set_option maxRecDepth 100000 in
set_option maxHeartbeats 4000000 in
theorem mv_op5 (x0 x1 x2 x3 x4 x5 : Int32) : mu_G (mt_P (mv_xs x0 x1 x2 x3 x4 x5)) 20 301 (289, [some (.retAddr 0), some (.ref 0), some (.ref 387), some (.int 0)], [], mv_W2) mv_Q := by
  refine mt_runs 1 (f' := (290, [some (.retAddr 0), some (.ref 0), some (.ref 387), some (.int 0)], [.ref 0], mv_W2)) rfl ?_
  refine mt_runs 1 (f' := (291, [some (.retAddr 0), some (.ref 0), some (.ref 387), some (.int 0)], [.retAddr 0, .ref 0], mv_W2)) rfl ?_
  refine mt_runs 1 (f' := (292, [some (.retAddr 0), some (.ref 0), some (.ref 387), some (.int 0)], [.int 0, .retAddr 0, .ref 0], mv_W2)) rfl ?_
  refine mt_runs 1 (f' := (293, [some (.retAddr 0), some (.ref 0), some (.ref 387), some (.int 0)], [.int 1, .int 0, .retAddr 0, .ref 0], mv_W2)) rfl ?_
  refine mt_runs 1 (f' := (294, [some (.retAddr 0), some (.ref 0), some (.ref 387), some (.int 0)], [.int 1, .retAddr 0, .ref 0], mv_W2)) rfl ?_
  refine mt_runs 1 (f' := (295, [some (.retAddr 0), some (.ref 0), some (.ref 387), some (.int 0)], [.int x1, .ref 0], mv_W2)) rfl ?_
  refine mt_call rfl (fun _ => rfl) ⟨Nat.le_of_ble_eq_true rfl, Nat.le_of_ble_eq_true rfl, rfl⟩ (Nat.le_of_ble_eq_true rfl) ?_
  refine mt_runs 1 (f' := (1, [some (.ref 0), some (.int x1)], [.int x1], mv_W2)) rfl ?_
  by_cases c1 : x1 = 0
  · subst c1
    refine mt_runs 4 (f' := (35, [some (.ref 0), some (.int 0)], [.int 0], mv_W2)) rfl ?_
    refine mt_ret rfl rfl ?_
    refine mt_runs 1 (f' := (299, [some (.retAddr 0), some (.ref 0), some (.ref 387), some (.int 0)], [.ref 387, .int 0], mv_W2)) rfl ?_
    refine mt_runs 1 (f' := (300, [some (.retAddr 0), some (.ref 0), some (.ref 387), some (.int 0)], [.retAddr 0, .ref 387, .int 0], mv_W2)) rfl ?_
    refine mt_runs 1 (f' := (301, [some (.retAddr 0), some (.ref 0), some (.ref 387), some (.int 0)], [.int 0, .retAddr 0, .ref 387, .int 0], mv_W2)) rfl ?_
    refine mt_runs 1 (f' := (302, [some (.retAddr 0), some (.ref 0), some (.ref 387), some (.int 0)], [.int 1, .int 0, .retAddr 0, .ref 387, .int 0], mv_W2)) rfl ?_
    refine mt_runs 1 (f' := (303, [some (.retAddr 0), some (.ref 0), some (.ref 387), some (.int 0)], [.int 1, .retAddr 0, .ref 387, .int 0], mv_W2)) rfl ?_
    refine mt_runs 1 (f' := (304, [some (.retAddr 0), some (.ref 0), some (.ref 387), some (.int 0)], [.int 0, .ref 387, .int 0], mv_W2)) rfl ?_
    refine mt_call rfl (fun _ => rfl) ⟨Nat.le_of_ble_eq_true rfl, Nat.le_of_ble_eq_true rfl, rfl⟩ (Nat.le_of_ble_eq_true rfl) ?_
    refine mt_runs 5 (f' := (24, [some (.ref 387), some (.int 0)], [.int 0], mv_W2)) rfl ?_
    refine mt_ret rfl rfl ?_
    refine mt_runs 1 (f' := (958, [some (.retAddr 0), some (.ref 0), some (.ref 387), some (.int 0)], [], mv_W2)) rfl ?_
    refine mt_runs 1 (f' := (961, [some (.retAddr 0), some (.ref 0), some (.ref 387), some (.int 6)], [], mv_W2)) rfl ?_
    refine mt_runs 1 (f' := (18, [some (.retAddr 0), some (.ref 0), some (.ref 387), some (.int 6)], [], mv_W2)) rfl ?_
    refine mt_runs 1 (f' := (19, [some (.retAddr 0), some (.ref 0), some (.ref 387), some (.int 6)], [.int 6], mv_W2)) rfl ?_
    refine mt_runs 1 (f' := (20, [some (.retAddr 0), some (.ref 0), some (.ref 387), some (.int 6)], [.retAddr 0, .int 6], mv_W2)) rfl ?_
    refine mt_runs 1 (f' := (21, [some (.retAddr 0), some (.ref 0), some (.ref 387), some (.int 6)], [.int 6, .int 6], mv_W2)) rfl ?_
    refine mt_runs 1 (f' := (23, [some (.retAddr 0), some (.ref 0), some (.ref 387), some (.int 6)], [.int 6, .int 6, .int 6], mv_W2)) rfl ?_
    refine mt_runs 1 (f' := (24, [some (.retAddr 0), some (.ref 0), some (.ref 387), some (.int 6)], [.int 0, .int 6], mv_W2)) rfl ?_
    refine mt_runs 1 (f' := (964, [some (.retAddr 0), some (.ref 0), some (.ref 387), some (.int 6)], [], mv_W2)) rfl ?_
    refine mt_runs 1 (f' := (965, [some (.retAddr 0), some (.ref 0), some (.ref 387), some (.int 6)], [.int 1], mv_W2)) rfl ?_
    refine mt_ret rfl rfl ?_
    exact ⟨rfl, Nat.le_of_ble_eq_true rfl, Nat.le_of_ble_eq_true rfl⟩
  have c1 : ¬ (x1.toInt = 0) := mu_nei c1
  by_cases c2 : x1 = 1
  · subst c2
    refine mt_runs 4 (f' := (43, [some (.ref 0), some (.int 1)], [.int (-1)], mv_W2)) rfl ?_
    refine mt_ret rfl rfl ?_
    refine mt_runs 1 (f' := (299, [some (.retAddr 0), some (.ref 0), some (.ref 387), some (.int 0)], [.ref 387, .int (-1)], mv_W2)) rfl ?_
    refine mt_runs 1 (f' := (300, [some (.retAddr 0), some (.ref 0), some (.ref 387), some (.int 0)], [.retAddr 0, .ref 387, .int (-1)], mv_W2)) rfl ?_
    refine mt_runs 1 (f' := (301, [some (.retAddr 0), some (.ref 0), some (.ref 387), some (.int 0)], [.int 0, .retAddr 0, .ref 387, .int (-1)], mv_W2)) rfl ?_
    refine mt_runs 1 (f' := (302, [some (.retAddr 0), some (.ref 0), some (.ref 387), some (.int 0)], [.int 1, .int 0, .retAddr 0, .ref 387, .int (-1)], mv_W2)) rfl ?_
    refine mt_runs 1 (f' := (303, [some (.retAddr 0), some (.ref 0), some (.ref 387), some (.int 0)], [.int 1, .retAddr 0, .ref 387, .int (-1)], mv_W2)) rfl ?_
    refine mt_runs 1 (f' := (304, [some (.retAddr 0), some (.ref 0), some (.ref 387), some (.int 0)], [.int 1, .ref 387, .int (-1)], mv_W2)) rfl ?_
    refine mt_call rfl (fun _ => rfl) ⟨Nat.le_of_ble_eq_true rfl, Nat.le_of_ble_eq_true rfl, rfl⟩ (Nat.le_of_ble_eq_true rfl) ?_
    refine mt_runs 8 (f' := (24, [some (.ref 387), some (.int 1)], [.int (-1)], mv_W2)) rfl ?_
    refine mt_ret rfl rfl ?_
    refine mt_runs 1 (f' := (958, [some (.retAddr 0), some (.ref 0), some (.ref 387), some (.int 0)], [], mv_W2)) rfl ?_
    refine mt_runs 1 (f' := (961, [some (.retAddr 0), some (.ref 0), some (.ref 387), some (.int 6)], [], mv_W2)) rfl ?_
    refine mt_runs 1 (f' := (18, [some (.retAddr 0), some (.ref 0), some (.ref 387), some (.int 6)], [], mv_W2)) rfl ?_
    refine mt_runs 1 (f' := (19, [some (.retAddr 0), some (.ref 0), some (.ref 387), some (.int 6)], [.int 6], mv_W2)) rfl ?_
    refine mt_runs 1 (f' := (20, [some (.retAddr 0), some (.ref 0), some (.ref 387), some (.int 6)], [.retAddr 0, .int 6], mv_W2)) rfl ?_
    refine mt_runs 1 (f' := (21, [some (.retAddr 0), some (.ref 0), some (.ref 387), some (.int 6)], [.int 6, .int 6], mv_W2)) rfl ?_
    refine mt_runs 1 (f' := (23, [some (.retAddr 0), some (.ref 0), some (.ref 387), some (.int 6)], [.int 6, .int 6, .int 6], mv_W2)) rfl ?_
    refine mt_runs 1 (f' := (24, [some (.retAddr 0), some (.ref 0), some (.ref 387), some (.int 6)], [.int 0, .int 6], mv_W2)) rfl ?_
    refine mt_runs 1 (f' := (964, [some (.retAddr 0), some (.ref 0), some (.ref 387), some (.int 6)], [], mv_W2)) rfl ?_
    refine mt_runs 1 (f' := (965, [some (.retAddr 0), some (.ref 0), some (.ref 387), some (.int 6)], [.int 1], mv_W2)) rfl ?_
    refine mt_ret rfl rfl ?_
    exact ⟨rfl, Nat.le_of_ble_eq_true rfl, Nat.le_of_ble_eq_true rfl⟩
  have c2 : ¬ (x1.toInt = 1) := mu_nei c2
  refine mu_lswD (tgt := 44) rfl rfl (show (if (0 : Int) = x1.toInt then 27 else if (1 : Int) = x1.toInt then 35 else 43) = (43 : Int) by rw [if_neg (by omega), if_neg (by omega)]) (by decide) ?_
  refine mt_runs 1 (f' := (45, [some (.ref 0), some (.int x1)], [.int (-1)], mv_W2)) rfl ?_
  refine mt_ret rfl rfl ?_
  refine mt_runs 1 (f' := (299, [some (.retAddr 0), some (.ref 0), some (.ref 387), some (.int 0)], [.ref 387, .int (-1)], mv_W2)) rfl ?_
  refine mt_runs 1 (f' := (300, [some (.retAddr 0), some (.ref 0), some (.ref 387), some (.int 0)], [.retAddr 0, .ref 387, .int (-1)], mv_W2)) rfl ?_
  refine mt_runs 1 (f' := (301, [some (.retAddr 0), some (.ref 0), some (.ref 387), some (.int 0)], [.int 0, .retAddr 0, .ref 387, .int (-1)], mv_W2)) rfl ?_
  refine mt_runs 1 (f' := (302, [some (.retAddr 0), some (.ref 0), some (.ref 387), some (.int 0)], [.int 1, .int 0, .retAddr 0, .ref 387, .int (-1)], mv_W2)) rfl ?_
  refine mt_runs 1 (f' := (303, [some (.retAddr 0), some (.ref 0), some (.ref 387), some (.int 0)], [.int 1, .retAddr 0, .ref 387, .int (-1)], mv_W2)) rfl ?_
  refine mt_runs 1 (f' := (304, [some (.retAddr 0), some (.ref 0), some (.ref 387), some (.int 0)], [.int x1, .ref 387, .int (-1)], mv_W2)) rfl ?_
  refine mt_call rfl (fun _ => rfl) ⟨Nat.le_of_ble_eq_true rfl, Nat.le_of_ble_eq_true rfl, rfl⟩ (Nat.le_of_ble_eq_true rfl) ?_
  refine mt_runs 1 (f' := (1, [some (.ref 387), some (.int x1)], [.int x1], mv_W2)) rfl ?_
  refine mu_if (tgt := 11) rfl (by decide) (fun (c3 : ¬ x1.toInt = 0) => ?_) (fun (c3 : ¬ (¬ x1.toInt = 0)) => ?_)
  · refine mt_runs 2 (f' := (13, [some (.ref 387), some (.int x1)], [.int 1, .int x1], mv_W2)) rfl ?_
    refine mu_icmp (tgt := 23) rfl (by decide) (fun (c4 : ¬ x1.toInt = 1) => ?_) (fun (c4 : ¬ (¬ x1.toInt = 1)) => ?_)
    · refine mt_runs 1 (f' := (24, [some (.ref 387), some (.int x1)], [.int (-1)], mv_W2)) rfl ?_
      refine mt_ret rfl rfl ?_
      refine mt_runs 1 (f' := (958, [some (.retAddr 0), some (.ref 0), some (.ref 387), some (.int 0)], [], mv_W2)) rfl ?_
      refine mt_runs 1 (f' := (961, [some (.retAddr 0), some (.ref 0), some (.ref 387), some (.int 6)], [], mv_W2)) rfl ?_
      refine mt_runs 1 (f' := (18, [some (.retAddr 0), some (.ref 0), some (.ref 387), some (.int 6)], [], mv_W2)) rfl ?_
      refine mt_runs 1 (f' := (19, [some (.retAddr 0), some (.ref 0), some (.ref 387), some (.int 6)], [.int 6], mv_W2)) rfl ?_
      refine mt_runs 1 (f' := (20, [some (.retAddr 0), some (.ref 0), some (.ref 387), some (.int 6)], [.retAddr 0, .int 6], mv_W2)) rfl ?_
      refine mt_runs 1 (f' := (21, [some (.retAddr 0), some (.ref 0), some (.ref 387), some (.int 6)], [.int 6, .int 6], mv_W2)) rfl ?_
      refine mt_runs 1 (f' := (23, [some (.retAddr 0), some (.ref 0), some (.ref 387), some (.int 6)], [.int 6, .int 6, .int 6], mv_W2)) rfl ?_
      refine mt_runs 1 (f' := (24, [some (.retAddr 0), some (.ref 0), some (.ref 387), some (.int 6)], [.int 0, .int 6], mv_W2)) rfl ?_
      refine mt_runs 1 (f' := (964, [some (.retAddr 0), some (.ref 0), some (.ref 387), some (.int 6)], [], mv_W2)) rfl ?_
      refine mt_runs 1 (f' := (965, [some (.retAddr 0), some (.ref 0), some (.ref 387), some (.int 6)], [.int 1], mv_W2)) rfl ?_
      refine mt_ret rfl rfl ?_
      exact ⟨rfl, Nat.le_of_ble_eq_true rfl, Nat.le_of_ble_eq_true rfl⟩
    · exfalso
      omega
  · exfalso
    omega
def mv_k6W : mmW := ((mm_ev mt_P0 100000 20 98 [.ref 0] mv_W2).getD (none, mv_W2)).2
set_option maxRecDepth 1000000 in
theorem mv_k6 : (mm_ev mt_P0 100000 20 98 [.ref 0] mv_W2).map (·.1) = some (some (.int 0)) := by decide +kernel
theorem mv_k6e (xs : List Int32) : mm_ev (mt_P xs) 100000 20 98 [.ref 0] mv_W2 = some (some (.int 0), mv_k6W) := mt_ev0 xs (mv_val mv_k6)
def mv_k7W : mmW := ((mm_ev mt_P0 100000 20 238 [.ref 387] mv_k6W).getD (none, mv_W2)).2
set_option maxRecDepth 1000000 in
theorem mv_k7 : (mm_ev mt_P0 100000 20 238 [.ref 387] mv_k6W).map (·.1) = some (some (.int 0)) := by decide +kernel
theorem mv_k7e (xs : List Int32) : mm_ev (mt_P xs) 100000 20 238 [.ref 387] mv_k6W = some (some (.int 0), mv_k7W) := mt_ev0 xs (mv_val mv_k7)
set_option maxRecDepth 1000000 in
theorem mv_k7Wc : mv_k7W.2.1 ≤ 600000 ∧ mv_k7W.2.2 ≤ 7302250 := by decide +kernel
set_option maxRecDepth 100000 in
set_option maxHeartbeats 4000000 in
theorem mv_op6 (x0 x1 x2 x3 x4 x5 : Int32) : mu_G (mt_P (mv_xs x0 x1 x2 x3 x4 x5)) 20 301 (312, [some (.retAddr 0), some (.ref 0), some (.ref 387), some (.int 0)], [], mv_W2) mv_Q := by
  refine mt_runs 1 (f' := (313, [some (.retAddr 0), some (.ref 0), some (.ref 387), some (.int 0)], [.ref 0], mv_W2)) rfl ?_
  refine mt_callE rfl (fun _ => rfl) ⟨Nat.le_of_ble_eq_true rfl, Nat.le_of_ble_eq_true rfl, rfl⟩ (mv_k6e _) ?_
  refine mt_runs 1 (f' := (317, [some (.retAddr 0), some (.ref 0), some (.ref 387), some (.int 0)], [.ref 387, .int 0], mv_k6W)) rfl ?_
  refine mt_callE rfl (fun _ => rfl) ⟨Nat.le_of_ble_eq_true rfl, Nat.le_of_ble_eq_true rfl, rfl⟩ (mv_k7e _) ?_
  refine mt_runs 1 (f' := (958, [some (.retAddr 0), some (.ref 0), some (.ref 387), some (.int 0)], [], mv_k7W)) rfl ?_
  refine mt_runs 1 (f' := (961, [some (.retAddr 0), some (.ref 0), some (.ref 387), some (.int 6)], [], mv_k7W)) rfl ?_
  refine mt_runs 1 (f' := (18, [some (.retAddr 0), some (.ref 0), some (.ref 387), some (.int 6)], [], mv_k7W)) rfl ?_
  refine mt_runs 1 (f' := (19, [some (.retAddr 0), some (.ref 0), some (.ref 387), some (.int 6)], [.int 6], mv_k7W)) rfl ?_
  refine mt_runs 1 (f' := (20, [some (.retAddr 0), some (.ref 0), some (.ref 387), some (.int 6)], [.retAddr 0, .int 6], mv_k7W)) rfl ?_
  refine mt_runs 1 (f' := (21, [some (.retAddr 0), some (.ref 0), some (.ref 387), some (.int 6)], [.int 6, .int 6], mv_k7W)) rfl ?_
  refine mt_runs 1 (f' := (23, [some (.retAddr 0), some (.ref 0), some (.ref 387), some (.int 6)], [.int 6, .int 6, .int 6], mv_k7W)) rfl ?_
  refine mt_runs 1 (f' := (24, [some (.retAddr 0), some (.ref 0), some (.ref 387), some (.int 6)], [.int 0, .int 6], mv_k7W)) rfl ?_
  refine mt_runs 1 (f' := (964, [some (.retAddr 0), some (.ref 0), some (.ref 387), some (.int 6)], [], mv_k7W)) rfl ?_
  refine mt_runs 1 (f' := (965, [some (.retAddr 0), some (.ref 0), some (.ref 387), some (.int 6)], [.int 1], mv_k7W)) rfl ?_
  refine mt_ret rfl rfl ?_
  exact ⟨rfl, mv_k7Wc⟩
set_option maxRecDepth 100000 in
set_option maxHeartbeats 4000000 in
theorem mv_op7 (x0 x1 x2 x3 x4 x5 : Int32) : mu_G (mt_P (mv_xs x0 x1 x2 x3 x4 x5)) 20 301 (325, [some (.retAddr 0), some (.ref 0), some (.ref 387), some (.int 0)], [], mv_W2) mv_Q := by
  refine mt_runs 1 (f' := (326, [some (.retAddr 0), some (.ref 0), some (.ref 387), some (.int 0)], [.ref 0], mv_W2)) rfl ?_
  refine mt_runs 1 (f' := (327, [some (.retAddr 0), some (.ref 0), some (.ref 387), some (.int 0)], [.retAddr 0, .ref 0], mv_W2)) rfl ?_
  refine mt_runs 1 (f' := (328, [some (.retAddr 0), some (.ref 0), some (.ref 387), some (.int 0)], [.int 0, .retAddr 0, .ref 0], mv_W2)) rfl ?_
  refine mt_runs 1 (f' := (329, [some (.retAddr 0), some (.ref 0), some (.ref 387), some (.int 0)], [.int 1, .int 0, .retAddr 0, .ref 0], mv_W2)) rfl ?_
  refine mt_runs 1 (f' := (330, [some (.retAddr 0), some (.ref 0), some (.ref 387), some (.int 0)], [.int 1, .retAddr 0, .ref 0], mv_W2)) rfl ?_
  refine mt_runs 1 (f' := (331, [some (.retAddr 0), some (.ref 0), some (.ref 387), some (.int 0)], [.int x1, .ref 0], mv_W2)) rfl ?_
  refine mt_runs 1 (f' := (332, [some (.retAddr 0), some (.ref 0), some (.ref 387), some (.int 0)], [.retAddr 0, .int x1, .ref 0], mv_W2)) rfl ?_
  refine mt_runs 1 (f' := (333, [some (.retAddr 0), some (.ref 0), some (.ref 387), some (.int 0)], [.int 0, .retAddr 0, .int x1, .ref 0], mv_W2)) rfl ?_
  refine mt_runs 1 (f' := (334, [some (.retAddr 0), some (.ref 0), some (.ref 387), some (.int 0)], [.int 2, .int 0, .retAddr 0, .int x1, .ref 0], mv_W2)) rfl ?_
  refine mt_runs 1 (f' := (335, [some (.retAddr 0), some (.ref 0), some (.ref 387), some (.int 0)], [.int 2, .retAddr 0, .int x1, .ref 0], mv_W2)) rfl ?_
  refine mt_runs 1 (f' := (336, [some (.retAddr 0), some (.ref 0), some (.ref 387), some (.int 0)], [.int x2, .int x1, .ref 0], mv_W2)) rfl ?_
  refine mt_call rfl (fun _ => rfl) ⟨Nat.le_of_ble_eq_true rfl, Nat.le_of_ble_eq_true rfl, rfl⟩ (Nat.le_of_ble_eq_true rfl) ?_
  refine mt_runs 1 (f' := (1, [some (.ref 0), some (.int x1), some (.int x2), none], [.int x1], mv_W2)) rfl ?_
  refine mu_if (tgt := 15) rfl (by decide) (fun (c1 : x1.toInt < 0) => ?_) (fun (c1 : ¬ (x1.toInt < 0)) => ?_)
  · refine mt_runs 1 (f' := (16, [some (.ref 0), some (.int x1), some (.int x2), none], [.int (-1)], mv_W2)) rfl ?_
    refine mt_ret rfl rfl ?_
    refine mt_runs 1 (f' := (340, [some (.retAddr 0), some (.ref 0), some (.ref 387), some (.int 0)], [.ref 387, .int (-1)], mv_W2)) rfl ?_
    refine mt_runs 1 (f' := (341, [some (.retAddr 0), some (.ref 0), some (.ref 387), some (.int 0)], [.retAddr 0, .ref 387, .int (-1)], mv_W2)) rfl ?_
    refine mt_runs 1 (f' := (342, [some (.retAddr 0), some (.ref 0), some (.ref 387), some (.int 0)], [.int 0, .retAddr 0, .ref 387, .int (-1)], mv_W2)) rfl ?_
    refine mt_runs 1 (f' := (343, [some (.retAddr 0), some (.ref 0), some (.ref 387), some (.int 0)], [.int 1, .int 0, .retAddr 0, .ref 387, .int (-1)], mv_W2)) rfl ?_
    refine mt_runs 1 (f' := (344, [some (.retAddr 0), some (.ref 0), some (.ref 387), some (.int 0)], [.int 1, .retAddr 0, .ref 387, .int (-1)], mv_W2)) rfl ?_
    refine mt_runs 1 (f' := (345, [some (.retAddr 0), some (.ref 0), some (.ref 387), some (.int 0)], [.int x1, .ref 387, .int (-1)], mv_W2)) rfl ?_
    refine mt_runs 1 (f' := (346, [some (.retAddr 0), some (.ref 0), some (.ref 387), some (.int 0)], [.retAddr 0, .int x1, .ref 387, .int (-1)], mv_W2)) rfl ?_
    refine mt_runs 1 (f' := (347, [some (.retAddr 0), some (.ref 0), some (.ref 387), some (.int 0)], [.int 0, .retAddr 0, .int x1, .ref 387, .int (-1)], mv_W2)) rfl ?_
    refine mt_runs 1 (f' := (348, [some (.retAddr 0), some (.ref 0), some (.ref 387), some (.int 0)], [.int 2, .int 0, .retAddr 0, .int x1, .ref 387, .int (-1)], mv_W2)) rfl ?_
    refine mt_runs 1 (f' := (349, [some (.retAddr 0), some (.ref 0), some (.ref 387), some (.int 0)], [.int 2, .retAddr 0, .int x1, .ref 387, .int (-1)], mv_W2)) rfl ?_
    refine mt_runs 1 (f' := (350, [some (.retAddr 0), some (.ref 0), some (.ref 387), some (.int 0)], [.int x2, .int x1, .ref 387, .int (-1)], mv_W2)) rfl ?_
    refine mt_call rfl (fun _ => rfl) ⟨Nat.le_of_ble_eq_true rfl, Nat.le_of_ble_eq_true rfl, rfl⟩ (Nat.le_of_ble_eq_true rfl) ?_
    refine mt_runs 4 (f' := (4, [some (.ref 387), some (.int x1), some (.int x2)], [.int 0, .ref 387, .int 0, .int x1], mv_W2)) rfl ?_
    refine mt_call rfl (fun _ => rfl) ⟨Nat.le_of_ble_eq_true rfl, Nat.le_of_ble_eq_true rfl, rfl⟩ (Nat.le_of_ble_eq_true rfl) ?_
    refine mt_runs 6 (f' := (10, [some (.ref 387), some (.int 0)], [.int 0], mv_W2)) rfl ?_
    refine mt_ret rfl rfl ?_
    refine mt_runs 2 (f' := (9, [some (.ref 387), some (.int x1), some (.int x2)], [.int (-1), .int 0, .int x1], mv_W2)) rfl ?_
    refine mt_call rfl (fun _ => rfl) ⟨Nat.le_of_ble_eq_true rfl, Nat.le_of_ble_eq_true rfl, rfl⟩ (Nat.le_of_ble_eq_true rfl) ?_
    refine mt_runs 2 (f' := (2, [some (.int x1), some (.int 0), some (.int (-1))], [.int 0, .int x1], mv_W2)) rfl ?_
    refine mu_icmp (tgt := 14) rfl (by decide) (fun (c2 : x1.toInt < 0) => ?_) (fun (c2 : ¬ (x1.toInt < 0)) => ?_)
    · refine mt_runs 1 (f' := (15, [some (.int x1), some (.int 0), some (.int (-1))], [.int 0], mv_W2)) rfl ?_
      refine mt_ret rfl rfl ?_
      refine mt_runs 2 (f' := (16, [some (.ref 387), some (.int x1), some (.int x2)], [.int (-1)], mv_W2)) rfl ?_
      refine mt_ret rfl rfl ?_
      refine mt_runs 1 (f' := (958, [some (.retAddr 0), some (.ref 0), some (.ref 387), some (.int 0)], [], mv_W2)) rfl ?_
      refine mt_runs 1 (f' := (961, [some (.retAddr 0), some (.ref 0), some (.ref 387), some (.int 6)], [], mv_W2)) rfl ?_
      refine mt_runs 1 (f' := (18, [some (.retAddr 0), some (.ref 0), some (.ref 387), some (.int 6)], [], mv_W2)) rfl ?_
      refine mt_runs 1 (f' := (19, [some (.retAddr 0), some (.ref 0), some (.ref 387), some (.int 6)], [.int 6], mv_W2)) rfl ?_
      refine mt_runs 1 (f' := (20, [some (.retAddr 0), some (.ref 0), some (.ref 387), some (.int 6)], [.retAddr 0, .int 6], mv_W2)) rfl ?_
      refine mt_runs 1 (f' := (21, [some (.retAddr 0), some (.ref 0), some (.ref 387), some (.int 6)], [.int 6, .int 6], mv_W2)) rfl ?_
      refine mt_runs 1 (f' := (23, [some (.retAddr 0), some (.ref 0), some (.ref 387), some (.int 6)], [.int 6, .int 6, .int 6], mv_W2)) rfl ?_
      refine mt_runs 1 (f' := (24, [some (.retAddr 0), some (.ref 0), some (.ref 387), some (.int 6)], [.int 0, .int 6], mv_W2)) rfl ?_
      refine mt_runs 1 (f' := (964, [some (.retAddr 0), some (.ref 0), some (.ref 387), some (.int 6)], [], mv_W2)) rfl ?_
      refine mt_runs 1 (f' := (965, [some (.retAddr 0), some (.ref 0), some (.ref 387), some (.int 6)], [.int 1], mv_W2)) rfl ?_
      refine mt_ret rfl rfl ?_
      exact ⟨rfl, Nat.le_of_ble_eq_true rfl, Nat.le_of_ble_eq_true rfl⟩
    · exfalso
      omega
  · refine mt_runs 4 (f' := (12, [some (.ref 0), some (.int x1), some (.int x2), none], [.int 0, .int x1], mv_W2)) rfl ?_
    refine mu_icmp (tgt := 17) rfl (by decide) (fun (c3 : x1.toInt < 0) => ?_) (fun (c3 : ¬ (x1.toInt < 0)) => ?_)
    · exfalso
      omega
    · refine mt_runs 1 (f' := (16, [some (.ref 0), some (.int x1), some (.int x2), none], [.int (-1)], mv_W2)) rfl ?_
      refine mt_ret rfl rfl ?_
      refine mt_runs 1 (f' := (340, [some (.retAddr 0), some (.ref 0), some (.ref 387), some (.int 0)], [.ref 387, .int (-1)], mv_W2)) rfl ?_
      refine mt_runs 1 (f' := (341, [some (.retAddr 0), some (.ref 0), some (.ref 387), some (.int 0)], [.retAddr 0, .ref 387, .int (-1)], mv_W2)) rfl ?_
      refine mt_runs 1 (f' := (342, [some (.retAddr 0), some (.ref 0), some (.ref 387), some (.int 0)], [.int 0, .retAddr 0, .ref 387, .int (-1)], mv_W2)) rfl ?_
      refine mt_runs 1 (f' := (343, [some (.retAddr 0), some (.ref 0), some (.ref 387), some (.int 0)], [.int 1, .int 0, .retAddr 0, .ref 387, .int (-1)], mv_W2)) rfl ?_
      refine mt_runs 1 (f' := (344, [some (.retAddr 0), some (.ref 0), some (.ref 387), some (.int 0)], [.int 1, .retAddr 0, .ref 387, .int (-1)], mv_W2)) rfl ?_
      refine mt_runs 1 (f' := (345, [some (.retAddr 0), some (.ref 0), some (.ref 387), some (.int 0)], [.int x1, .ref 387, .int (-1)], mv_W2)) rfl ?_
      refine mt_runs 1 (f' := (346, [some (.retAddr 0), some (.ref 0), some (.ref 387), some (.int 0)], [.retAddr 0, .int x1, .ref 387, .int (-1)], mv_W2)) rfl ?_
      refine mt_runs 1 (f' := (347, [some (.retAddr 0), some (.ref 0), some (.ref 387), some (.int 0)], [.int 0, .retAddr 0, .int x1, .ref 387, .int (-1)], mv_W2)) rfl ?_
      refine mt_runs 1 (f' := (348, [some (.retAddr 0), some (.ref 0), some (.ref 387), some (.int 0)], [.int 2, .int 0, .retAddr 0, .int x1, .ref 387, .int (-1)], mv_W2)) rfl ?_
      refine mt_runs 1 (f' := (349, [some (.retAddr 0), some (.ref 0), some (.ref 387), some (.int 0)], [.int 2, .retAddr 0, .int x1, .ref 387, .int (-1)], mv_W2)) rfl ?_
      refine mt_runs 1 (f' := (350, [some (.retAddr 0), some (.ref 0), some (.ref 387), some (.int 0)], [.int x2, .int x1, .ref 387, .int (-1)], mv_W2)) rfl ?_
      refine mt_call rfl (fun _ => rfl) ⟨Nat.le_of_ble_eq_true rfl, Nat.le_of_ble_eq_true rfl, rfl⟩ (Nat.le_of_ble_eq_true rfl) ?_
      refine mt_runs 4 (f' := (4, [some (.ref 387), some (.int x1), some (.int x2)], [.int 0, .ref 387, .int 0, .int x1], mv_W2)) rfl ?_
      refine mt_call rfl (fun _ => rfl) ⟨Nat.le_of_ble_eq_true rfl, Nat.le_of_ble_eq_true rfl, rfl⟩ (Nat.le_of_ble_eq_true rfl) ?_
      refine mt_runs 6 (f' := (10, [some (.ref 387), some (.int 0)], [.int 0], mv_W2)) rfl ?_
      refine mt_ret rfl rfl ?_
      refine mt_runs 2 (f' := (9, [some (.ref 387), some (.int x1), some (.int x2)], [.int (-1), .int 0, .int x1], mv_W2)) rfl ?_
      refine mt_call rfl (fun _ => rfl) ⟨Nat.le_of_ble_eq_true rfl, Nat.le_of_ble_eq_true rfl, rfl⟩ (Nat.le_of_ble_eq_true rfl) ?_
      refine mt_runs 2 (f' := (2, [some (.int x1), some (.int 0), some (.int (-1))], [.int 0, .int x1], mv_W2)) rfl ?_
      refine mu_icmp (tgt := 14) rfl (by decide) (fun (c4 : x1.toInt < 0) => ?_) (fun (c4 : ¬ (x1.toInt < 0)) => ?_)
      · exfalso
        omega
      · refine mt_runs 2 (f' := (7, [some (.int x1), some (.int 0), some (.int (-1))], [.int (-1), .int x1], mv_W2)) rfl ?_
        refine mu_icmp (tgt := 14) rfl (by decide) (fun (c5 : (-1) < x1.toInt) => ?_) (fun (c5 : ¬ ((-1) < x1.toInt)) => ?_)
        · refine mt_runs 1 (f' := (15, [some (.int x1), some (.int 0), some (.int (-1))], [.int 0], mv_W2)) rfl ?_
          refine mt_ret rfl rfl ?_
          refine mt_runs 2 (f' := (16, [some (.ref 387), some (.int x1), some (.int x2)], [.int (-1)], mv_W2)) rfl ?_
          refine mt_ret rfl rfl ?_
          refine mt_runs 1 (f' := (958, [some (.retAddr 0), some (.ref 0), some (.ref 387), some (.int 0)], [], mv_W2)) rfl ?_
          refine mt_runs 1 (f' := (961, [some (.retAddr 0), some (.ref 0), some (.ref 387), some (.int 6)], [], mv_W2)) rfl ?_
          refine mt_runs 1 (f' := (18, [some (.retAddr 0), some (.ref 0), some (.ref 387), some (.int 6)], [], mv_W2)) rfl ?_
          refine mt_runs 1 (f' := (19, [some (.retAddr 0), some (.ref 0), some (.ref 387), some (.int 6)], [.int 6], mv_W2)) rfl ?_
          refine mt_runs 1 (f' := (20, [some (.retAddr 0), some (.ref 0), some (.ref 387), some (.int 6)], [.retAddr 0, .int 6], mv_W2)) rfl ?_
          refine mt_runs 1 (f' := (21, [some (.retAddr 0), some (.ref 0), some (.ref 387), some (.int 6)], [.int 6, .int 6], mv_W2)) rfl ?_
          refine mt_runs 1 (f' := (23, [some (.retAddr 0), some (.ref 0), some (.ref 387), some (.int 6)], [.int 6, .int 6, .int 6], mv_W2)) rfl ?_
          refine mt_runs 1 (f' := (24, [some (.retAddr 0), some (.ref 0), some (.ref 387), some (.int 6)], [.int 0, .int 6], mv_W2)) rfl ?_
          refine mt_runs 1 (f' := (964, [some (.retAddr 0), some (.ref 0), some (.ref 387), some (.int 6)], [], mv_W2)) rfl ?_
          refine mt_runs 1 (f' := (965, [some (.retAddr 0), some (.ref 0), some (.ref 387), some (.int 6)], [.int 1], mv_W2)) rfl ?_
          refine mt_ret rfl rfl ?_
          exact ⟨rfl, Nat.le_of_ble_eq_true rfl, Nat.le_of_ble_eq_true rfl⟩
        · exfalso
          omega
set_option maxRecDepth 100000 in
set_option maxHeartbeats 4000000 in
theorem mv_op8 (x0 x1 x2 x3 x4 x5 : Int32) : mu_G (mt_P (mv_xs x0 x1 x2 x3 x4 x5)) 20 301 (358, [some (.retAddr 0), some (.ref 0), some (.ref 387), some (.int 0)], [], mv_W2) mv_Q := by
  refine mt_runs 1 (f' := (359, [some (.retAddr 0), some (.ref 0), some (.ref 387), some (.int 0)], [.ref 0], mv_W2)) rfl ?_
  refine mt_runs 1 (f' := (360, [some (.retAddr 0), some (.ref 0), some (.ref 387), some (.int 0)], [.retAddr 0, .ref 0], mv_W2)) rfl ?_
  refine mt_runs 1 (f' := (361, [some (.retAddr 0), some (.ref 0), some (.ref 387), some (.int 0)], [.int 0, .retAddr 0, .ref 0], mv_W2)) rfl ?_
  refine mt_runs 1 (f' := (362, [some (.retAddr 0), some (.ref 0), some (.ref 387), some (.int 0)], [.int 1, .int 0, .retAddr 0, .ref 0], mv_W2)) rfl ?_
  refine mt_runs 1 (f' := (363, [some (.retAddr 0), some (.ref 0), some (.ref 387), some (.int 0)], [.int 1, .retAddr 0, .ref 0], mv_W2)) rfl ?_
  refine mt_runs 1 (f' := (364, [some (.retAddr 0), some (.ref 0), some (.ref 387), some (.int 0)], [.int x1, .ref 0], mv_W2)) rfl ?_
  refine mt_call rfl (fun _ => rfl) ⟨Nat.le_of_ble_eq_true rfl, Nat.le_of_ble_eq_true rfl, rfl⟩ (Nat.le_of_ble_eq_true rfl) ?_
  refine mt_runs 3 (f' := (5, [some (.ref 0), some (.int x1), none], [.int x1, .ref 205], mv_W2)) rfl ?_
  refine mt_call rfl (fun _ => rfl) ⟨Nat.le_of_ble_eq_true rfl, Nat.le_of_ble_eq_true rfl, rfl⟩ (Nat.le_of_ble_eq_true rfl) ?_
  refine mt_runs 7 (f' := (37, [some (.ref 205), some (.int x1), some (.int 0)], [.null], mv_W2)) rfl ?_
  refine mt_ret rfl rfl ?_
  refine mt_runs 4 (f' := (23, [some (.ref 0), some (.int x1), some (.null)], [.int (-1)], mv_W2)) rfl ?_
  refine mt_ret rfl rfl ?_
  refine mt_runs 1 (f' := (368, [some (.retAddr 0), some (.ref 0), some (.ref 387), some (.int 0)], [.ref 387, .int (-1)], mv_W2)) rfl ?_
  refine mt_runs 1 (f' := (369, [some (.retAddr 0), some (.ref 0), some (.ref 387), some (.int 0)], [.retAddr 0, .ref 387, .int (-1)], mv_W2)) rfl ?_
  refine mt_runs 1 (f' := (370, [some (.retAddr 0), some (.ref 0), some (.ref 387), some (.int 0)], [.int 0, .retAddr 0, .ref 387, .int (-1)], mv_W2)) rfl ?_
  refine mt_runs 1 (f' := (371, [some (.retAddr 0), some (.ref 0), some (.ref 387), some (.int 0)], [.int 1, .int 0, .retAddr 0, .ref 387, .int (-1)], mv_W2)) rfl ?_
  refine mt_runs 1 (f' := (372, [some (.retAddr 0), some (.ref 0), some (.ref 387), some (.int 0)], [.int 1, .retAddr 0, .ref 387, .int (-1)], mv_W2)) rfl ?_
  refine mt_runs 1 (f' := (373, [some (.retAddr 0), some (.ref 0), some (.ref 387), some (.int 0)], [.int x1, .ref 387, .int (-1)], mv_W2)) rfl ?_
  refine mt_call rfl (fun _ => rfl) ⟨Nat.le_of_ble_eq_true rfl, Nat.le_of_ble_eq_true rfl, rfl⟩ (Nat.le_of_ble_eq_true rfl) ?_
  refine mt_runs 3 (f' := (3, [some (.ref 387), some (.int x1), none, none, none, none], [.int x1, .int 0, .ref 387], mv_W2)) rfl ?_
  refine mt_call rfl (fun _ => rfl) ⟨Nat.le_of_ble_eq_true rfl, Nat.le_of_ble_eq_true rfl, rfl⟩ (Nat.le_of_ble_eq_true rfl) ?_
  refine mt_runs 5 (f' := (5, [some (.ref 387), some (.int 0), some (.int x1), some (.int 0)], [.int 0, .ref 387, .int 0], mv_W2)) rfl ?_
  refine mt_call rfl (fun _ => rfl) ⟨Nat.le_of_ble_eq_true rfl, Nat.le_of_ble_eq_true rfl, rfl⟩ (Nat.le_of_ble_eq_true rfl) ?_
  refine mt_runs 6 (f' := (10, [some (.ref 387), some (.int 0)], [.int 0], mv_W2)) rfl ?_
  refine mt_ret rfl rfl ?_
  refine mt_runs 2 (f' := (31, [some (.ref 387), some (.int 0), some (.int x1), some (.int 0)], [.int (-1)], mv_W2)) rfl ?_
  refine mt_ret rfl rfl ?_
  refine mt_runs 5 (f' := (22, [some (.ref 387), some (.int x1), some (.int (-1)), none, none, none], [.int (-1)], mv_W2)) rfl ?_
  refine mt_ret rfl rfl ?_
  refine mt_runs 1 (f' := (958, [some (.retAddr 0), some (.ref 0), some (.ref 387), some (.int 0)], [], mv_W2)) rfl ?_
  refine mt_runs 1 (f' := (961, [some (.retAddr 0), some (.ref 0), some (.ref 387), some (.int 6)], [], mv_W2)) rfl ?_
  refine mt_runs 1 (f' := (18, [some (.retAddr 0), some (.ref 0), some (.ref 387), some (.int 6)], [], mv_W2)) rfl ?_
  refine mt_runs 1 (f' := (19, [some (.retAddr 0), some (.ref 0), some (.ref 387), some (.int 6)], [.int 6], mv_W2)) rfl ?_
  refine mt_runs 1 (f' := (20, [some (.retAddr 0), some (.ref 0), some (.ref 387), some (.int 6)], [.retAddr 0, .int 6], mv_W2)) rfl ?_
  refine mt_runs 1 (f' := (21, [some (.retAddr 0), some (.ref 0), some (.ref 387), some (.int 6)], [.int 6, .int 6], mv_W2)) rfl ?_
  refine mt_runs 1 (f' := (23, [some (.retAddr 0), some (.ref 0), some (.ref 387), some (.int 6)], [.int 6, .int 6, .int 6], mv_W2)) rfl ?_
  refine mt_runs 1 (f' := (24, [some (.retAddr 0), some (.ref 0), some (.ref 387), some (.int 6)], [.int 0, .int 6], mv_W2)) rfl ?_
  refine mt_runs 1 (f' := (964, [some (.retAddr 0), some (.ref 0), some (.ref 387), some (.int 6)], [], mv_W2)) rfl ?_
  refine mt_runs 1 (f' := (965, [some (.retAddr 0), some (.ref 0), some (.ref 387), some (.int 6)], [.int 1], mv_W2)) rfl ?_
  refine mt_ret rfl rfl ?_
  exact ⟨rfl, Nat.le_of_ble_eq_true rfl, Nat.le_of_ble_eq_true rfl⟩
set_option maxRecDepth 100000 in
set_option maxHeartbeats 4000000 in
theorem mv_lives0 (xs : List Int32) (n : Int32) : ∃ N0, mm_ev (mt_P xs) N0 19 103 [.ref 0, .int n] mv_W2 = some (some (.int 0), mv_W2) := by
  refine mu_ev (d := 18) (Nat.le_of_ble_eq_true rfl) ?_
  refine mt_runs 1 (f' := (1, [some (.ref 0), some (.int n)], [.int n], mv_W2)) rfl ?_
  refine mu_if (tgt := 26) rfl (by decide) (fun (c1 : n.toInt < 0) => ?_) (fun (c1 : ¬ (n.toInt < 0)) => ?_)
  · refine mt_runs 1 (f' := (27, [some (.ref 0), some (.int n)], [.int 0], mv_W2)) rfl ?_
    refine mt_ret rfl rfl ?_
    rfl
  · refine mt_runs 2 (f' := (7, [some (.ref 0), some (.int n)], [.int 40, .int n], mv_W2)) rfl ?_
    refine mu_icmp (tgt := 26) rfl (by decide) (fun (c2 : 40 ≤ n.toInt) => ?_) (fun (c2 : ¬ (40 ≤ n.toInt)) => ?_)
    · refine mt_runs 1 (f' := (27, [some (.ref 0), some (.int n)], [.int 0], mv_W2)) rfl ?_
      refine mt_ret rfl rfl ?_
      rfl
    · refine mt_runs 3 (f' := (15, [some (.ref 0), some (.int n)], [.int n, .ref 11], mv_W2)) rfl ?_
      obtain ⟨j3, hj3, ej3⟩ := mu_rng (x := n) (m := 40) (by omega) (by omega) (by decide)
      subst ej3
      match j3, hj3 with
      | 0, _ =>
        refine mt_runs 4 (f' := (27, [some (.ref 0), some (.int 0)], [.int 0], mv_W2)) rfl ?_
        refine mt_ret rfl rfl ?_
        rfl
      | 1, _ =>
        refine mt_runs 4 (f' := (27, [some (.ref 0), some (.int 1)], [.int 0], mv_W2)) rfl ?_
        refine mt_ret rfl rfl ?_
        rfl
      | 2, _ =>
        refine mt_runs 4 (f' := (27, [some (.ref 0), some (.int 2)], [.int 0], mv_W2)) rfl ?_
        refine mt_ret rfl rfl ?_
        rfl
      | 3, _ =>
        refine mt_runs 4 (f' := (27, [some (.ref 0), some (.int 3)], [.int 0], mv_W2)) rfl ?_
        refine mt_ret rfl rfl ?_
        rfl
      | 4, _ =>
        refine mt_runs 4 (f' := (27, [some (.ref 0), some (.int 4)], [.int 0], mv_W2)) rfl ?_
        refine mt_ret rfl rfl ?_
        rfl
      | 5, _ =>
        refine mt_runs 4 (f' := (27, [some (.ref 0), some (.int 5)], [.int 0], mv_W2)) rfl ?_
        refine mt_ret rfl rfl ?_
        rfl
      | 6, _ =>
        refine mt_runs 4 (f' := (27, [some (.ref 0), some (.int 6)], [.int 0], mv_W2)) rfl ?_
        refine mt_ret rfl rfl ?_
        rfl
      | 7, _ =>
        refine mt_runs 4 (f' := (27, [some (.ref 0), some (.int 7)], [.int 0], mv_W2)) rfl ?_
        refine mt_ret rfl rfl ?_
        rfl
      | 8, _ =>
        refine mt_runs 4 (f' := (27, [some (.ref 0), some (.int 8)], [.int 0], mv_W2)) rfl ?_
        refine mt_ret rfl rfl ?_
        rfl
      | 9, _ =>
        refine mt_runs 4 (f' := (27, [some (.ref 0), some (.int 9)], [.int 0], mv_W2)) rfl ?_
        refine mt_ret rfl rfl ?_
        rfl
      | 10, _ =>
        refine mt_runs 4 (f' := (27, [some (.ref 0), some (.int 10)], [.int 0], mv_W2)) rfl ?_
        refine mt_ret rfl rfl ?_
        rfl
      | 11, _ =>
        refine mt_runs 4 (f' := (27, [some (.ref 0), some (.int 11)], [.int 0], mv_W2)) rfl ?_
        refine mt_ret rfl rfl ?_
        rfl
      | 12, _ =>
        refine mt_runs 4 (f' := (27, [some (.ref 0), some (.int 12)], [.int 0], mv_W2)) rfl ?_
        refine mt_ret rfl rfl ?_
        rfl
      | 13, _ =>
        refine mt_runs 4 (f' := (27, [some (.ref 0), some (.int 13)], [.int 0], mv_W2)) rfl ?_
        refine mt_ret rfl rfl ?_
        rfl
      | 14, _ =>
        refine mt_runs 4 (f' := (27, [some (.ref 0), some (.int 14)], [.int 0], mv_W2)) rfl ?_
        refine mt_ret rfl rfl ?_
        rfl
      | 15, _ =>
        refine mt_runs 4 (f' := (27, [some (.ref 0), some (.int 15)], [.int 0], mv_W2)) rfl ?_
        refine mt_ret rfl rfl ?_
        rfl
      | 16, _ =>
        refine mt_runs 4 (f' := (27, [some (.ref 0), some (.int 16)], [.int 0], mv_W2)) rfl ?_
        refine mt_ret rfl rfl ?_
        rfl
      | 17, _ =>
        refine mt_runs 4 (f' := (27, [some (.ref 0), some (.int 17)], [.int 0], mv_W2)) rfl ?_
        refine mt_ret rfl rfl ?_
        rfl
      | 18, _ =>
        refine mt_runs 4 (f' := (27, [some (.ref 0), some (.int 18)], [.int 0], mv_W2)) rfl ?_
        refine mt_ret rfl rfl ?_
        rfl
      | 19, _ =>
        refine mt_runs 4 (f' := (27, [some (.ref 0), some (.int 19)], [.int 0], mv_W2)) rfl ?_
        refine mt_ret rfl rfl ?_
        rfl
      | 20, _ =>
        refine mt_runs 4 (f' := (27, [some (.ref 0), some (.int 20)], [.int 0], mv_W2)) rfl ?_
        refine mt_ret rfl rfl ?_
        rfl
      | 21, _ =>
        refine mt_runs 4 (f' := (27, [some (.ref 0), some (.int 21)], [.int 0], mv_W2)) rfl ?_
        refine mt_ret rfl rfl ?_
        rfl
      | 22, _ =>
        refine mt_runs 4 (f' := (27, [some (.ref 0), some (.int 22)], [.int 0], mv_W2)) rfl ?_
        refine mt_ret rfl rfl ?_
        rfl
      | 23, _ =>
        refine mt_runs 4 (f' := (27, [some (.ref 0), some (.int 23)], [.int 0], mv_W2)) rfl ?_
        refine mt_ret rfl rfl ?_
        rfl
      | 24, _ =>
        refine mt_runs 4 (f' := (27, [some (.ref 0), some (.int 24)], [.int 0], mv_W2)) rfl ?_
        refine mt_ret rfl rfl ?_
        rfl
      | 25, _ =>
        refine mt_runs 4 (f' := (27, [some (.ref 0), some (.int 25)], [.int 0], mv_W2)) rfl ?_
        refine mt_ret rfl rfl ?_
        rfl
      | 26, _ =>
        refine mt_runs 4 (f' := (27, [some (.ref 0), some (.int 26)], [.int 0], mv_W2)) rfl ?_
        refine mt_ret rfl rfl ?_
        rfl
      | 27, _ =>
        refine mt_runs 4 (f' := (27, [some (.ref 0), some (.int 27)], [.int 0], mv_W2)) rfl ?_
        refine mt_ret rfl rfl ?_
        rfl
      | 28, _ =>
        refine mt_runs 4 (f' := (27, [some (.ref 0), some (.int 28)], [.int 0], mv_W2)) rfl ?_
        refine mt_ret rfl rfl ?_
        rfl
      | 29, _ =>
        refine mt_runs 4 (f' := (27, [some (.ref 0), some (.int 29)], [.int 0], mv_W2)) rfl ?_
        refine mt_ret rfl rfl ?_
        rfl
      | 30, _ =>
        refine mt_runs 4 (f' := (27, [some (.ref 0), some (.int 30)], [.int 0], mv_W2)) rfl ?_
        refine mt_ret rfl rfl ?_
        rfl
      | 31, _ =>
        refine mt_runs 4 (f' := (27, [some (.ref 0), some (.int 31)], [.int 0], mv_W2)) rfl ?_
        refine mt_ret rfl rfl ?_
        rfl
      | 32, _ =>
        refine mt_runs 4 (f' := (27, [some (.ref 0), some (.int 32)], [.int 0], mv_W2)) rfl ?_
        refine mt_ret rfl rfl ?_
        rfl
      | 33, _ =>
        refine mt_runs 4 (f' := (27, [some (.ref 0), some (.int 33)], [.int 0], mv_W2)) rfl ?_
        refine mt_ret rfl rfl ?_
        rfl
      | 34, _ =>
        refine mt_runs 4 (f' := (27, [some (.ref 0), some (.int 34)], [.int 0], mv_W2)) rfl ?_
        refine mt_ret rfl rfl ?_
        rfl
      | 35, _ =>
        refine mt_runs 4 (f' := (27, [some (.ref 0), some (.int 35)], [.int 0], mv_W2)) rfl ?_
        refine mt_ret rfl rfl ?_
        rfl
      | 36, _ =>
        refine mt_runs 4 (f' := (27, [some (.ref 0), some (.int 36)], [.int 0], mv_W2)) rfl ?_
        refine mt_ret rfl rfl ?_
        rfl
      | 37, _ =>
        refine mt_runs 4 (f' := (27, [some (.ref 0), some (.int 37)], [.int 0], mv_W2)) rfl ?_
        refine mt_ret rfl rfl ?_
        rfl
      | 38, _ =>
        refine mt_runs 4 (f' := (27, [some (.ref 0), some (.int 38)], [.int 0], mv_W2)) rfl ?_
        refine mt_ret rfl rfl ?_
        rfl
      | 39, _ =>
        refine mt_runs 4 (f' := (27, [some (.ref 0), some (.int 39)], [.int 0], mv_W2)) rfl ?_
        refine mt_ret rfl rfl ?_
        rfl
      | _ + 40, h => exact absurd h (by omega)
set_option maxRecDepth 100000 in
set_option maxHeartbeats 4000000 in
theorem mv_op9 (x0 x1 x2 x3 x4 x5 : Int32) : mu_G (mt_P (mv_xs x0 x1 x2 x3 x4 x5)) 20 301 (381, [some (.retAddr 0), some (.ref 0), some (.ref 387), some (.int 0)], [], mv_W2) mv_Q := by
  refine mt_runs 1 (f' := (382, [some (.retAddr 0), some (.ref 0), some (.ref 387), some (.int 0)], [.ref 0], mv_W2)) rfl ?_
  refine mt_runs 1 (f' := (383, [some (.retAddr 0), some (.ref 0), some (.ref 387), some (.int 0)], [.retAddr 0, .ref 0], mv_W2)) rfl ?_
  refine mt_runs 1 (f' := (384, [some (.retAddr 0), some (.ref 0), some (.ref 387), some (.int 0)], [.int 0, .retAddr 0, .ref 0], mv_W2)) rfl ?_
  refine mt_runs 1 (f' := (385, [some (.retAddr 0), some (.ref 0), some (.ref 387), some (.int 0)], [.int 1, .int 0, .retAddr 0, .ref 0], mv_W2)) rfl ?_
  refine mt_runs 1 (f' := (386, [some (.retAddr 0), some (.ref 0), some (.ref 387), some (.int 0)], [.int 1, .retAddr 0, .ref 0], mv_W2)) rfl ?_
  refine mt_runs 1 (f' := (387, [some (.retAddr 0), some (.ref 0), some (.ref 387), some (.int 0)], [.int x1, .ref 0], mv_W2)) rfl ?_
  refine mt_call rfl (fun _ => rfl) ⟨Nat.le_of_ble_eq_true rfl, Nat.le_of_ble_eq_true rfl, rfl⟩ (Nat.le_of_ble_eq_true rfl) ?_
  refine mt_runs 2 (f' := (2, [some (.ref 0), some (.int x1)], [.int x1, .ref 0], mv_W2)) rfl ?_
  refine mt_callX rfl (fun _ => rfl) ⟨Nat.le_of_ble_eq_true rfl, Nat.le_of_ble_eq_true rfl, rfl⟩ (mv_lives0 _ x1) ?_
  refine mt_runs 2 (f' := (24, [some (.ref 0), some (.int x1)], [.int (-1)], mv_W2)) rfl ?_
  refine mt_ret rfl rfl ?_
  refine mt_runs 1 (f' := (391, [some (.retAddr 0), some (.ref 0), some (.ref 387), some (.int 0)], [.ref 387, .int (-1)], mv_W2)) rfl ?_
  refine mt_runs 1 (f' := (392, [some (.retAddr 0), some (.ref 0), some (.ref 387), some (.int 0)], [.retAddr 0, .ref 387, .int (-1)], mv_W2)) rfl ?_
  refine mt_runs 1 (f' := (393, [some (.retAddr 0), some (.ref 0), some (.ref 387), some (.int 0)], [.int 0, .retAddr 0, .ref 387, .int (-1)], mv_W2)) rfl ?_
  refine mt_runs 1 (f' := (394, [some (.retAddr 0), some (.ref 0), some (.ref 387), some (.int 0)], [.int 1, .int 0, .retAddr 0, .ref 387, .int (-1)], mv_W2)) rfl ?_
  refine mt_runs 1 (f' := (395, [some (.retAddr 0), some (.ref 0), some (.ref 387), some (.int 0)], [.int 1, .retAddr 0, .ref 387, .int (-1)], mv_W2)) rfl ?_
  refine mt_runs 1 (f' := (396, [some (.retAddr 0), some (.ref 0), some (.ref 387), some (.int 0)], [.int x1, .ref 387, .int (-1)], mv_W2)) rfl ?_
  refine mt_call rfl (fun _ => rfl) ⟨Nat.le_of_ble_eq_true rfl, Nat.le_of_ble_eq_true rfl, rfl⟩ (Nat.le_of_ble_eq_true rfl) ?_
  refine mt_runs 2 (f' := (2, [some (.ref 387), some (.int x1)], [.int x1, .ref 387], mv_W2)) rfl ?_
  refine mt_call rfl (fun _ => rfl) ⟨Nat.le_of_ble_eq_true rfl, Nat.le_of_ble_eq_true rfl, rfl⟩ (Nat.le_of_ble_eq_true rfl) ?_
  refine mt_runs 6 (f' := (8, [some (.ref 387), some (.int x1)], [.int (-1), .int 0, .int x1], mv_W2)) rfl ?_
  refine mt_call rfl (fun _ => rfl) ⟨Nat.le_of_ble_eq_true rfl, Nat.le_of_ble_eq_true rfl, rfl⟩ (Nat.le_of_ble_eq_true rfl) ?_
  refine mt_runs 2 (f' := (2, [some (.int x1), some (.int 0), some (.int (-1))], [.int 0, .int x1], mv_W2)) rfl ?_
  refine mu_icmp (tgt := 14) rfl (by decide) (fun (c1 : x1.toInt < 0) => ?_) (fun (c1 : ¬ (x1.toInt < 0)) => ?_)
  · refine mt_runs 1 (f' := (15, [some (.int x1), some (.int 0), some (.int (-1))], [.int 0], mv_W2)) rfl ?_
    refine mt_ret rfl rfl ?_
    refine mt_runs 2 (f' := (28, [some (.ref 387), some (.int x1)], [.int 0], mv_W2)) rfl ?_
    refine mt_ret rfl rfl ?_
    refine mt_runs 2 (f' := (24, [some (.ref 387), some (.int x1)], [.int (-1)], mv_W2)) rfl ?_
    refine mt_ret rfl rfl ?_
    refine mt_runs 1 (f' := (958, [some (.retAddr 0), some (.ref 0), some (.ref 387), some (.int 0)], [], mv_W2)) rfl ?_
    refine mt_runs 1 (f' := (961, [some (.retAddr 0), some (.ref 0), some (.ref 387), some (.int 6)], [], mv_W2)) rfl ?_
    refine mt_runs 1 (f' := (18, [some (.retAddr 0), some (.ref 0), some (.ref 387), some (.int 6)], [], mv_W2)) rfl ?_
    refine mt_runs 1 (f' := (19, [some (.retAddr 0), some (.ref 0), some (.ref 387), some (.int 6)], [.int 6], mv_W2)) rfl ?_
    refine mt_runs 1 (f' := (20, [some (.retAddr 0), some (.ref 0), some (.ref 387), some (.int 6)], [.retAddr 0, .int 6], mv_W2)) rfl ?_
    refine mt_runs 1 (f' := (21, [some (.retAddr 0), some (.ref 0), some (.ref 387), some (.int 6)], [.int 6, .int 6], mv_W2)) rfl ?_
    refine mt_runs 1 (f' := (23, [some (.retAddr 0), some (.ref 0), some (.ref 387), some (.int 6)], [.int 6, .int 6, .int 6], mv_W2)) rfl ?_
    refine mt_runs 1 (f' := (24, [some (.retAddr 0), some (.ref 0), some (.ref 387), some (.int 6)], [.int 0, .int 6], mv_W2)) rfl ?_
    refine mt_runs 1 (f' := (964, [some (.retAddr 0), some (.ref 0), some (.ref 387), some (.int 6)], [], mv_W2)) rfl ?_
    refine mt_runs 1 (f' := (965, [some (.retAddr 0), some (.ref 0), some (.ref 387), some (.int 6)], [.int 1], mv_W2)) rfl ?_
    refine mt_ret rfl rfl ?_
    exact ⟨rfl, Nat.le_of_ble_eq_true rfl, Nat.le_of_ble_eq_true rfl⟩
  · refine mt_runs 2 (f' := (7, [some (.int x1), some (.int 0), some (.int (-1))], [.int (-1), .int x1], mv_W2)) rfl ?_
    refine mu_icmp (tgt := 14) rfl (by decide) (fun (c2 : (-1) < x1.toInt) => ?_) (fun (c2 : ¬ ((-1) < x1.toInt)) => ?_)
    · refine mt_runs 1 (f' := (15, [some (.int x1), some (.int 0), some (.int (-1))], [.int 0], mv_W2)) rfl ?_
      refine mt_ret rfl rfl ?_
      refine mt_runs 2 (f' := (28, [some (.ref 387), some (.int x1)], [.int 0], mv_W2)) rfl ?_
      refine mt_ret rfl rfl ?_
      refine mt_runs 2 (f' := (24, [some (.ref 387), some (.int x1)], [.int (-1)], mv_W2)) rfl ?_
      refine mt_ret rfl rfl ?_
      refine mt_runs 1 (f' := (958, [some (.retAddr 0), some (.ref 0), some (.ref 387), some (.int 0)], [], mv_W2)) rfl ?_
      refine mt_runs 1 (f' := (961, [some (.retAddr 0), some (.ref 0), some (.ref 387), some (.int 6)], [], mv_W2)) rfl ?_
      refine mt_runs 1 (f' := (18, [some (.retAddr 0), some (.ref 0), some (.ref 387), some (.int 6)], [], mv_W2)) rfl ?_
      refine mt_runs 1 (f' := (19, [some (.retAddr 0), some (.ref 0), some (.ref 387), some (.int 6)], [.int 6], mv_W2)) rfl ?_
      refine mt_runs 1 (f' := (20, [some (.retAddr 0), some (.ref 0), some (.ref 387), some (.int 6)], [.retAddr 0, .int 6], mv_W2)) rfl ?_
      refine mt_runs 1 (f' := (21, [some (.retAddr 0), some (.ref 0), some (.ref 387), some (.int 6)], [.int 6, .int 6], mv_W2)) rfl ?_
      refine mt_runs 1 (f' := (23, [some (.retAddr 0), some (.ref 0), some (.ref 387), some (.int 6)], [.int 6, .int 6, .int 6], mv_W2)) rfl ?_
      refine mt_runs 1 (f' := (24, [some (.retAddr 0), some (.ref 0), some (.ref 387), some (.int 6)], [.int 0, .int 6], mv_W2)) rfl ?_
      refine mt_runs 1 (f' := (964, [some (.retAddr 0), some (.ref 0), some (.ref 387), some (.int 6)], [], mv_W2)) rfl ?_
      refine mt_runs 1 (f' := (965, [some (.retAddr 0), some (.ref 0), some (.ref 387), some (.int 6)], [.int 1], mv_W2)) rfl ?_
      refine mt_ret rfl rfl ?_
      exact ⟨rfl, Nat.le_of_ble_eq_true rfl, Nat.le_of_ble_eq_true rfl⟩
    · exfalso
      omega
set_option maxRecDepth 100000 in
set_option maxHeartbeats 4000000 in
theorem mv_op10 (x0 x1 x2 x3 x4 x5 : Int32) : mu_G (mt_P (mv_xs x0 x1 x2 x3 x4 x5)) 20 301 (404, [some (.retAddr 0), some (.ref 0), some (.ref 387), some (.int 0)], [], mv_W2) mv_Q := by
  refine mt_runs 1 (f' := (405, [some (.retAddr 0), some (.ref 0), some (.ref 387), some (.int 0)], [.ref 0], mv_W2)) rfl ?_
  refine mt_runs 1 (f' := (406, [some (.retAddr 0), some (.ref 0), some (.ref 387), some (.int 0)], [.retAddr 0, .ref 0], mv_W2)) rfl ?_
  refine mt_runs 1 (f' := (407, [some (.retAddr 0), some (.ref 0), some (.ref 387), some (.int 0)], [.int 0, .retAddr 0, .ref 0], mv_W2)) rfl ?_
  refine mt_runs 1 (f' := (408, [some (.retAddr 0), some (.ref 0), some (.ref 387), some (.int 0)], [.int 1, .int 0, .retAddr 0, .ref 0], mv_W2)) rfl ?_
  refine mt_runs 1 (f' := (409, [some (.retAddr 0), some (.ref 0), some (.ref 387), some (.int 0)], [.int 1, .retAddr 0, .ref 0], mv_W2)) rfl ?_
  refine mt_runs 1 (f' := (410, [some (.retAddr 0), some (.ref 0), some (.ref 387), some (.int 0)], [.int x1, .ref 0], mv_W2)) rfl ?_
  refine mt_call rfl (fun _ => rfl) ⟨Nat.le_of_ble_eq_true rfl, Nat.le_of_ble_eq_true rfl, rfl⟩ (Nat.le_of_ble_eq_true rfl) ?_
  refine mt_runs 2 (f' := (2, [some (.ref 0), some (.int x1)], [.int x1, .ref 0], mv_W2)) rfl ?_
  refine mt_callX rfl (fun _ => rfl) ⟨Nat.le_of_ble_eq_true rfl, Nat.le_of_ble_eq_true rfl, rfl⟩ (mv_lives0 _ x1) ?_
  refine mt_runs 2 (f' := (24, [some (.ref 0), some (.int x1)], [.int (-1)], mv_W2)) rfl ?_
  refine mt_ret rfl rfl ?_
  refine mt_runs 1 (f' := (414, [some (.retAddr 0), some (.ref 0), some (.ref 387), some (.int 0)], [.ref 387, .int (-1)], mv_W2)) rfl ?_
  refine mt_runs 1 (f' := (415, [some (.retAddr 0), some (.ref 0), some (.ref 387), some (.int 0)], [.retAddr 0, .ref 387, .int (-1)], mv_W2)) rfl ?_
  refine mt_runs 1 (f' := (416, [some (.retAddr 0), some (.ref 0), some (.ref 387), some (.int 0)], [.int 0, .retAddr 0, .ref 387, .int (-1)], mv_W2)) rfl ?_
  refine mt_runs 1 (f' := (417, [some (.retAddr 0), some (.ref 0), some (.ref 387), some (.int 0)], [.int 1, .int 0, .retAddr 0, .ref 387, .int (-1)], mv_W2)) rfl ?_
  refine mt_runs 1 (f' := (418, [some (.retAddr 0), some (.ref 0), some (.ref 387), some (.int 0)], [.int 1, .retAddr 0, .ref 387, .int (-1)], mv_W2)) rfl ?_
  refine mt_runs 1 (f' := (419, [some (.retAddr 0), some (.ref 0), some (.ref 387), some (.int 0)], [.int x1, .ref 387, .int (-1)], mv_W2)) rfl ?_
  refine mt_call rfl (fun _ => rfl) ⟨Nat.le_of_ble_eq_true rfl, Nat.le_of_ble_eq_true rfl, rfl⟩ (Nat.le_of_ble_eq_true rfl) ?_
  refine mt_runs 2 (f' := (2, [some (.ref 387), some (.int x1)], [.int x1, .ref 387], mv_W2)) rfl ?_
  refine mt_call rfl (fun _ => rfl) ⟨Nat.le_of_ble_eq_true rfl, Nat.le_of_ble_eq_true rfl, rfl⟩ (Nat.le_of_ble_eq_true rfl) ?_
  refine mt_runs 6 (f' := (8, [some (.ref 387), some (.int x1)], [.int (-1), .int 0, .int x1], mv_W2)) rfl ?_
  refine mt_call rfl (fun _ => rfl) ⟨Nat.le_of_ble_eq_true rfl, Nat.le_of_ble_eq_true rfl, rfl⟩ (Nat.le_of_ble_eq_true rfl) ?_
  refine mt_runs 2 (f' := (2, [some (.int x1), some (.int 0), some (.int (-1))], [.int 0, .int x1], mv_W2)) rfl ?_
  refine mu_icmp (tgt := 14) rfl (by decide) (fun (c1 : x1.toInt < 0) => ?_) (fun (c1 : ¬ (x1.toInt < 0)) => ?_)
  · refine mt_runs 1 (f' := (15, [some (.int x1), some (.int 0), some (.int (-1))], [.int 0], mv_W2)) rfl ?_
    refine mt_ret rfl rfl ?_
    refine mt_runs 2 (f' := (28, [some (.ref 387), some (.int x1)], [.int 0], mv_W2)) rfl ?_
    refine mt_ret rfl rfl ?_
    refine mt_runs 2 (f' := (24, [some (.ref 387), some (.int x1)], [.int (-1)], mv_W2)) rfl ?_
    refine mt_ret rfl rfl ?_
    refine mt_runs 1 (f' := (958, [some (.retAddr 0), some (.ref 0), some (.ref 387), some (.int 0)], [], mv_W2)) rfl ?_
    refine mt_runs 1 (f' := (961, [some (.retAddr 0), some (.ref 0), some (.ref 387), some (.int 6)], [], mv_W2)) rfl ?_
    refine mt_runs 1 (f' := (18, [some (.retAddr 0), some (.ref 0), some (.ref 387), some (.int 6)], [], mv_W2)) rfl ?_
    refine mt_runs 1 (f' := (19, [some (.retAddr 0), some (.ref 0), some (.ref 387), some (.int 6)], [.int 6], mv_W2)) rfl ?_
    refine mt_runs 1 (f' := (20, [some (.retAddr 0), some (.ref 0), some (.ref 387), some (.int 6)], [.retAddr 0, .int 6], mv_W2)) rfl ?_
    refine mt_runs 1 (f' := (21, [some (.retAddr 0), some (.ref 0), some (.ref 387), some (.int 6)], [.int 6, .int 6], mv_W2)) rfl ?_
    refine mt_runs 1 (f' := (23, [some (.retAddr 0), some (.ref 0), some (.ref 387), some (.int 6)], [.int 6, .int 6, .int 6], mv_W2)) rfl ?_
    refine mt_runs 1 (f' := (24, [some (.retAddr 0), some (.ref 0), some (.ref 387), some (.int 6)], [.int 0, .int 6], mv_W2)) rfl ?_
    refine mt_runs 1 (f' := (964, [some (.retAddr 0), some (.ref 0), some (.ref 387), some (.int 6)], [], mv_W2)) rfl ?_
    refine mt_runs 1 (f' := (965, [some (.retAddr 0), some (.ref 0), some (.ref 387), some (.int 6)], [.int 1], mv_W2)) rfl ?_
    refine mt_ret rfl rfl ?_
    exact ⟨rfl, Nat.le_of_ble_eq_true rfl, Nat.le_of_ble_eq_true rfl⟩
  · refine mt_runs 2 (f' := (7, [some (.int x1), some (.int 0), some (.int (-1))], [.int (-1), .int x1], mv_W2)) rfl ?_
    refine mu_icmp (tgt := 14) rfl (by decide) (fun (c2 : (-1) < x1.toInt) => ?_) (fun (c2 : ¬ ((-1) < x1.toInt)) => ?_)
    · refine mt_runs 1 (f' := (15, [some (.int x1), some (.int 0), some (.int (-1))], [.int 0], mv_W2)) rfl ?_
      refine mt_ret rfl rfl ?_
      refine mt_runs 2 (f' := (28, [some (.ref 387), some (.int x1)], [.int 0], mv_W2)) rfl ?_
      refine mt_ret rfl rfl ?_
      refine mt_runs 2 (f' := (24, [some (.ref 387), some (.int x1)], [.int (-1)], mv_W2)) rfl ?_
      refine mt_ret rfl rfl ?_
      refine mt_runs 1 (f' := (958, [some (.retAddr 0), some (.ref 0), some (.ref 387), some (.int 0)], [], mv_W2)) rfl ?_
      refine mt_runs 1 (f' := (961, [some (.retAddr 0), some (.ref 0), some (.ref 387), some (.int 6)], [], mv_W2)) rfl ?_
      refine mt_runs 1 (f' := (18, [some (.retAddr 0), some (.ref 0), some (.ref 387), some (.int 6)], [], mv_W2)) rfl ?_
      refine mt_runs 1 (f' := (19, [some (.retAddr 0), some (.ref 0), some (.ref 387), some (.int 6)], [.int 6], mv_W2)) rfl ?_
      refine mt_runs 1 (f' := (20, [some (.retAddr 0), some (.ref 0), some (.ref 387), some (.int 6)], [.retAddr 0, .int 6], mv_W2)) rfl ?_
      refine mt_runs 1 (f' := (21, [some (.retAddr 0), some (.ref 0), some (.ref 387), some (.int 6)], [.int 6, .int 6], mv_W2)) rfl ?_
      refine mt_runs 1 (f' := (23, [some (.retAddr 0), some (.ref 0), some (.ref 387), some (.int 6)], [.int 6, .int 6, .int 6], mv_W2)) rfl ?_
      refine mt_runs 1 (f' := (24, [some (.retAddr 0), some (.ref 0), some (.ref 387), some (.int 6)], [.int 0, .int 6], mv_W2)) rfl ?_
      refine mt_runs 1 (f' := (964, [some (.retAddr 0), some (.ref 0), some (.ref 387), some (.int 6)], [], mv_W2)) rfl ?_
      refine mt_runs 1 (f' := (965, [some (.retAddr 0), some (.ref 0), some (.ref 387), some (.int 6)], [.int 1], mv_W2)) rfl ?_
      refine mt_ret rfl rfl ?_
      exact ⟨rfl, Nat.le_of_ble_eq_true rfl, Nat.le_of_ble_eq_true rfl⟩
    · exfalso
      omega
set_option maxRecDepth 100000 in
set_option maxHeartbeats 4000000 in
theorem mv_op11 (x0 x1 x2 x3 x4 x5 : Int32) : mu_G (mt_P (mv_xs x0 x1 x2 x3 x4 x5)) 20 301 (427, [some (.retAddr 0), some (.ref 0), some (.ref 387), some (.int 0)], [], mv_W2) mv_Q := by
  refine mt_runs 1 (f' := (428, [some (.retAddr 0), some (.ref 0), some (.ref 387), some (.int 0)], [.ref 0], mv_W2)) rfl ?_
  refine mt_runs 1 (f' := (429, [some (.retAddr 0), some (.ref 0), some (.ref 387), some (.int 0)], [.retAddr 0, .ref 0], mv_W2)) rfl ?_
  refine mt_runs 1 (f' := (430, [some (.retAddr 0), some (.ref 0), some (.ref 387), some (.int 0)], [.int 0, .retAddr 0, .ref 0], mv_W2)) rfl ?_
  refine mt_runs 1 (f' := (431, [some (.retAddr 0), some (.ref 0), some (.ref 387), some (.int 0)], [.int 1, .int 0, .retAddr 0, .ref 0], mv_W2)) rfl ?_
  refine mt_runs 1 (f' := (432, [some (.retAddr 0), some (.ref 0), some (.ref 387), some (.int 0)], [.int 1, .retAddr 0, .ref 0], mv_W2)) rfl ?_
  refine mt_runs 1 (f' := (433, [some (.retAddr 0), some (.ref 0), some (.ref 387), some (.int 0)], [.int x1, .ref 0], mv_W2)) rfl ?_
  refine mt_runs 1 (f' := (434, [some (.retAddr 0), some (.ref 0), some (.ref 387), some (.int 0)], [.retAddr 0, .int x1, .ref 0], mv_W2)) rfl ?_
  refine mt_runs 1 (f' := (435, [some (.retAddr 0), some (.ref 0), some (.ref 387), some (.int 0)], [.int 0, .retAddr 0, .int x1, .ref 0], mv_W2)) rfl ?_
  refine mt_runs 1 (f' := (436, [some (.retAddr 0), some (.ref 0), some (.ref 387), some (.int 0)], [.int 2, .int 0, .retAddr 0, .int x1, .ref 0], mv_W2)) rfl ?_
  refine mt_runs 1 (f' := (437, [some (.retAddr 0), some (.ref 0), some (.ref 387), some (.int 0)], [.int 2, .retAddr 0, .int x1, .ref 0], mv_W2)) rfl ?_
  refine mt_runs 1 (f' := (438, [some (.retAddr 0), some (.ref 0), some (.ref 387), some (.int 0)], [.int x2, .int x1, .ref 0], mv_W2)) rfl ?_
  refine mt_call rfl (fun _ => rfl) ⟨Nat.le_of_ble_eq_true rfl, Nat.le_of_ble_eq_true rfl, rfl⟩ (Nat.le_of_ble_eq_true rfl) ?_
  refine mt_runs 2 (f' := (2, [some (.ref 0), some (.int x1), some (.int x2)], [.int x1, .ref 0], mv_W2)) rfl ?_
  refine mt_callX rfl (fun _ => rfl) ⟨Nat.le_of_ble_eq_true rfl, Nat.le_of_ble_eq_true rfl, rfl⟩ (mv_lives0 _ x1) ?_
  refine mt_runs 2 (f' := (29, [some (.ref 0), some (.int x1), some (.int x2)], [.int 0], mv_W2)) rfl ?_
  refine mt_ret rfl rfl ?_
  refine mt_runs 1 (f' := (442, [some (.retAddr 0), some (.ref 0), some (.ref 387), some (.int 0)], [.ref 387, .int 0], mv_W2)) rfl ?_
  refine mt_runs 1 (f' := (443, [some (.retAddr 0), some (.ref 0), some (.ref 387), some (.int 0)], [.retAddr 0, .ref 387, .int 0], mv_W2)) rfl ?_
  refine mt_runs 1 (f' := (444, [some (.retAddr 0), some (.ref 0), some (.ref 387), some (.int 0)], [.int 0, .retAddr 0, .ref 387, .int 0], mv_W2)) rfl ?_
  refine mt_runs 1 (f' := (445, [some (.retAddr 0), some (.ref 0), some (.ref 387), some (.int 0)], [.int 1, .int 0, .retAddr 0, .ref 387, .int 0], mv_W2)) rfl ?_
  refine mt_runs 1 (f' := (446, [some (.retAddr 0), some (.ref 0), some (.ref 387), some (.int 0)], [.int 1, .retAddr 0, .ref 387, .int 0], mv_W2)) rfl ?_
  refine mt_runs 1 (f' := (447, [some (.retAddr 0), some (.ref 0), some (.ref 387), some (.int 0)], [.int x1, .ref 387, .int 0], mv_W2)) rfl ?_
  refine mt_runs 1 (f' := (448, [some (.retAddr 0), some (.ref 0), some (.ref 387), some (.int 0)], [.retAddr 0, .int x1, .ref 387, .int 0], mv_W2)) rfl ?_
  refine mt_runs 1 (f' := (449, [some (.retAddr 0), some (.ref 0), some (.ref 387), some (.int 0)], [.int 0, .retAddr 0, .int x1, .ref 387, .int 0], mv_W2)) rfl ?_
  refine mt_runs 1 (f' := (450, [some (.retAddr 0), some (.ref 0), some (.ref 387), some (.int 0)], [.int 2, .int 0, .retAddr 0, .int x1, .ref 387, .int 0], mv_W2)) rfl ?_
  refine mt_runs 1 (f' := (451, [some (.retAddr 0), some (.ref 0), some (.ref 387), some (.int 0)], [.int 2, .retAddr 0, .int x1, .ref 387, .int 0], mv_W2)) rfl ?_
  refine mt_runs 1 (f' := (452, [some (.retAddr 0), some (.ref 0), some (.ref 387), some (.int 0)], [.int x2, .int x1, .ref 387, .int 0], mv_W2)) rfl ?_
  refine mt_call rfl (fun _ => rfl) ⟨Nat.le_of_ble_eq_true rfl, Nat.le_of_ble_eq_true rfl, rfl⟩ (Nat.le_of_ble_eq_true rfl) ?_
  refine mt_runs 2 (f' := (2, [some (.ref 387), some (.int x1), some (.int x2)], [.int x1, .ref 387], mv_W2)) rfl ?_
  refine mt_call rfl (fun _ => rfl) ⟨Nat.le_of_ble_eq_true rfl, Nat.le_of_ble_eq_true rfl, rfl⟩ (Nat.le_of_ble_eq_true rfl) ?_
  refine mt_runs 6 (f' := (8, [some (.ref 387), some (.int x1)], [.int (-1), .int 0, .int x1], mv_W2)) rfl ?_
  refine mt_call rfl (fun _ => rfl) ⟨Nat.le_of_ble_eq_true rfl, Nat.le_of_ble_eq_true rfl, rfl⟩ (Nat.le_of_ble_eq_true rfl) ?_
  refine mt_runs 2 (f' := (2, [some (.int x1), some (.int 0), some (.int (-1))], [.int 0, .int x1], mv_W2)) rfl ?_
  refine mu_icmp (tgt := 14) rfl (by decide) (fun (c1 : x1.toInt < 0) => ?_) (fun (c1 : ¬ (x1.toInt < 0)) => ?_)
  · refine mt_runs 1 (f' := (15, [some (.int x1), some (.int 0), some (.int (-1))], [.int 0], mv_W2)) rfl ?_
    refine mt_ret rfl rfl ?_
    refine mt_runs 2 (f' := (28, [some (.ref 387), some (.int x1)], [.int 0], mv_W2)) rfl ?_
    refine mt_ret rfl rfl ?_
    refine mt_runs 2 (f' := (36, [some (.ref 387), some (.int x1), some (.int x2)], [.int 0], mv_W2)) rfl ?_
    refine mt_ret rfl rfl ?_
    refine mt_runs 1 (f' := (958, [some (.retAddr 0), some (.ref 0), some (.ref 387), some (.int 0)], [], mv_W2)) rfl ?_
    refine mt_runs 1 (f' := (961, [some (.retAddr 0), some (.ref 0), some (.ref 387), some (.int 6)], [], mv_W2)) rfl ?_
    refine mt_runs 1 (f' := (18, [some (.retAddr 0), some (.ref 0), some (.ref 387), some (.int 6)], [], mv_W2)) rfl ?_
    refine mt_runs 1 (f' := (19, [some (.retAddr 0), some (.ref 0), some (.ref 387), some (.int 6)], [.int 6], mv_W2)) rfl ?_
    refine mt_runs 1 (f' := (20, [some (.retAddr 0), some (.ref 0), some (.ref 387), some (.int 6)], [.retAddr 0, .int 6], mv_W2)) rfl ?_
    refine mt_runs 1 (f' := (21, [some (.retAddr 0), some (.ref 0), some (.ref 387), some (.int 6)], [.int 6, .int 6], mv_W2)) rfl ?_
    refine mt_runs 1 (f' := (23, [some (.retAddr 0), some (.ref 0), some (.ref 387), some (.int 6)], [.int 6, .int 6, .int 6], mv_W2)) rfl ?_
    refine mt_runs 1 (f' := (24, [some (.retAddr 0), some (.ref 0), some (.ref 387), some (.int 6)], [.int 0, .int 6], mv_W2)) rfl ?_
    refine mt_runs 1 (f' := (964, [some (.retAddr 0), some (.ref 0), some (.ref 387), some (.int 6)], [], mv_W2)) rfl ?_
    refine mt_runs 1 (f' := (965, [some (.retAddr 0), some (.ref 0), some (.ref 387), some (.int 6)], [.int 1], mv_W2)) rfl ?_
    refine mt_ret rfl rfl ?_
    exact ⟨rfl, Nat.le_of_ble_eq_true rfl, Nat.le_of_ble_eq_true rfl⟩
  · refine mt_runs 2 (f' := (7, [some (.int x1), some (.int 0), some (.int (-1))], [.int (-1), .int x1], mv_W2)) rfl ?_
    refine mu_icmp (tgt := 14) rfl (by decide) (fun (c2 : (-1) < x1.toInt) => ?_) (fun (c2 : ¬ ((-1) < x1.toInt)) => ?_)
    · refine mt_runs 1 (f' := (15, [some (.int x1), some (.int 0), some (.int (-1))], [.int 0], mv_W2)) rfl ?_
      refine mt_ret rfl rfl ?_
      refine mt_runs 2 (f' := (28, [some (.ref 387), some (.int x1)], [.int 0], mv_W2)) rfl ?_
      refine mt_ret rfl rfl ?_
      refine mt_runs 2 (f' := (36, [some (.ref 387), some (.int x1), some (.int x2)], [.int 0], mv_W2)) rfl ?_
      refine mt_ret rfl rfl ?_
      refine mt_runs 1 (f' := (958, [some (.retAddr 0), some (.ref 0), some (.ref 387), some (.int 0)], [], mv_W2)) rfl ?_
      refine mt_runs 1 (f' := (961, [some (.retAddr 0), some (.ref 0), some (.ref 387), some (.int 6)], [], mv_W2)) rfl ?_
      refine mt_runs 1 (f' := (18, [some (.retAddr 0), some (.ref 0), some (.ref 387), some (.int 6)], [], mv_W2)) rfl ?_
      refine mt_runs 1 (f' := (19, [some (.retAddr 0), some (.ref 0), some (.ref 387), some (.int 6)], [.int 6], mv_W2)) rfl ?_
      refine mt_runs 1 (f' := (20, [some (.retAddr 0), some (.ref 0), some (.ref 387), some (.int 6)], [.retAddr 0, .int 6], mv_W2)) rfl ?_
      refine mt_runs 1 (f' := (21, [some (.retAddr 0), some (.ref 0), some (.ref 387), some (.int 6)], [.int 6, .int 6], mv_W2)) rfl ?_
      refine mt_runs 1 (f' := (23, [some (.retAddr 0), some (.ref 0), some (.ref 387), some (.int 6)], [.int 6, .int 6, .int 6], mv_W2)) rfl ?_
      refine mt_runs 1 (f' := (24, [some (.retAddr 0), some (.ref 0), some (.ref 387), some (.int 6)], [.int 0, .int 6], mv_W2)) rfl ?_
      refine mt_runs 1 (f' := (964, [some (.retAddr 0), some (.ref 0), some (.ref 387), some (.int 6)], [], mv_W2)) rfl ?_
      refine mt_runs 1 (f' := (965, [some (.retAddr 0), some (.ref 0), some (.ref 387), some (.int 6)], [.int 1], mv_W2)) rfl ?_
      refine mt_ret rfl rfl ?_
      exact ⟨rfl, Nat.le_of_ble_eq_true rfl, Nat.le_of_ble_eq_true rfl⟩
    · exfalso
      omega
set_option maxRecDepth 100000 in
set_option maxHeartbeats 4000000 in
theorem mv_op12 (x0 x1 x2 x3 x4 x5 : Int32) : mu_G (mt_P (mv_xs x0 x1 x2 x3 x4 x5)) 20 301 (460, [some (.retAddr 0), some (.ref 0), some (.ref 387), some (.int 0)], [], mv_W2) mv_Q := by
  refine mt_runs 1 (f' := (461, [some (.retAddr 0), some (.ref 0), some (.ref 387), some (.int 0)], [.ref 0], mv_W2)) rfl ?_
  refine mt_runs 1 (f' := (462, [some (.retAddr 0), some (.ref 0), some (.ref 387), some (.int 0)], [.retAddr 0, .ref 0], mv_W2)) rfl ?_
  refine mt_runs 1 (f' := (463, [some (.retAddr 0), some (.ref 0), some (.ref 387), some (.int 0)], [.int 0, .retAddr 0, .ref 0], mv_W2)) rfl ?_
  refine mt_runs 1 (f' := (464, [some (.retAddr 0), some (.ref 0), some (.ref 387), some (.int 0)], [.int 1, .int 0, .retAddr 0, .ref 0], mv_W2)) rfl ?_
  refine mt_runs 1 (f' := (465, [some (.retAddr 0), some (.ref 0), some (.ref 387), some (.int 0)], [.int 1, .retAddr 0, .ref 0], mv_W2)) rfl ?_
  refine mt_runs 1 (f' := (466, [some (.retAddr 0), some (.ref 0), some (.ref 387), some (.int 0)], [.int x1, .ref 0], mv_W2)) rfl ?_
  refine mt_runs 1 (f' := (467, [some (.retAddr 0), some (.ref 0), some (.ref 387), some (.int 0)], [.retAddr 0, .int x1, .ref 0], mv_W2)) rfl ?_
  refine mt_runs 1 (f' := (468, [some (.retAddr 0), some (.ref 0), some (.ref 387), some (.int 0)], [.int 0, .retAddr 0, .int x1, .ref 0], mv_W2)) rfl ?_
  refine mt_runs 1 (f' := (469, [some (.retAddr 0), some (.ref 0), some (.ref 387), some (.int 0)], [.int 2, .int 0, .retAddr 0, .int x1, .ref 0], mv_W2)) rfl ?_
  refine mt_runs 1 (f' := (470, [some (.retAddr 0), some (.ref 0), some (.ref 387), some (.int 0)], [.int 2, .retAddr 0, .int x1, .ref 0], mv_W2)) rfl ?_
  refine mt_runs 1 (f' := (471, [some (.retAddr 0), some (.ref 0), some (.ref 387), some (.int 0)], [.int x2, .int x1, .ref 0], mv_W2)) rfl ?_
  refine mt_call rfl (fun _ => rfl) ⟨Nat.le_of_ble_eq_true rfl, Nat.le_of_ble_eq_true rfl, rfl⟩ (Nat.le_of_ble_eq_true rfl) ?_
  refine mt_runs 2 (f' := (2, [some (.ref 0), some (.int x1), some (.int x2), none], [.int x1, .ref 0], mv_W2)) rfl ?_
  refine mt_callX rfl (fun _ => rfl) ⟨Nat.le_of_ble_eq_true rfl, Nat.le_of_ble_eq_true rfl, rfl⟩ (mv_lives0 _ x1) ?_
  refine mt_runs 2 (f' := (16, [some (.ref 0), some (.int x1), some (.int x2), none], [.int 0], mv_W2)) rfl ?_
  refine mt_ret rfl rfl ?_
  refine mt_runs 1 (f' := (475, [some (.retAddr 0), some (.ref 0), some (.ref 387), some (.int 0)], [.ref 387, .int 0], mv_W2)) rfl ?_
  refine mt_runs 1 (f' := (476, [some (.retAddr 0), some (.ref 0), some (.ref 387), some (.int 0)], [.retAddr 0, .ref 387, .int 0], mv_W2)) rfl ?_
  refine mt_runs 1 (f' := (477, [some (.retAddr 0), some (.ref 0), some (.ref 387), some (.int 0)], [.int 0, .retAddr 0, .ref 387, .int 0], mv_W2)) rfl ?_
  refine mt_runs 1 (f' := (478, [some (.retAddr 0), some (.ref 0), some (.ref 387), some (.int 0)], [.int 1, .int 0, .retAddr 0, .ref 387, .int 0], mv_W2)) rfl ?_
  refine mt_runs 1 (f' := (479, [some (.retAddr 0), some (.ref 0), some (.ref 387), some (.int 0)], [.int 1, .retAddr 0, .ref 387, .int 0], mv_W2)) rfl ?_
  refine mt_runs 1 (f' := (480, [some (.retAddr 0), some (.ref 0), some (.ref 387), some (.int 0)], [.int x1, .ref 387, .int 0], mv_W2)) rfl ?_
  refine mt_runs 1 (f' := (481, [some (.retAddr 0), some (.ref 0), some (.ref 387), some (.int 0)], [.retAddr 0, .int x1, .ref 387, .int 0], mv_W2)) rfl ?_
  refine mt_runs 1 (f' := (482, [some (.retAddr 0), some (.ref 0), some (.ref 387), some (.int 0)], [.int 0, .retAddr 0, .int x1, .ref 387, .int 0], mv_W2)) rfl ?_
  refine mt_runs 1 (f' := (483, [some (.retAddr 0), some (.ref 0), some (.ref 387), some (.int 0)], [.int 2, .int 0, .retAddr 0, .int x1, .ref 387, .int 0], mv_W2)) rfl ?_
  refine mt_runs 1 (f' := (484, [some (.retAddr 0), some (.ref 0), some (.ref 387), some (.int 0)], [.int 2, .retAddr 0, .int x1, .ref 387, .int 0], mv_W2)) rfl ?_
  refine mt_runs 1 (f' := (485, [some (.retAddr 0), some (.ref 0), some (.ref 387), some (.int 0)], [.int x2, .int x1, .ref 387, .int 0], mv_W2)) rfl ?_
  refine mt_call rfl (fun _ => rfl) ⟨Nat.le_of_ble_eq_true rfl, Nat.le_of_ble_eq_true rfl, rfl⟩ (Nat.le_of_ble_eq_true rfl) ?_
  refine mt_runs 3 (f' := (3, [some (.ref 387), some (.int x1), some (.int x2)], [.int x2, .int x1, .ref 387], mv_W2)) rfl ?_
  refine mt_call rfl (fun _ => rfl) ⟨Nat.le_of_ble_eq_true rfl, Nat.le_of_ble_eq_true rfl, rfl⟩ (Nat.le_of_ble_eq_true rfl) ?_
  refine mt_runs 2 (f' := (2, [some (.ref 387), some (.int x1), some (.int x2)], [.int x1, .ref 387], mv_W2)) rfl ?_
  refine mt_call rfl (fun _ => rfl) ⟨Nat.le_of_ble_eq_true rfl, Nat.le_of_ble_eq_true rfl, rfl⟩ (Nat.le_of_ble_eq_true rfl) ?_
  refine mt_runs 6 (f' := (8, [some (.ref 387), some (.int x1)], [.int (-1), .int 0, .int x1], mv_W2)) rfl ?_
  refine mt_call rfl (fun _ => rfl) ⟨Nat.le_of_ble_eq_true rfl, Nat.le_of_ble_eq_true rfl, rfl⟩ (Nat.le_of_ble_eq_true rfl) ?_
  refine mt_runs 2 (f' := (2, [some (.int x1), some (.int 0), some (.int (-1))], [.int 0, .int x1], mv_W2)) rfl ?_
  refine mu_icmp (tgt := 14) rfl (by decide) (fun (c1 : x1.toInt < 0) => ?_) (fun (c1 : ¬ (x1.toInt < 0)) => ?_)
  · refine mt_runs 1 (f' := (15, [some (.int x1), some (.int 0), some (.int (-1))], [.int 0], mv_W2)) rfl ?_
    refine mt_ret rfl rfl ?_
    refine mt_runs 2 (f' := (28, [some (.ref 387), some (.int x1)], [.int 0], mv_W2)) rfl ?_
    refine mt_ret rfl rfl ?_
    refine mt_runs 2 (f' := (36, [some (.ref 387), some (.int x1), some (.int x2)], [.int 0], mv_W2)) rfl ?_
    refine mt_ret rfl rfl ?_
    refine mt_runs 3 (f' := (23, [some (.ref 387), some (.int x1), some (.int x2)], [.int x1, .ref 387], mv_W2)) rfl ?_
    refine mt_call rfl (fun _ => rfl) ⟨Nat.le_of_ble_eq_true rfl, Nat.le_of_ble_eq_true rfl, rfl⟩ (Nat.le_of_ble_eq_true rfl) ?_
    refine mt_runs 6 (f' := (8, [some (.ref 387), some (.int x1)], [.int (-1), .int 0, .int x1], mv_W2)) rfl ?_
    refine mt_call rfl (fun _ => rfl) ⟨Nat.le_of_ble_eq_true rfl, Nat.le_of_ble_eq_true rfl, rfl⟩ (Nat.le_of_ble_eq_true rfl) ?_
    refine mt_runs 2 (f' := (2, [some (.int x1), some (.int 0), some (.int (-1))], [.int 0, .int x1], mv_W2)) rfl ?_
    refine mu_icmp (tgt := 14) rfl (by decide) (fun (c2 : x1.toInt < 0) => ?_) (fun (c2 : ¬ (x1.toInt < 0)) => ?_)
    · refine mt_runs 1 (f' := (15, [some (.int x1), some (.int 0), some (.int (-1))], [.int 0], mv_W2)) rfl ?_
      refine mt_ret rfl rfl ?_
      refine mt_runs 2 (f' := (28, [some (.ref 387), some (.int x1)], [.int 0], mv_W2)) rfl ?_
      refine mt_ret rfl rfl ?_
      refine mt_runs 2 (f' := (65, [some (.ref 387), some (.int x1), some (.int x2)], [.int 0], mv_W2)) rfl ?_
      refine mt_ret rfl rfl ?_
      refine mt_runs 1 (f' := (958, [some (.retAddr 0), some (.ref 0), some (.ref 387), some (.int 0)], [], mv_W2)) rfl ?_
      refine mt_runs 1 (f' := (961, [some (.retAddr 0), some (.ref 0), some (.ref 387), some (.int 6)], [], mv_W2)) rfl ?_
      refine mt_runs 1 (f' := (18, [some (.retAddr 0), some (.ref 0), some (.ref 387), some (.int 6)], [], mv_W2)) rfl ?_
      refine mt_runs 1 (f' := (19, [some (.retAddr 0), some (.ref 0), some (.ref 387), some (.int 6)], [.int 6], mv_W2)) rfl ?_
      refine mt_runs 1 (f' := (20, [some (.retAddr 0), some (.ref 0), some (.ref 387), some (.int 6)], [.retAddr 0, .int 6], mv_W2)) rfl ?_
      refine mt_runs 1 (f' := (21, [some (.retAddr 0), some (.ref 0), some (.ref 387), some (.int 6)], [.int 6, .int 6], mv_W2)) rfl ?_
      refine mt_runs 1 (f' := (23, [some (.retAddr 0), some (.ref 0), some (.ref 387), some (.int 6)], [.int 6, .int 6, .int 6], mv_W2)) rfl ?_
      refine mt_runs 1 (f' := (24, [some (.retAddr 0), some (.ref 0), some (.ref 387), some (.int 6)], [.int 0, .int 6], mv_W2)) rfl ?_
      refine mt_runs 1 (f' := (964, [some (.retAddr 0), some (.ref 0), some (.ref 387), some (.int 6)], [], mv_W2)) rfl ?_
      refine mt_runs 1 (f' := (965, [some (.retAddr 0), some (.ref 0), some (.ref 387), some (.int 6)], [.int 1], mv_W2)) rfl ?_
      refine mt_ret rfl rfl ?_
      exact ⟨rfl, Nat.le_of_ble_eq_true rfl, Nat.le_of_ble_eq_true rfl⟩
    · exfalso
      omega
  · refine mt_runs 2 (f' := (7, [some (.int x1), some (.int 0), some (.int (-1))], [.int (-1), .int x1], mv_W2)) rfl ?_
    refine mu_icmp (tgt := 14) rfl (by decide) (fun (c3 : (-1) < x1.toInt) => ?_) (fun (c3 : ¬ ((-1) < x1.toInt)) => ?_)
    · refine mt_runs 1 (f' := (15, [some (.int x1), some (.int 0), some (.int (-1))], [.int 0], mv_W2)) rfl ?_
      refine mt_ret rfl rfl ?_
      refine mt_runs 2 (f' := (28, [some (.ref 387), some (.int x1)], [.int 0], mv_W2)) rfl ?_
      refine mt_ret rfl rfl ?_
      refine mt_runs 2 (f' := (36, [some (.ref 387), some (.int x1), some (.int x2)], [.int 0], mv_W2)) rfl ?_
      refine mt_ret rfl rfl ?_
      refine mt_runs 3 (f' := (23, [some (.ref 387), some (.int x1), some (.int x2)], [.int x1, .ref 387], mv_W2)) rfl ?_
      refine mt_call rfl (fun _ => rfl) ⟨Nat.le_of_ble_eq_true rfl, Nat.le_of_ble_eq_true rfl, rfl⟩ (Nat.le_of_ble_eq_true rfl) ?_
      refine mt_runs 6 (f' := (8, [some (.ref 387), some (.int x1)], [.int (-1), .int 0, .int x1], mv_W2)) rfl ?_
      refine mt_call rfl (fun _ => rfl) ⟨Nat.le_of_ble_eq_true rfl, Nat.le_of_ble_eq_true rfl, rfl⟩ (Nat.le_of_ble_eq_true rfl) ?_
      refine mt_runs 2 (f' := (2, [some (.int x1), some (.int 0), some (.int (-1))], [.int 0, .int x1], mv_W2)) rfl ?_
      refine mu_icmp (tgt := 14) rfl (by decide) (fun (c4 : x1.toInt < 0) => ?_) (fun (c4 : ¬ (x1.toInt < 0)) => ?_)
      · exfalso
        omega
      · refine mt_runs 2 (f' := (7, [some (.int x1), some (.int 0), some (.int (-1))], [.int (-1), .int x1], mv_W2)) rfl ?_
        refine mu_icmp (tgt := 14) rfl (by decide) (fun (c5 : (-1) < x1.toInt) => ?_) (fun (c5 : ¬ ((-1) < x1.toInt)) => ?_)
        · refine mt_runs 1 (f' := (15, [some (.int x1), some (.int 0), some (.int (-1))], [.int 0], mv_W2)) rfl ?_
          refine mt_ret rfl rfl ?_
          refine mt_runs 2 (f' := (28, [some (.ref 387), some (.int x1)], [.int 0], mv_W2)) rfl ?_
          refine mt_ret rfl rfl ?_
          refine mt_runs 2 (f' := (65, [some (.ref 387), some (.int x1), some (.int x2)], [.int 0], mv_W2)) rfl ?_
          refine mt_ret rfl rfl ?_
          refine mt_runs 1 (f' := (958, [some (.retAddr 0), some (.ref 0), some (.ref 387), some (.int 0)], [], mv_W2)) rfl ?_
          refine mt_runs 1 (f' := (961, [some (.retAddr 0), some (.ref 0), some (.ref 387), some (.int 6)], [], mv_W2)) rfl ?_
          refine mt_runs 1 (f' := (18, [some (.retAddr 0), some (.ref 0), some (.ref 387), some (.int 6)], [], mv_W2)) rfl ?_
          refine mt_runs 1 (f' := (19, [some (.retAddr 0), some (.ref 0), some (.ref 387), some (.int 6)], [.int 6], mv_W2)) rfl ?_
          refine mt_runs 1 (f' := (20, [some (.retAddr 0), some (.ref 0), some (.ref 387), some (.int 6)], [.retAddr 0, .int 6], mv_W2)) rfl ?_
          refine mt_runs 1 (f' := (21, [some (.retAddr 0), some (.ref 0), some (.ref 387), some (.int 6)], [.int 6, .int 6], mv_W2)) rfl ?_
          refine mt_runs 1 (f' := (23, [some (.retAddr 0), some (.ref 0), some (.ref 387), some (.int 6)], [.int 6, .int 6, .int 6], mv_W2)) rfl ?_
          refine mt_runs 1 (f' := (24, [some (.retAddr 0), some (.ref 0), some (.ref 387), some (.int 6)], [.int 0, .int 6], mv_W2)) rfl ?_
          refine mt_runs 1 (f' := (964, [some (.retAddr 0), some (.ref 0), some (.ref 387), some (.int 6)], [], mv_W2)) rfl ?_
          refine mt_runs 1 (f' := (965, [some (.retAddr 0), some (.ref 0), some (.ref 387), some (.int 6)], [.int 1], mv_W2)) rfl ?_
          refine mt_ret rfl rfl ?_
          exact ⟨rfl, Nat.le_of_ble_eq_true rfl, Nat.le_of_ble_eq_true rfl⟩
        · exfalso
          omega
    · exfalso
      omega
set_option maxRecDepth 100000 in
set_option maxHeartbeats 4000000 in
theorem mv_op13 (x0 x1 x2 x3 x4 x5 : Int32) : mu_G (mt_P (mv_xs x0 x1 x2 x3 x4 x5)) 20 301 (493, [some (.retAddr 0), some (.ref 0), some (.ref 387), some (.int 0)], [], mv_W2) mv_Q := by
  refine mt_runs 1 (f' := (494, [some (.retAddr 0), some (.ref 0), some (.ref 387), some (.int 0)], [.ref 0], mv_W2)) rfl ?_
  refine mt_runs 1 (f' := (495, [some (.retAddr 0), some (.ref 0), some (.ref 387), some (.int 0)], [.retAddr 0, .ref 0], mv_W2)) rfl ?_
  refine mt_runs 1 (f' := (496, [some (.retAddr 0), some (.ref 0), some (.ref 387), some (.int 0)], [.int 0, .retAddr 0, .ref 0], mv_W2)) rfl ?_
  refine mt_runs 1 (f' := (497, [some (.retAddr 0), some (.ref 0), some (.ref 387), some (.int 0)], [.int 1, .int 0, .retAddr 0, .ref 0], mv_W2)) rfl ?_
  refine mt_runs 1 (f' := (498, [some (.retAddr 0), some (.ref 0), some (.ref 387), some (.int 0)], [.int 1, .retAddr 0, .ref 0], mv_W2)) rfl ?_
  refine mt_runs 1 (f' := (499, [some (.retAddr 0), some (.ref 0), some (.ref 387), some (.int 0)], [.int x1, .ref 0], mv_W2)) rfl ?_
  refine mt_runs 1 (f' := (500, [some (.retAddr 0), some (.ref 0), some (.ref 387), some (.int 0)], [.retAddr 0, .int x1, .ref 0], mv_W2)) rfl ?_
  refine mt_runs 1 (f' := (501, [some (.retAddr 0), some (.ref 0), some (.ref 387), some (.int 0)], [.int 0, .retAddr 0, .int x1, .ref 0], mv_W2)) rfl ?_
  refine mt_runs 1 (f' := (502, [some (.retAddr 0), some (.ref 0), some (.ref 387), some (.int 0)], [.int 2, .int 0, .retAddr 0, .int x1, .ref 0], mv_W2)) rfl ?_
  refine mt_runs 1 (f' := (503, [some (.retAddr 0), some (.ref 0), some (.ref 387), some (.int 0)], [.int 2, .retAddr 0, .int x1, .ref 0], mv_W2)) rfl ?_
  refine mt_runs 1 (f' := (504, [some (.retAddr 0), some (.ref 0), some (.ref 387), some (.int 0)], [.int x2, .int x1, .ref 0], mv_W2)) rfl ?_
  refine mt_runs 1 (f' := (505, [some (.retAddr 0), some (.ref 0), some (.ref 387), some (.int 0)], [.retAddr 0, .int x2, .int x1, .ref 0], mv_W2)) rfl ?_
  refine mt_runs 1 (f' := (506, [some (.retAddr 0), some (.ref 0), some (.ref 387), some (.int 0)], [.int 0, .retAddr 0, .int x2, .int x1, .ref 0], mv_W2)) rfl ?_
  refine mt_runs 1 (f' := (507, [some (.retAddr 0), some (.ref 0), some (.ref 387), some (.int 0)], [.int 3, .int 0, .retAddr 0, .int x2, .int x1, .ref 0], mv_W2)) rfl ?_
  refine mt_runs 1 (f' := (508, [some (.retAddr 0), some (.ref 0), some (.ref 387), some (.int 0)], [.int 3, .retAddr 0, .int x2, .int x1, .ref 0], mv_W2)) rfl ?_
  refine mt_runs 1 (f' := (509, [some (.retAddr 0), some (.ref 0), some (.ref 387), some (.int 0)], [.int x3, .int x2, .int x1, .ref 0], mv_W2)) rfl ?_
  refine mt_call rfl (fun _ => rfl) ⟨Nat.le_of_ble_eq_true rfl, Nat.le_of_ble_eq_true rfl, rfl⟩ (Nat.le_of_ble_eq_true rfl) ?_
  refine mt_runs 2 (f' := (2, [some (.ref 0), some (.int x1), some (.int x2), some (.int x3)], [.int x1, .ref 0], mv_W2)) rfl ?_
  refine mt_callX rfl (fun _ => rfl) ⟨Nat.le_of_ble_eq_true rfl, Nat.le_of_ble_eq_true rfl, rfl⟩ (mv_lives0 _ x1) ?_
  refine mt_runs 2 (f' := (25, [some (.ref 0), some (.int x1), some (.int x2), some (.int x3)], [.int 0], mv_W2)) rfl ?_
  refine mt_ret rfl rfl ?_
  refine mt_runs 1 (f' := (513, [some (.retAddr 0), some (.ref 0), some (.ref 387), some (.int 0)], [.ref 387, .int 0], mv_W2)) rfl ?_
  refine mt_runs 1 (f' := (514, [some (.retAddr 0), some (.ref 0), some (.ref 387), some (.int 0)], [.retAddr 0, .ref 387, .int 0], mv_W2)) rfl ?_
  refine mt_runs 1 (f' := (515, [some (.retAddr 0), some (.ref 0), some (.ref 387), some (.int 0)], [.int 0, .retAddr 0, .ref 387, .int 0], mv_W2)) rfl ?_
  refine mt_runs 1 (f' := (516, [some (.retAddr 0), some (.ref 0), some (.ref 387), some (.int 0)], [.int 1, .int 0, .retAddr 0, .ref 387, .int 0], mv_W2)) rfl ?_
  refine mt_runs 1 (f' := (517, [some (.retAddr 0), some (.ref 0), some (.ref 387), some (.int 0)], [.int 1, .retAddr 0, .ref 387, .int 0], mv_W2)) rfl ?_
  refine mt_runs 1 (f' := (518, [some (.retAddr 0), some (.ref 0), some (.ref 387), some (.int 0)], [.int x1, .ref 387, .int 0], mv_W2)) rfl ?_
  refine mt_runs 1 (f' := (519, [some (.retAddr 0), some (.ref 0), some (.ref 387), some (.int 0)], [.retAddr 0, .int x1, .ref 387, .int 0], mv_W2)) rfl ?_
  refine mt_runs 1 (f' := (520, [some (.retAddr 0), some (.ref 0), some (.ref 387), some (.int 0)], [.int 0, .retAddr 0, .int x1, .ref 387, .int 0], mv_W2)) rfl ?_
  refine mt_runs 1 (f' := (521, [some (.retAddr 0), some (.ref 0), some (.ref 387), some (.int 0)], [.int 2, .int 0, .retAddr 0, .int x1, .ref 387, .int 0], mv_W2)) rfl ?_
  refine mt_runs 1 (f' := (522, [some (.retAddr 0), some (.ref 0), some (.ref 387), some (.int 0)], [.int 2, .retAddr 0, .int x1, .ref 387, .int 0], mv_W2)) rfl ?_
  refine mt_runs 1 (f' := (523, [some (.retAddr 0), some (.ref 0), some (.ref 387), some (.int 0)], [.int x2, .int x1, .ref 387, .int 0], mv_W2)) rfl ?_
  refine mt_runs 1 (f' := (524, [some (.retAddr 0), some (.ref 0), some (.ref 387), some (.int 0)], [.retAddr 0, .int x2, .int x1, .ref 387, .int 0], mv_W2)) rfl ?_
  refine mt_runs 1 (f' := (525, [some (.retAddr 0), some (.ref 0), some (.ref 387), some (.int 0)], [.int 0, .retAddr 0, .int x2, .int x1, .ref 387, .int 0], mv_W2)) rfl ?_
  refine mt_runs 1 (f' := (526, [some (.retAddr 0), some (.ref 0), some (.ref 387), some (.int 0)], [.int 3, .int 0, .retAddr 0, .int x2, .int x1, .ref 387, .int 0], mv_W2)) rfl ?_
  refine mt_runs 1 (f' := (527, [some (.retAddr 0), some (.ref 0), some (.ref 387), some (.int 0)], [.int 3, .retAddr 0, .int x2, .int x1, .ref 387, .int 0], mv_W2)) rfl ?_
  refine mt_runs 1 (f' := (528, [some (.retAddr 0), some (.ref 0), some (.ref 387), some (.int 0)], [.int x3, .int x2, .int x1, .ref 387, .int 0], mv_W2)) rfl ?_
  refine mt_call rfl (fun _ => rfl) ⟨Nat.le_of_ble_eq_true rfl, Nat.le_of_ble_eq_true rfl, rfl⟩ (Nat.le_of_ble_eq_true rfl) ?_
  refine mt_runs 3 (f' := (3, [some (.ref 387), some (.int x1), some (.int x2), some (.int x3)], [.int x2, .int x1, .ref 387], mv_W2)) rfl ?_
  refine mt_call rfl (fun _ => rfl) ⟨Nat.le_of_ble_eq_true rfl, Nat.le_of_ble_eq_true rfl, rfl⟩ (Nat.le_of_ble_eq_true rfl) ?_
  refine mt_runs 2 (f' := (2, [some (.ref 387), some (.int x1), some (.int x2)], [.int x1, .ref 387], mv_W2)) rfl ?_
  refine mt_call rfl (fun _ => rfl) ⟨Nat.le_of_ble_eq_true rfl, Nat.le_of_ble_eq_true rfl, rfl⟩ (Nat.le_of_ble_eq_true rfl) ?_
  refine mt_runs 6 (f' := (8, [some (.ref 387), some (.int x1)], [.int (-1), .int 0, .int x1], mv_W2)) rfl ?_
  refine mt_call rfl (fun _ => rfl) ⟨Nat.le_of_ble_eq_true rfl, Nat.le_of_ble_eq_true rfl, rfl⟩ (Nat.le_of_ble_eq_true rfl) ?_
  refine mt_runs 2 (f' := (2, [some (.int x1), some (.int 0), some (.int (-1))], [.int 0, .int x1], mv_W2)) rfl ?_
  refine mu_icmp (tgt := 14) rfl (by decide) (fun (c1 : x1.toInt < 0) => ?_) (fun (c1 : ¬ (x1.toInt < 0)) => ?_)
  · refine mt_runs 1 (f' := (15, [some (.int x1), some (.int 0), some (.int (-1))], [.int 0], mv_W2)) rfl ?_
    refine mt_ret rfl rfl ?_
    refine mt_runs 2 (f' := (28, [some (.ref 387), some (.int x1)], [.int 0], mv_W2)) rfl ?_
    refine mt_ret rfl rfl ?_
    refine mt_runs 2 (f' := (36, [some (.ref 387), some (.int x1), some (.int x2)], [.int 0], mv_W2)) rfl ?_
    refine mt_ret rfl rfl ?_
    refine mt_runs 2 (f' := (10, [some (.ref 387), some (.int x1), some (.int x2), some (.int x3)], [.int 0], mv_W2)) rfl ?_
    refine mt_ret rfl rfl ?_
    refine mt_runs 1 (f' := (958, [some (.retAddr 0), some (.ref 0), some (.ref 387), some (.int 0)], [], mv_W2)) rfl ?_
    refine mt_runs 1 (f' := (961, [some (.retAddr 0), some (.ref 0), some (.ref 387), some (.int 6)], [], mv_W2)) rfl ?_
    refine mt_runs 1 (f' := (18, [some (.retAddr 0), some (.ref 0), some (.ref 387), some (.int 6)], [], mv_W2)) rfl ?_
    refine mt_runs 1 (f' := (19, [some (.retAddr 0), some (.ref 0), some (.ref 387), some (.int 6)], [.int 6], mv_W2)) rfl ?_
    refine mt_runs 1 (f' := (20, [some (.retAddr 0), some (.ref 0), some (.ref 387), some (.int 6)], [.retAddr 0, .int 6], mv_W2)) rfl ?_
    refine mt_runs 1 (f' := (21, [some (.retAddr 0), some (.ref 0), some (.ref 387), some (.int 6)], [.int 6, .int 6], mv_W2)) rfl ?_
    refine mt_runs 1 (f' := (23, [some (.retAddr 0), some (.ref 0), some (.ref 387), some (.int 6)], [.int 6, .int 6, .int 6], mv_W2)) rfl ?_
    refine mt_runs 1 (f' := (24, [some (.retAddr 0), some (.ref 0), some (.ref 387), some (.int 6)], [.int 0, .int 6], mv_W2)) rfl ?_
    refine mt_runs 1 (f' := (964, [some (.retAddr 0), some (.ref 0), some (.ref 387), some (.int 6)], [], mv_W2)) rfl ?_
    refine mt_runs 1 (f' := (965, [some (.retAddr 0), some (.ref 0), some (.ref 387), some (.int 6)], [.int 1], mv_W2)) rfl ?_
    refine mt_ret rfl rfl ?_
    exact ⟨rfl, Nat.le_of_ble_eq_true rfl, Nat.le_of_ble_eq_true rfl⟩
  · refine mt_runs 2 (f' := (7, [some (.int x1), some (.int 0), some (.int (-1))], [.int (-1), .int x1], mv_W2)) rfl ?_
    refine mu_icmp (tgt := 14) rfl (by decide) (fun (c2 : (-1) < x1.toInt) => ?_) (fun (c2 : ¬ ((-1) < x1.toInt)) => ?_)
    · refine mt_runs 1 (f' := (15, [some (.int x1), some (.int 0), some (.int (-1))], [.int 0], mv_W2)) rfl ?_
      refine mt_ret rfl rfl ?_
      refine mt_runs 2 (f' := (28, [some (.ref 387), some (.int x1)], [.int 0], mv_W2)) rfl ?_
      refine mt_ret rfl rfl ?_
      refine mt_runs 2 (f' := (36, [some (.ref 387), some (.int x1), some (.int x2)], [.int 0], mv_W2)) rfl ?_
      refine mt_ret rfl rfl ?_
      refine mt_runs 2 (f' := (10, [some (.ref 387), some (.int x1), some (.int x2), some (.int x3)], [.int 0], mv_W2)) rfl ?_
      refine mt_ret rfl rfl ?_
      refine mt_runs 1 (f' := (958, [some (.retAddr 0), some (.ref 0), some (.ref 387), some (.int 0)], [], mv_W2)) rfl ?_
      refine mt_runs 1 (f' := (961, [some (.retAddr 0), some (.ref 0), some (.ref 387), some (.int 6)], [], mv_W2)) rfl ?_
      refine mt_runs 1 (f' := (18, [some (.retAddr 0), some (.ref 0), some (.ref 387), some (.int 6)], [], mv_W2)) rfl ?_
      refine mt_runs 1 (f' := (19, [some (.retAddr 0), some (.ref 0), some (.ref 387), some (.int 6)], [.int 6], mv_W2)) rfl ?_
      refine mt_runs 1 (f' := (20, [some (.retAddr 0), some (.ref 0), some (.ref 387), some (.int 6)], [.retAddr 0, .int 6], mv_W2)) rfl ?_
      refine mt_runs 1 (f' := (21, [some (.retAddr 0), some (.ref 0), some (.ref 387), some (.int 6)], [.int 6, .int 6], mv_W2)) rfl ?_
      refine mt_runs 1 (f' := (23, [some (.retAddr 0), some (.ref 0), some (.ref 387), some (.int 6)], [.int 6, .int 6, .int 6], mv_W2)) rfl ?_
      refine mt_runs 1 (f' := (24, [some (.retAddr 0), some (.ref 0), some (.ref 387), some (.int 6)], [.int 0, .int 6], mv_W2)) rfl ?_
      refine mt_runs 1 (f' := (964, [some (.retAddr 0), some (.ref 0), some (.ref 387), some (.int 6)], [], mv_W2)) rfl ?_
      refine mt_runs 1 (f' := (965, [some (.retAddr 0), some (.ref 0), some (.ref 387), some (.int 6)], [.int 1], mv_W2)) rfl ?_
      refine mt_ret rfl rfl ?_
      exact ⟨rfl, Nat.le_of_ble_eq_true rfl, Nat.le_of_ble_eq_true rfl⟩
    · exfalso
      omega
set_option maxRecDepth 100000 in
set_option maxHeartbeats 4000000 in
theorem mv_op14 (x0 x1 x2 x3 x4 x5 : Int32) : mu_G (mt_P (mv_xs x0 x1 x2 x3 x4 x5)) 20 301 (536, [some (.retAddr 0), some (.ref 0), some (.ref 387), some (.int 0)], [], mv_W2) mv_Q := by
  refine mt_runs 1 (f' := (537, [some (.retAddr 0), some (.ref 0), some (.ref 387), some (.int 0)], [.ref 0], mv_W2)) rfl ?_
  refine mt_runs 1 (f' := (538, [some (.retAddr 0), some (.ref 0), some (.ref 387), some (.int 0)], [.retAddr 0, .ref 0], mv_W2)) rfl ?_
  refine mt_runs 1 (f' := (539, [some (.retAddr 0), some (.ref 0), some (.ref 387), some (.int 0)], [.int 0, .retAddr 0, .ref 0], mv_W2)) rfl ?_
  refine mt_runs 1 (f' := (540, [some (.retAddr 0), some (.ref 0), some (.ref 387), some (.int 0)], [.int 1, .int 0, .retAddr 0, .ref 0], mv_W2)) rfl ?_
  refine mt_runs 1 (f' := (541, [some (.retAddr 0), some (.ref 0), some (.ref 387), some (.int 0)], [.int 1, .retAddr 0, .ref 0], mv_W2)) rfl ?_
  refine mt_runs 1 (f' := (542, [some (.retAddr 0), some (.ref 0), some (.ref 387), some (.int 0)], [.int x1, .ref 0], mv_W2)) rfl ?_
  refine mt_runs 1 (f' := (543, [some (.retAddr 0), some (.ref 0), some (.ref 387), some (.int 0)], [.retAddr 0, .int x1, .ref 0], mv_W2)) rfl ?_
  refine mt_runs 1 (f' := (544, [some (.retAddr 0), some (.ref 0), some (.ref 387), some (.int 0)], [.int 0, .retAddr 0, .int x1, .ref 0], mv_W2)) rfl ?_
  refine mt_runs 1 (f' := (545, [some (.retAddr 0), some (.ref 0), some (.ref 387), some (.int 0)], [.int 2, .int 0, .retAddr 0, .int x1, .ref 0], mv_W2)) rfl ?_
  refine mt_runs 1 (f' := (546, [some (.retAddr 0), some (.ref 0), some (.ref 387), some (.int 0)], [.int 2, .retAddr 0, .int x1, .ref 0], mv_W2)) rfl ?_
  refine mt_runs 1 (f' := (547, [some (.retAddr 0), some (.ref 0), some (.ref 387), some (.int 0)], [.int x2, .int x1, .ref 0], mv_W2)) rfl ?_
  refine mt_call rfl (fun _ => rfl) ⟨Nat.le_of_ble_eq_true rfl, Nat.le_of_ble_eq_true rfl, rfl⟩ (Nat.le_of_ble_eq_true rfl) ?_
  refine mt_runs 3 (f' := (5, [some (.ref 0), some (.int x1), some (.int x2), none, none], [.int x1, .ref 205], mv_W2)) rfl ?_
  refine mt_call rfl (fun _ => rfl) ⟨Nat.le_of_ble_eq_true rfl, Nat.le_of_ble_eq_true rfl, rfl⟩ (Nat.le_of_ble_eq_true rfl) ?_
  refine mt_runs 7 (f' := (37, [some (.ref 205), some (.int x1), some (.int 0)], [.null], mv_W2)) rfl ?_
  refine mt_ret rfl rfl ?_
  refine mt_runs 10 (f' := (45, [some (.ref 0), some (.int x1), some (.int x2), some (.null), some (.null)], [.int 0], mv_W2)) rfl ?_
  refine mt_ret rfl rfl ?_
  refine mt_runs 1 (f' := (551, [some (.retAddr 0), some (.ref 0), some (.ref 387), some (.int 0)], [.ref 387, .int 0], mv_W2)) rfl ?_
  refine mt_runs 1 (f' := (552, [some (.retAddr 0), some (.ref 0), some (.ref 387), some (.int 0)], [.retAddr 0, .ref 387, .int 0], mv_W2)) rfl ?_
  refine mt_runs 1 (f' := (553, [some (.retAddr 0), some (.ref 0), some (.ref 387), some (.int 0)], [.int 0, .retAddr 0, .ref 387, .int 0], mv_W2)) rfl ?_
  refine mt_runs 1 (f' := (554, [some (.retAddr 0), some (.ref 0), some (.ref 387), some (.int 0)], [.int 1, .int 0, .retAddr 0, .ref 387, .int 0], mv_W2)) rfl ?_
  refine mt_runs 1 (f' := (555, [some (.retAddr 0), some (.ref 0), some (.ref 387), some (.int 0)], [.int 1, .retAddr 0, .ref 387, .int 0], mv_W2)) rfl ?_
  refine mt_runs 1 (f' := (556, [some (.retAddr 0), some (.ref 0), some (.ref 387), some (.int 0)], [.int x1, .ref 387, .int 0], mv_W2)) rfl ?_
  refine mt_runs 1 (f' := (557, [some (.retAddr 0), some (.ref 0), some (.ref 387), some (.int 0)], [.retAddr 0, .int x1, .ref 387, .int 0], mv_W2)) rfl ?_
  refine mt_runs 1 (f' := (558, [some (.retAddr 0), some (.ref 0), some (.ref 387), some (.int 0)], [.int 0, .retAddr 0, .int x1, .ref 387, .int 0], mv_W2)) rfl ?_
  refine mt_runs 1 (f' := (559, [some (.retAddr 0), some (.ref 0), some (.ref 387), some (.int 0)], [.int 2, .int 0, .retAddr 0, .int x1, .ref 387, .int 0], mv_W2)) rfl ?_
  refine mt_runs 1 (f' := (560, [some (.retAddr 0), some (.ref 0), some (.ref 387), some (.int 0)], [.int 2, .retAddr 0, .int x1, .ref 387, .int 0], mv_W2)) rfl ?_
  refine mt_runs 1 (f' := (561, [some (.retAddr 0), some (.ref 0), some (.ref 387), some (.int 0)], [.int x2, .int x1, .ref 387, .int 0], mv_W2)) rfl ?_
  refine mt_call rfl (fun _ => rfl) ⟨Nat.le_of_ble_eq_true rfl, Nat.le_of_ble_eq_true rfl, rfl⟩ (Nat.le_of_ble_eq_true rfl) ?_
  refine mt_runs 3 (f' := (3, [some (.ref 387), some (.int x1), some (.int x2), none, none], [.int x1, .int 0, .ref 387], mv_W2)) rfl ?_
  refine mt_call rfl (fun _ => rfl) ⟨Nat.le_of_ble_eq_true rfl, Nat.le_of_ble_eq_true rfl, rfl⟩ (Nat.le_of_ble_eq_true rfl) ?_
  refine mt_runs 5 (f' := (5, [some (.ref 387), some (.int 0), some (.int x1), some (.int 0)], [.int 0, .ref 387, .int 0], mv_W2)) rfl ?_
  refine mt_call rfl (fun _ => rfl) ⟨Nat.le_of_ble_eq_true rfl, Nat.le_of_ble_eq_true rfl, rfl⟩ (Nat.le_of_ble_eq_true rfl) ?_
  refine mt_runs 6 (f' := (10, [some (.ref 387), some (.int 0)], [.int 0], mv_W2)) rfl ?_
  refine mt_ret rfl rfl ?_
  refine mt_runs 2 (f' := (31, [some (.ref 387), some (.int 0), some (.int x1), some (.int 0)], [.int (-1)], mv_W2)) rfl ?_
  refine mt_ret rfl rfl ?_
  refine mt_runs 12 (f' := (60, [some (.ref 387), some (.int x1), some (.int x2), some (.int (-1)), some (.int (-1))], [.int 0], mv_W2)) rfl ?_
  refine mt_ret rfl rfl ?_
  refine mt_runs 1 (f' := (958, [some (.retAddr 0), some (.ref 0), some (.ref 387), some (.int 0)], [], mv_W2)) rfl ?_
  refine mt_runs 1 (f' := (961, [some (.retAddr 0), some (.ref 0), some (.ref 387), some (.int 6)], [], mv_W2)) rfl ?_
  refine mt_runs 1 (f' := (18, [some (.retAddr 0), some (.ref 0), some (.ref 387), some (.int 6)], [], mv_W2)) rfl ?_
  refine mt_runs 1 (f' := (19, [some (.retAddr 0), some (.ref 0), some (.ref 387), some (.int 6)], [.int 6], mv_W2)) rfl ?_
  refine mt_runs 1 (f' := (20, [some (.retAddr 0), some (.ref 0), some (.ref 387), some (.int 6)], [.retAddr 0, .int 6], mv_W2)) rfl ?_
  refine mt_runs 1 (f' := (21, [some (.retAddr 0), some (.ref 0), some (.ref 387), some (.int 6)], [.int 6, .int 6], mv_W2)) rfl ?_
  refine mt_runs 1 (f' := (23, [some (.retAddr 0), some (.ref 0), some (.ref 387), some (.int 6)], [.int 6, .int 6, .int 6], mv_W2)) rfl ?_
  refine mt_runs 1 (f' := (24, [some (.retAddr 0), some (.ref 0), some (.ref 387), some (.int 6)], [.int 0, .int 6], mv_W2)) rfl ?_
  refine mt_runs 1 (f' := (964, [some (.retAddr 0), some (.ref 0), some (.ref 387), some (.int 6)], [], mv_W2)) rfl ?_
  refine mt_runs 1 (f' := (965, [some (.retAddr 0), some (.ref 0), some (.ref 387), some (.int 6)], [.int 1], mv_W2)) rfl ?_
  refine mt_ret rfl rfl ?_
  exact ⟨rfl, Nat.le_of_ble_eq_true rfl, Nat.le_of_ble_eq_true rfl⟩
set_option maxRecDepth 100000 in
set_option maxHeartbeats 4000000 in
theorem mv_op16 (x0 x1 x2 x3 x4 x5 : Int32) : mu_G (mt_P (mv_xs x0 x1 x2 x3 x4 x5)) 20 301 (612, [some (.retAddr 0), some (.ref 0), some (.ref 387), some (.int 0)], [], mv_W2) mv_Q := by
  refine mt_runs 1 (f' := (613, [some (.retAddr 0), some (.ref 0), some (.ref 387), some (.int 0)], [.ref 0], mv_W2)) rfl ?_
  refine mt_runs 1 (f' := (614, [some (.retAddr 0), some (.ref 0), some (.ref 387), some (.int 0)], [.retAddr 0, .ref 0], mv_W2)) rfl ?_
  refine mt_runs 1 (f' := (615, [some (.retAddr 0), some (.ref 0), some (.ref 387), some (.int 0)], [.int 0, .retAddr 0, .ref 0], mv_W2)) rfl ?_
  refine mt_runs 1 (f' := (616, [some (.retAddr 0), some (.ref 0), some (.ref 387), some (.int 0)], [.int 1, .int 0, .retAddr 0, .ref 0], mv_W2)) rfl ?_
  refine mt_runs 1 (f' := (617, [some (.retAddr 0), some (.ref 0), some (.ref 387), some (.int 0)], [.int 1, .retAddr 0, .ref 0], mv_W2)) rfl ?_
  refine mt_runs 1 (f' := (618, [some (.retAddr 0), some (.ref 0), some (.ref 387), some (.int 0)], [.int x1, .ref 0], mv_W2)) rfl ?_
  refine mt_call rfl (fun _ => rfl) ⟨Nat.le_of_ble_eq_true rfl, Nat.le_of_ble_eq_true rfl, rfl⟩ (Nat.le_of_ble_eq_true rfl) ?_
  refine mt_runs 1 (f' := (1, [some (.ref 0), some (.int x1)], [.int x1], mv_W2)) rfl ?_
  by_cases c1 : x1 = 0
  · subst c1
    refine mt_runs 3 (f' := (32, [some (.ref 0), some (.int 0)], [.int 0], mv_W2)) rfl ?_
    refine mt_ret rfl rfl ?_
    refine mt_runs 1 (f' := (622, [some (.retAddr 0), some (.ref 0), some (.ref 387), some (.int 0)], [.ref 387, .int 0], mv_W2)) rfl ?_
    refine mt_runs 1 (f' := (623, [some (.retAddr 0), some (.ref 0), some (.ref 387), some (.int 0)], [.retAddr 0, .ref 387, .int 0], mv_W2)) rfl ?_
    refine mt_runs 1 (f' := (624, [some (.retAddr 0), some (.ref 0), some (.ref 387), some (.int 0)], [.int 0, .retAddr 0, .ref 387, .int 0], mv_W2)) rfl ?_
    refine mt_runs 1 (f' := (625, [some (.retAddr 0), some (.ref 0), some (.ref 387), some (.int 0)], [.int 1, .int 0, .retAddr 0, .ref 387, .int 0], mv_W2)) rfl ?_
    refine mt_runs 1 (f' := (626, [some (.retAddr 0), some (.ref 0), some (.ref 387), some (.int 0)], [.int 1, .retAddr 0, .ref 387, .int 0], mv_W2)) rfl ?_
    refine mt_runs 1 (f' := (627, [some (.retAddr 0), some (.ref 0), some (.ref 387), some (.int 0)], [.int 0, .ref 387, .int 0], mv_W2)) rfl ?_
    refine mt_call rfl (fun _ => rfl) ⟨Nat.le_of_ble_eq_true rfl, Nat.le_of_ble_eq_true rfl, rfl⟩ (Nat.le_of_ble_eq_true rfl) ?_
    refine mt_runs 5 (f' := (36, [some (.ref 387), some (.int 0)], [.int 0], mv_W2)) rfl ?_
    refine mt_ret rfl rfl ?_
    refine mt_runs 1 (f' := (958, [some (.retAddr 0), some (.ref 0), some (.ref 387), some (.int 0)], [], mv_W2)) rfl ?_
    refine mt_runs 1 (f' := (961, [some (.retAddr 0), some (.ref 0), some (.ref 387), some (.int 6)], [], mv_W2)) rfl ?_
    refine mt_runs 1 (f' := (18, [some (.retAddr 0), some (.ref 0), some (.ref 387), some (.int 6)], [], mv_W2)) rfl ?_
    refine mt_runs 1 (f' := (19, [some (.retAddr 0), some (.ref 0), some (.ref 387), some (.int 6)], [.int 6], mv_W2)) rfl ?_
    refine mt_runs 1 (f' := (20, [some (.retAddr 0), some (.ref 0), some (.ref 387), some (.int 6)], [.retAddr 0, .int 6], mv_W2)) rfl ?_
    refine mt_runs 1 (f' := (21, [some (.retAddr 0), some (.ref 0), some (.ref 387), some (.int 6)], [.int 6, .int 6], mv_W2)) rfl ?_
    refine mt_runs 1 (f' := (23, [some (.retAddr 0), some (.ref 0), some (.ref 387), some (.int 6)], [.int 6, .int 6, .int 6], mv_W2)) rfl ?_
    refine mt_runs 1 (f' := (24, [some (.retAddr 0), some (.ref 0), some (.ref 387), some (.int 6)], [.int 0, .int 6], mv_W2)) rfl ?_
    refine mt_runs 1 (f' := (964, [some (.retAddr 0), some (.ref 0), some (.ref 387), some (.int 6)], [], mv_W2)) rfl ?_
    refine mt_runs 1 (f' := (965, [some (.retAddr 0), some (.ref 0), some (.ref 387), some (.int 6)], [.int 1], mv_W2)) rfl ?_
    refine mt_ret rfl rfl ?_
    exact ⟨rfl, Nat.le_of_ble_eq_true rfl, Nat.le_of_ble_eq_true rfl⟩
  have c1 : ¬ (x1.toInt = 0) := mu_nei c1
  by_cases c2 : x1 = 1
  · subst c2
    refine mt_runs 3 (f' := (37, [some (.ref 0), some (.int 1)], [.int 0], mv_W2)) rfl ?_
    refine mt_ret rfl rfl ?_
    refine mt_runs 1 (f' := (622, [some (.retAddr 0), some (.ref 0), some (.ref 387), some (.int 0)], [.ref 387, .int 0], mv_W2)) rfl ?_
    refine mt_runs 1 (f' := (623, [some (.retAddr 0), some (.ref 0), some (.ref 387), some (.int 0)], [.retAddr 0, .ref 387, .int 0], mv_W2)) rfl ?_
    refine mt_runs 1 (f' := (624, [some (.retAddr 0), some (.ref 0), some (.ref 387), some (.int 0)], [.int 0, .retAddr 0, .ref 387, .int 0], mv_W2)) rfl ?_
    refine mt_runs 1 (f' := (625, [some (.retAddr 0), some (.ref 0), some (.ref 387), some (.int 0)], [.int 1, .int 0, .retAddr 0, .ref 387, .int 0], mv_W2)) rfl ?_
    refine mt_runs 1 (f' := (626, [some (.retAddr 0), some (.ref 0), some (.ref 387), some (.int 0)], [.int 1, .retAddr 0, .ref 387, .int 0], mv_W2)) rfl ?_
    refine mt_runs 1 (f' := (627, [some (.retAddr 0), some (.ref 0), some (.ref 387), some (.int 0)], [.int 1, .ref 387, .int 0], mv_W2)) rfl ?_
    refine mt_call rfl (fun _ => rfl) ⟨Nat.le_of_ble_eq_true rfl, Nat.le_of_ble_eq_true rfl, rfl⟩ (Nat.le_of_ble_eq_true rfl) ?_
    refine mt_runs 8 (f' := (36, [some (.ref 387), some (.int 1)], [.int 0], mv_W2)) rfl ?_
    refine mt_ret rfl rfl ?_
    refine mt_runs 1 (f' := (958, [some (.retAddr 0), some (.ref 0), some (.ref 387), some (.int 0)], [], mv_W2)) rfl ?_
    refine mt_runs 1 (f' := (961, [some (.retAddr 0), some (.ref 0), some (.ref 387), some (.int 6)], [], mv_W2)) rfl ?_
    refine mt_runs 1 (f' := (18, [some (.retAddr 0), some (.ref 0), some (.ref 387), some (.int 6)], [], mv_W2)) rfl ?_
    refine mt_runs 1 (f' := (19, [some (.retAddr 0), some (.ref 0), some (.ref 387), some (.int 6)], [.int 6], mv_W2)) rfl ?_
    refine mt_runs 1 (f' := (20, [some (.retAddr 0), some (.ref 0), some (.ref 387), some (.int 6)], [.retAddr 0, .int 6], mv_W2)) rfl ?_
    refine mt_runs 1 (f' := (21, [some (.retAddr 0), some (.ref 0), some (.ref 387), some (.int 6)], [.int 6, .int 6], mv_W2)) rfl ?_
    refine mt_runs 1 (f' := (23, [some (.retAddr 0), some (.ref 0), some (.ref 387), some (.int 6)], [.int 6, .int 6, .int 6], mv_W2)) rfl ?_
    refine mt_runs 1 (f' := (24, [some (.retAddr 0), some (.ref 0), some (.ref 387), some (.int 6)], [.int 0, .int 6], mv_W2)) rfl ?_
    refine mt_runs 1 (f' := (964, [some (.retAddr 0), some (.ref 0), some (.ref 387), some (.int 6)], [], mv_W2)) rfl ?_
    refine mt_runs 1 (f' := (965, [some (.retAddr 0), some (.ref 0), some (.ref 387), some (.int 6)], [.int 1], mv_W2)) rfl ?_
    refine mt_ret rfl rfl ?_
    exact ⟨rfl, Nat.le_of_ble_eq_true rfl, Nat.le_of_ble_eq_true rfl⟩
  have c2 : ¬ (x1.toInt = 1) := mu_nei c2
  by_cases c3 : x1 = 2
  · subst c3
    refine mt_runs 3 (f' := (42, [some (.ref 0), some (.int 2)], [.int 0], mv_W2)) rfl ?_
    refine mt_ret rfl rfl ?_
    refine mt_runs 1 (f' := (622, [some (.retAddr 0), some (.ref 0), some (.ref 387), some (.int 0)], [.ref 387, .int 0], mv_W2)) rfl ?_
    refine mt_runs 1 (f' := (623, [some (.retAddr 0), some (.ref 0), some (.ref 387), some (.int 0)], [.retAddr 0, .ref 387, .int 0], mv_W2)) rfl ?_
    refine mt_runs 1 (f' := (624, [some (.retAddr 0), some (.ref 0), some (.ref 387), some (.int 0)], [.int 0, .retAddr 0, .ref 387, .int 0], mv_W2)) rfl ?_
    refine mt_runs 1 (f' := (625, [some (.retAddr 0), some (.ref 0), some (.ref 387), some (.int 0)], [.int 1, .int 0, .retAddr 0, .ref 387, .int 0], mv_W2)) rfl ?_
    refine mt_runs 1 (f' := (626, [some (.retAddr 0), some (.ref 0), some (.ref 387), some (.int 0)], [.int 1, .retAddr 0, .ref 387, .int 0], mv_W2)) rfl ?_
    refine mt_runs 1 (f' := (627, [some (.retAddr 0), some (.ref 0), some (.ref 387), some (.int 0)], [.int 2, .ref 387, .int 0], mv_W2)) rfl ?_
    refine mt_call rfl (fun _ => rfl) ⟨Nat.le_of_ble_eq_true rfl, Nat.le_of_ble_eq_true rfl, rfl⟩ (Nat.le_of_ble_eq_true rfl) ?_
    refine mt_runs 11 (f' := (36, [some (.ref 387), some (.int 2)], [.int 0], mv_W2)) rfl ?_
    refine mt_ret rfl rfl ?_
    refine mt_runs 1 (f' := (958, [some (.retAddr 0), some (.ref 0), some (.ref 387), some (.int 0)], [], mv_W2)) rfl ?_
    refine mt_runs 1 (f' := (961, [some (.retAddr 0), some (.ref 0), some (.ref 387), some (.int 6)], [], mv_W2)) rfl ?_
    refine mt_runs 1 (f' := (18, [some (.retAddr 0), some (.ref 0), some (.ref 387), some (.int 6)], [], mv_W2)) rfl ?_
    refine mt_runs 1 (f' := (19, [some (.retAddr 0), some (.ref 0), some (.ref 387), some (.int 6)], [.int 6], mv_W2)) rfl ?_
    refine mt_runs 1 (f' := (20, [some (.retAddr 0), some (.ref 0), some (.ref 387), some (.int 6)], [.retAddr 0, .int 6], mv_W2)) rfl ?_
    refine mt_runs 1 (f' := (21, [some (.retAddr 0), some (.ref 0), some (.ref 387), some (.int 6)], [.int 6, .int 6], mv_W2)) rfl ?_
    refine mt_runs 1 (f' := (23, [some (.retAddr 0), some (.ref 0), some (.ref 387), some (.int 6)], [.int 6, .int 6, .int 6], mv_W2)) rfl ?_
    refine mt_runs 1 (f' := (24, [some (.retAddr 0), some (.ref 0), some (.ref 387), some (.int 6)], [.int 0, .int 6], mv_W2)) rfl ?_
    refine mt_runs 1 (f' := (964, [some (.retAddr 0), some (.ref 0), some (.ref 387), some (.int 6)], [], mv_W2)) rfl ?_
    refine mt_runs 1 (f' := (965, [some (.retAddr 0), some (.ref 0), some (.ref 387), some (.int 6)], [.int 1], mv_W2)) rfl ?_
    refine mt_ret rfl rfl ?_
    exact ⟨rfl, Nat.le_of_ble_eq_true rfl, Nat.le_of_ble_eq_true rfl⟩
  have c3 : ¬ (x1.toInt = 2) := mu_nei c3
  refine mu_tswD (tgt := 43) rfl (by omega) (by decide) ?_
  refine mt_runs 1 (f' := (44, [some (.ref 0), some (.int x1)], [.int (-1)], mv_W2)) rfl ?_
  refine mt_ret rfl rfl ?_
  refine mt_runs 1 (f' := (622, [some (.retAddr 0), some (.ref 0), some (.ref 387), some (.int 0)], [.ref 387, .int (-1)], mv_W2)) rfl ?_
  refine mt_runs 1 (f' := (623, [some (.retAddr 0), some (.ref 0), some (.ref 387), some (.int 0)], [.retAddr 0, .ref 387, .int (-1)], mv_W2)) rfl ?_
  refine mt_runs 1 (f' := (624, [some (.retAddr 0), some (.ref 0), some (.ref 387), some (.int 0)], [.int 0, .retAddr 0, .ref 387, .int (-1)], mv_W2)) rfl ?_
  refine mt_runs 1 (f' := (625, [some (.retAddr 0), some (.ref 0), some (.ref 387), some (.int 0)], [.int 1, .int 0, .retAddr 0, .ref 387, .int (-1)], mv_W2)) rfl ?_
  refine mt_runs 1 (f' := (626, [some (.retAddr 0), some (.ref 0), some (.ref 387), some (.int 0)], [.int 1, .retAddr 0, .ref 387, .int (-1)], mv_W2)) rfl ?_
  refine mt_runs 1 (f' := (627, [some (.retAddr 0), some (.ref 0), some (.ref 387), some (.int 0)], [.int x1, .ref 387, .int (-1)], mv_W2)) rfl ?_
  refine mt_call rfl (fun _ => rfl) ⟨Nat.le_of_ble_eq_true rfl, Nat.le_of_ble_eq_true rfl, rfl⟩ (Nat.le_of_ble_eq_true rfl) ?_
  refine mt_runs 1 (f' := (1, [some (.ref 387), some (.int x1)], [.int x1], mv_W2)) rfl ?_
  refine mu_if (tgt := 11) rfl (by decide) (fun (c4 : ¬ x1.toInt = 0) => ?_) (fun (c4 : ¬ (¬ x1.toInt = 0)) => ?_)
  · refine mt_runs 2 (f' := (13, [some (.ref 387), some (.int x1)], [.int 1, .int x1], mv_W2)) rfl ?_
    refine mu_icmp (tgt := 23) rfl (by decide) (fun (c5 : ¬ x1.toInt = 1) => ?_) (fun (c5 : ¬ (¬ x1.toInt = 1)) => ?_)
    · refine mt_runs 2 (f' := (25, [some (.ref 387), some (.int x1)], [.int 2, .int x1], mv_W2)) rfl ?_
      refine mu_icmp (tgt := 35) rfl (by decide) (fun (c6 : ¬ x1.toInt = 2) => ?_) (fun (c6 : ¬ (¬ x1.toInt = 2)) => ?_)
      · refine mt_runs 1 (f' := (36, [some (.ref 387), some (.int x1)], [.int (-1)], mv_W2)) rfl ?_
        refine mt_ret rfl rfl ?_
        refine mt_runs 1 (f' := (958, [some (.retAddr 0), some (.ref 0), some (.ref 387), some (.int 0)], [], mv_W2)) rfl ?_
        refine mt_runs 1 (f' := (961, [some (.retAddr 0), some (.ref 0), some (.ref 387), some (.int 6)], [], mv_W2)) rfl ?_
        refine mt_runs 1 (f' := (18, [some (.retAddr 0), some (.ref 0), some (.ref 387), some (.int 6)], [], mv_W2)) rfl ?_
        refine mt_runs 1 (f' := (19, [some (.retAddr 0), some (.ref 0), some (.ref 387), some (.int 6)], [.int 6], mv_W2)) rfl ?_
        refine mt_runs 1 (f' := (20, [some (.retAddr 0), some (.ref 0), some (.ref 387), some (.int 6)], [.retAddr 0, .int 6], mv_W2)) rfl ?_
        refine mt_runs 1 (f' := (21, [some (.retAddr 0), some (.ref 0), some (.ref 387), some (.int 6)], [.int 6, .int 6], mv_W2)) rfl ?_
        refine mt_runs 1 (f' := (23, [some (.retAddr 0), some (.ref 0), some (.ref 387), some (.int 6)], [.int 6, .int 6, .int 6], mv_W2)) rfl ?_
        refine mt_runs 1 (f' := (24, [some (.retAddr 0), some (.ref 0), some (.ref 387), some (.int 6)], [.int 0, .int 6], mv_W2)) rfl ?_
        refine mt_runs 1 (f' := (964, [some (.retAddr 0), some (.ref 0), some (.ref 387), some (.int 6)], [], mv_W2)) rfl ?_
        refine mt_runs 1 (f' := (965, [some (.retAddr 0), some (.ref 0), some (.ref 387), some (.int 6)], [.int 1], mv_W2)) rfl ?_
        refine mt_ret rfl rfl ?_
        exact ⟨rfl, Nat.le_of_ble_eq_true rfl, Nat.le_of_ble_eq_true rfl⟩
      · exfalso
        omega
    · exfalso
      omega
  · exfalso
    omega
set_option maxRecDepth 100000 in
set_option maxHeartbeats 4000000 in
theorem mv_op17 (x0 x1 x2 x3 x4 x5 : Int32) : mu_G (mt_P (mv_xs x0 x1 x2 x3 x4 x5)) 20 301 (635, [some (.retAddr 0), some (.ref 0), some (.ref 387), some (.int 0)], [], mv_W2) mv_Q := by
  refine mt_runs 1 (f' := (636, [some (.retAddr 0), some (.ref 0), some (.ref 387), some (.int 0)], [.ref 0], mv_W2)) rfl ?_
  refine mt_runs 1 (f' := (637, [some (.retAddr 0), some (.ref 0), some (.ref 387), some (.int 0)], [.retAddr 0, .ref 0], mv_W2)) rfl ?_
  refine mt_runs 1 (f' := (638, [some (.retAddr 0), some (.ref 0), some (.ref 387), some (.int 0)], [.int 0, .retAddr 0, .ref 0], mv_W2)) rfl ?_
  refine mt_runs 1 (f' := (639, [some (.retAddr 0), some (.ref 0), some (.ref 387), some (.int 0)], [.int 1, .int 0, .retAddr 0, .ref 0], mv_W2)) rfl ?_
  refine mt_runs 1 (f' := (640, [some (.retAddr 0), some (.ref 0), some (.ref 387), some (.int 0)], [.int 1, .retAddr 0, .ref 0], mv_W2)) rfl ?_
  refine mt_runs 1 (f' := (641, [some (.retAddr 0), some (.ref 0), some (.ref 387), some (.int 0)], [.int x1, .ref 0], mv_W2)) rfl ?_
  refine mt_call rfl (fun _ => rfl) ⟨Nat.le_of_ble_eq_true rfl, Nat.le_of_ble_eq_true rfl, rfl⟩ (Nat.le_of_ble_eq_true rfl) ?_
  refine mt_runs 2 (f' := (2, [some (.ref 0), some (.int x1)], [.int (-1), .int x1], mv_W2)) rfl ?_
  refine mu_icmp (tgt := 22) rfl (by decide) (fun (c1 : x1.toInt = (-1)) => ?_) (fun (c1 : ¬ (x1.toInt = (-1))) => ?_)
  · refine mt_runs 4 (f' := (28, [some (.ref 0), some (.int x1)], [.int 1], (mm_set mv_W2 0 (.inr 0, [.ref 1, .ref 7, .ref 11, .ref 12, .ref 13, .ref 14, .ref 40, .ref 205, .int 0, .int 0, .int x1, .int 0, .int 0, .int 0])))) rfl ?_
    refine mt_ret rfl rfl ?_
    refine mt_runs 1 (f' := (645, [some (.retAddr 0), some (.ref 0), some (.ref 387), some (.int 0)], [.ref 387, .int 1], (mm_set mv_W2 0 (.inr 0, [.ref 1, .ref 7, .ref 11, .ref 12, .ref 13, .ref 14, .ref 40, .ref 205, .int 0, .int 0, .int x1, .int 0, .int 0, .int 0])))) rfl ?_
    refine mt_runs 1 (f' := (646, [some (.retAddr 0), some (.ref 0), some (.ref 387), some (.int 0)], [.retAddr 0, .ref 387, .int 1], (mm_set mv_W2 0 (.inr 0, [.ref 1, .ref 7, .ref 11, .ref 12, .ref 13, .ref 14, .ref 40, .ref 205, .int 0, .int 0, .int x1, .int 0, .int 0, .int 0])))) rfl ?_
    refine mt_runs 1 (f' := (647, [some (.retAddr 0), some (.ref 0), some (.ref 387), some (.int 0)], [.int 0, .retAddr 0, .ref 387, .int 1], (mm_set mv_W2 0 (.inr 0, [.ref 1, .ref 7, .ref 11, .ref 12, .ref 13, .ref 14, .ref 40, .ref 205, .int 0, .int 0, .int x1, .int 0, .int 0, .int 0])))) rfl ?_
    refine mt_runs 1 (f' := (648, [some (.retAddr 0), some (.ref 0), some (.ref 387), some (.int 0)], [.int 1, .int 0, .retAddr 0, .ref 387, .int 1], (mm_set mv_W2 0 (.inr 0, [.ref 1, .ref 7, .ref 11, .ref 12, .ref 13, .ref 14, .ref 40, .ref 205, .int 0, .int 0, .int x1, .int 0, .int 0, .int 0])))) rfl ?_
    refine mt_runs 1 (f' := (649, [some (.retAddr 0), some (.ref 0), some (.ref 387), some (.int 0)], [.int 1, .retAddr 0, .ref 387, .int 1], (mm_set mv_W2 0 (.inr 0, [.ref 1, .ref 7, .ref 11, .ref 12, .ref 13, .ref 14, .ref 40, .ref 205, .int 0, .int 0, .int x1, .int 0, .int 0, .int 0])))) rfl ?_
    refine mt_runs 1 (f' := (650, [some (.retAddr 0), some (.ref 0), some (.ref 387), some (.int 0)], [.int x1, .ref 387, .int 1], (mm_set mv_W2 0 (.inr 0, [.ref 1, .ref 7, .ref 11, .ref 12, .ref 13, .ref 14, .ref 40, .ref 205, .int 0, .int 0, .int x1, .int 0, .int 0, .int 0])))) rfl ?_
    refine mt_call rfl (fun _ => rfl) ⟨Nat.le_of_ble_eq_true rfl, Nat.le_of_ble_eq_true rfl, rfl⟩ (Nat.le_of_ble_eq_true rfl) ?_
    refine mt_runs 2 (f' := (2, [some (.ref 387), some (.int x1)], [.int (-1), .int x1], (mm_set mv_W2 0 (.inr 0, [.ref 1, .ref 7, .ref 11, .ref 12, .ref 13, .ref 14, .ref 40, .ref 205, .int 0, .int 0, .int x1, .int 0, .int 0, .int 0])))) rfl ?_
    refine mu_icmp (tgt := 21) rfl (by decide) (fun (c2 : x1.toInt = (-1)) => ?_) (fun (c2 : ¬ (x1.toInt = (-1))) => ?_)
    · refine mt_runs 4 (f' := (27, [some (.ref 387), some (.int x1)], [.int 1], (mm_set (mm_set mv_W2 0 (.inr 0, [.ref 1, .ref 7, .ref 11, .ref 12, .ref 13, .ref 14, .ref 40, .ref 205, .int 0, .int 0, .int x1, .int 0, .int 0, .int 0])) 387 (.inr 13, [.ref 388, .int 0, .int 0, .int 0, .int 0, .int 0, .ref 389, .int 0, .ref 390, .int 0, .long 0, .int 0, .int 0, .int 0, .int (-1), .ref 391, .int 0, .int 0, .int 0, .int 0, .int 0, .int 0, .int 0, .ref 392, .int 0, .int 0, .int 0, .int 0, .int (-1), .int (-1), .int x1, .ref 393, .ref 394, .int 0, .ref 395, .ref 396, .ref 397, .ref 398, .ref 399, .int 0, .int 0, .int 0, .int 0, .ref 400, .ref 401, .ref 402, .ref 403, .ref 404, .ref 405, .ref 406, .ref 407, .ref 408, .int 0, .ref 409, .int 0, .int 0, .int 0, .int 0, .int 0, .int 0, .int 0, .ref 410, .ref 411, .ref 412, .ref 413, .ref 414, .int 0, .ref 415, .ref 416, .ref 417, .ref 418, .ref 419, .ref 420, .ref 421, .ref 422, .ref 423, .ref 424, .ref 425, .ref 426, .ref 427, .ref 428, .ref 429, .int 0, .int (-1), .int (-1), .ref 430, .ref 431, .ref 432, .ref 433, .ref 434, .ref 435, .ref 436, .ref 437, .ref 438, .ref 439])))) rfl ?_
      refine mt_ret rfl rfl ?_
      refine mt_runs 1 (f' := (958, [some (.retAddr 0), some (.ref 0), some (.ref 387), some (.int 0)], [], (mm_set (mm_set mv_W2 0 (.inr 0, [.ref 1, .ref 7, .ref 11, .ref 12, .ref 13, .ref 14, .ref 40, .ref 205, .int 0, .int 0, .int x1, .int 0, .int 0, .int 0])) 387 (.inr 13, [.ref 388, .int 0, .int 0, .int 0, .int 0, .int 0, .ref 389, .int 0, .ref 390, .int 0, .long 0, .int 0, .int 0, .int 0, .int (-1), .ref 391, .int 0, .int 0, .int 0, .int 0, .int 0, .int 0, .int 0, .ref 392, .int 0, .int 0, .int 0, .int 0, .int (-1), .int (-1), .int x1, .ref 393, .ref 394, .int 0, .ref 395, .ref 396, .ref 397, .ref 398, .ref 399, .int 0, .int 0, .int 0, .int 0, .ref 400, .ref 401, .ref 402, .ref 403, .ref 404, .ref 405, .ref 406, .ref 407, .ref 408, .int 0, .ref 409, .int 0, .int 0, .int 0, .int 0, .int 0, .int 0, .int 0, .ref 410, .ref 411, .ref 412, .ref 413, .ref 414, .int 0, .ref 415, .ref 416, .ref 417, .ref 418, .ref 419, .ref 420, .ref 421, .ref 422, .ref 423, .ref 424, .ref 425, .ref 426, .ref 427, .ref 428, .ref 429, .int 0, .int (-1), .int (-1), .ref 430, .ref 431, .ref 432, .ref 433, .ref 434, .ref 435, .ref 436, .ref 437, .ref 438, .ref 439])))) rfl ?_
      refine mt_runs 1 (f' := (961, [some (.retAddr 0), some (.ref 0), some (.ref 387), some (.int 6)], [], (mm_set (mm_set mv_W2 0 (.inr 0, [.ref 1, .ref 7, .ref 11, .ref 12, .ref 13, .ref 14, .ref 40, .ref 205, .int 0, .int 0, .int x1, .int 0, .int 0, .int 0])) 387 (.inr 13, [.ref 388, .int 0, .int 0, .int 0, .int 0, .int 0, .ref 389, .int 0, .ref 390, .int 0, .long 0, .int 0, .int 0, .int 0, .int (-1), .ref 391, .int 0, .int 0, .int 0, .int 0, .int 0, .int 0, .int 0, .ref 392, .int 0, .int 0, .int 0, .int 0, .int (-1), .int (-1), .int x1, .ref 393, .ref 394, .int 0, .ref 395, .ref 396, .ref 397, .ref 398, .ref 399, .int 0, .int 0, .int 0, .int 0, .ref 400, .ref 401, .ref 402, .ref 403, .ref 404, .ref 405, .ref 406, .ref 407, .ref 408, .int 0, .ref 409, .int 0, .int 0, .int 0, .int 0, .int 0, .int 0, .int 0, .ref 410, .ref 411, .ref 412, .ref 413, .ref 414, .int 0, .ref 415, .ref 416, .ref 417, .ref 418, .ref 419, .ref 420, .ref 421, .ref 422, .ref 423, .ref 424, .ref 425, .ref 426, .ref 427, .ref 428, .ref 429, .int 0, .int (-1), .int (-1), .ref 430, .ref 431, .ref 432, .ref 433, .ref 434, .ref 435, .ref 436, .ref 437, .ref 438, .ref 439])))) rfl ?_
      refine mt_runs 1 (f' := (18, [some (.retAddr 0), some (.ref 0), some (.ref 387), some (.int 6)], [], (mm_set (mm_set mv_W2 0 (.inr 0, [.ref 1, .ref 7, .ref 11, .ref 12, .ref 13, .ref 14, .ref 40, .ref 205, .int 0, .int 0, .int x1, .int 0, .int 0, .int 0])) 387 (.inr 13, [.ref 388, .int 0, .int 0, .int 0, .int 0, .int 0, .ref 389, .int 0, .ref 390, .int 0, .long 0, .int 0, .int 0, .int 0, .int (-1), .ref 391, .int 0, .int 0, .int 0, .int 0, .int 0, .int 0, .int 0, .ref 392, .int 0, .int 0, .int 0, .int 0, .int (-1), .int (-1), .int x1, .ref 393, .ref 394, .int 0, .ref 395, .ref 396, .ref 397, .ref 398, .ref 399, .int 0, .int 0, .int 0, .int 0, .ref 400, .ref 401, .ref 402, .ref 403, .ref 404, .ref 405, .ref 406, .ref 407, .ref 408, .int 0, .ref 409, .int 0, .int 0, .int 0, .int 0, .int 0, .int 0, .int 0, .ref 410, .ref 411, .ref 412, .ref 413, .ref 414, .int 0, .ref 415, .ref 416, .ref 417, .ref 418, .ref 419, .ref 420, .ref 421, .ref 422, .ref 423, .ref 424, .ref 425, .ref 426, .ref 427, .ref 428, .ref 429, .int 0, .int (-1), .int (-1), .ref 430, .ref 431, .ref 432, .ref 433, .ref 434, .ref 435, .ref 436, .ref 437, .ref 438, .ref 439])))) rfl ?_
      refine mt_runs 1 (f' := (19, [some (.retAddr 0), some (.ref 0), some (.ref 387), some (.int 6)], [.int 6], (mm_set (mm_set mv_W2 0 (.inr 0, [.ref 1, .ref 7, .ref 11, .ref 12, .ref 13, .ref 14, .ref 40, .ref 205, .int 0, .int 0, .int x1, .int 0, .int 0, .int 0])) 387 (.inr 13, [.ref 388, .int 0, .int 0, .int 0, .int 0, .int 0, .ref 389, .int 0, .ref 390, .int 0, .long 0, .int 0, .int 0, .int 0, .int (-1), .ref 391, .int 0, .int 0, .int 0, .int 0, .int 0, .int 0, .int 0, .ref 392, .int 0, .int 0, .int 0, .int 0, .int (-1), .int (-1), .int x1, .ref 393, .ref 394, .int 0, .ref 395, .ref 396, .ref 397, .ref 398, .ref 399, .int 0, .int 0, .int 0, .int 0, .ref 400, .ref 401, .ref 402, .ref 403, .ref 404, .ref 405, .ref 406, .ref 407, .ref 408, .int 0, .ref 409, .int 0, .int 0, .int 0, .int 0, .int 0, .int 0, .int 0, .ref 410, .ref 411, .ref 412, .ref 413, .ref 414, .int 0, .ref 415, .ref 416, .ref 417, .ref 418, .ref 419, .ref 420, .ref 421, .ref 422, .ref 423, .ref 424, .ref 425, .ref 426, .ref 427, .ref 428, .ref 429, .int 0, .int (-1), .int (-1), .ref 430, .ref 431, .ref 432, .ref 433, .ref 434, .ref 435, .ref 436, .ref 437, .ref 438, .ref 439])))) rfl ?_
      refine mt_runs 1 (f' := (20, [some (.retAddr 0), some (.ref 0), some (.ref 387), some (.int 6)], [.retAddr 0, .int 6], (mm_set (mm_set mv_W2 0 (.inr 0, [.ref 1, .ref 7, .ref 11, .ref 12, .ref 13, .ref 14, .ref 40, .ref 205, .int 0, .int 0, .int x1, .int 0, .int 0, .int 0])) 387 (.inr 13, [.ref 388, .int 0, .int 0, .int 0, .int 0, .int 0, .ref 389, .int 0, .ref 390, .int 0, .long 0, .int 0, .int 0, .int 0, .int (-1), .ref 391, .int 0, .int 0, .int 0, .int 0, .int 0, .int 0, .int 0, .ref 392, .int 0, .int 0, .int 0, .int 0, .int (-1), .int (-1), .int x1, .ref 393, .ref 394, .int 0, .ref 395, .ref 396, .ref 397, .ref 398, .ref 399, .int 0, .int 0, .int 0, .int 0, .ref 400, .ref 401, .ref 402, .ref 403, .ref 404, .ref 405, .ref 406, .ref 407, .ref 408, .int 0, .ref 409, .int 0, .int 0, .int 0, .int 0, .int 0, .int 0, .int 0, .ref 410, .ref 411, .ref 412, .ref 413, .ref 414, .int 0, .ref 415, .ref 416, .ref 417, .ref 418, .ref 419, .ref 420, .ref 421, .ref 422, .ref 423, .ref 424, .ref 425, .ref 426, .ref 427, .ref 428, .ref 429, .int 0, .int (-1), .int (-1), .ref 430, .ref 431, .ref 432, .ref 433, .ref 434, .ref 435, .ref 436, .ref 437, .ref 438, .ref 439])))) rfl ?_
      refine mt_runs 1 (f' := (21, [some (.retAddr 0), some (.ref 0), some (.ref 387), some (.int 6)], [.int 6, .int 6], (mm_set (mm_set mv_W2 0 (.inr 0, [.ref 1, .ref 7, .ref 11, .ref 12, .ref 13, .ref 14, .ref 40, .ref 205, .int 0, .int 0, .int x1, .int 0, .int 0, .int 0])) 387 (.inr 13, [.ref 388, .int 0, .int 0, .int 0, .int 0, .int 0, .ref 389, .int 0, .ref 390, .int 0, .long 0, .int 0, .int 0, .int 0, .int (-1), .ref 391, .int 0, .int 0, .int 0, .int 0, .int 0, .int 0, .int 0, .ref 392, .int 0, .int 0, .int 0, .int 0, .int (-1), .int (-1), .int x1, .ref 393, .ref 394, .int 0, .ref 395, .ref 396, .ref 397, .ref 398, .ref 399, .int 0, .int 0, .int 0, .int 0, .ref 400, .ref 401, .ref 402, .ref 403, .ref 404, .ref 405, .ref 406, .ref 407, .ref 408, .int 0, .ref 409, .int 0, .int 0, .int 0, .int 0, .int 0, .int 0, .int 0, .ref 410, .ref 411, .ref 412, .ref 413, .ref 414, .int 0, .ref 415, .ref 416, .ref 417, .ref 418, .ref 419, .ref 420, .ref 421, .ref 422, .ref 423, .ref 424, .ref 425, .ref 426, .ref 427, .ref 428, .ref 429, .int 0, .int (-1), .int (-1), .ref 430, .ref 431, .ref 432, .ref 433, .ref 434, .ref 435, .ref 436, .ref 437, .ref 438, .ref 439])))) rfl ?_
      refine mt_runs 1 (f' := (23, [some (.retAddr 0), some (.ref 0), some (.ref 387), some (.int 6)], [.int 6, .int 6, .int 6], (mm_set (mm_set mv_W2 0 (.inr 0, [.ref 1, .ref 7, .ref 11, .ref 12, .ref 13, .ref 14, .ref 40, .ref 205, .int 0, .int 0, .int x1, .int 0, .int 0, .int 0])) 387 (.inr 13, [.ref 388, .int 0, .int 0, .int 0, .int 0, .int 0, .ref 389, .int 0, .ref 390, .int 0, .long 0, .int 0, .int 0, .int 0, .int (-1), .ref 391, .int 0, .int 0, .int 0, .int 0, .int 0, .int 0, .int 0, .ref 392, .int 0, .int 0, .int 0, .int 0, .int (-1), .int (-1), .int x1, .ref 393, .ref 394, .int 0, .ref 395, .ref 396, .ref 397, .ref 398, .ref 399, .int 0, .int 0, .int 0, .int 0, .ref 400, .ref 401, .ref 402, .ref 403, .ref 404, .ref 405, .ref 406, .ref 407, .ref 408, .int 0, .ref 409, .int 0, .int 0, .int 0, .int 0, .int 0, .int 0, .int 0, .ref 410, .ref 411, .ref 412, .ref 413, .ref 414, .int 0, .ref 415, .ref 416, .ref 417, .ref 418, .ref 419, .ref 420, .ref 421, .ref 422, .ref 423, .ref 424, .ref 425, .ref 426, .ref 427, .ref 428, .ref 429, .int 0, .int (-1), .int (-1), .ref 430, .ref 431, .ref 432, .ref 433, .ref 434, .ref 435, .ref 436, .ref 437, .ref 438, .ref 439])))) rfl ?_
      refine mt_runs 1 (f' := (24, [some (.retAddr 0), some (.ref 0), some (.ref 387), some (.int 6)], [.int 0, .int 6], (mm_set (mm_set mv_W2 0 (.inr 0, [.ref 1, .ref 7, .ref 11, .ref 12, .ref 13, .ref 14, .ref 40, .ref 205, .int 0, .int 0, .int x1, .int 0, .int 0, .int 0])) 387 (.inr 13, [.ref 388, .int 0, .int 0, .int 0, .int 0, .int 0, .ref 389, .int 0, .ref 390, .int 0, .long 0, .int 0, .int 0, .int 0, .int (-1), .ref 391, .int 0, .int 0, .int 0, .int 0, .int 0, .int 0, .int 0, .ref 392, .int 0, .int 0, .int 0, .int 0, .int (-1), .int (-1), .int x1, .ref 393, .ref 394, .int 0, .ref 395, .ref 396, .ref 397, .ref 398, .ref 399, .int 0, .int 0, .int 0, .int 0, .ref 400, .ref 401, .ref 402, .ref 403, .ref 404, .ref 405, .ref 406, .ref 407, .ref 408, .int 0, .ref 409, .int 0, .int 0, .int 0, .int 0, .int 0, .int 0, .int 0, .ref 410, .ref 411, .ref 412, .ref 413, .ref 414, .int 0, .ref 415, .ref 416, .ref 417, .ref 418, .ref 419, .ref 420, .ref 421, .ref 422, .ref 423, .ref 424, .ref 425, .ref 426, .ref 427, .ref 428, .ref 429, .int 0, .int (-1), .int (-1), .ref 430, .ref 431, .ref 432, .ref 433, .ref 434, .ref 435, .ref 436, .ref 437, .ref 438, .ref 439])))) rfl ?_
      refine mt_runs 1 (f' := (964, [some (.retAddr 0), some (.ref 0), some (.ref 387), some (.int 6)], [], (mm_set (mm_set mv_W2 0 (.inr 0, [.ref 1, .ref 7, .ref 11, .ref 12, .ref 13, .ref 14, .ref 40, .ref 205, .int 0, .int 0, .int x1, .int 0, .int 0, .int 0])) 387 (.inr 13, [.ref 388, .int 0, .int 0, .int 0, .int 0, .int 0, .ref 389, .int 0, .ref 390, .int 0, .long 0, .int 0, .int 0, .int 0, .int (-1), .ref 391, .int 0, .int 0, .int 0, .int 0, .int 0, .int 0, .int 0, .ref 392, .int 0, .int 0, .int 0, .int 0, .int (-1), .int (-1), .int x1, .ref 393, .ref 394, .int 0, .ref 395, .ref 396, .ref 397, .ref 398, .ref 399, .int 0, .int 0, .int 0, .int 0, .ref 400, .ref 401, .ref 402, .ref 403, .ref 404, .ref 405, .ref 406, .ref 407, .ref 408, .int 0, .ref 409, .int 0, .int 0, .int 0, .int 0, .int 0, .int 0, .int 0, .ref 410, .ref 411, .ref 412, .ref 413, .ref 414, .int 0, .ref 415, .ref 416, .ref 417, .ref 418, .ref 419, .ref 420, .ref 421, .ref 422, .ref 423, .ref 424, .ref 425, .ref 426, .ref 427, .ref 428, .ref 429, .int 0, .int (-1), .int (-1), .ref 430, .ref 431, .ref 432, .ref 433, .ref 434, .ref 435, .ref 436, .ref 437, .ref 438, .ref 439])))) rfl ?_
      refine mt_runs 1 (f' := (965, [some (.retAddr 0), some (.ref 0), some (.ref 387), some (.int 6)], [.int 1], (mm_set (mm_set mv_W2 0 (.inr 0, [.ref 1, .ref 7, .ref 11, .ref 12, .ref 13, .ref 14, .ref 40, .ref 205, .int 0, .int 0, .int x1, .int 0, .int 0, .int 0])) 387 (.inr 13, [.ref 388, .int 0, .int 0, .int 0, .int 0, .int 0, .ref 389, .int 0, .ref 390, .int 0, .long 0, .int 0, .int 0, .int 0, .int (-1), .ref 391, .int 0, .int 0, .int 0, .int 0, .int 0, .int 0, .int 0, .ref 392, .int 0, .int 0, .int 0, .int 0, .int (-1), .int (-1), .int x1, .ref 393, .ref 394, .int 0, .ref 395, .ref 396, .ref 397, .ref 398, .ref 399, .int 0, .int 0, .int 0, .int 0, .ref 400, .ref 401, .ref 402, .ref 403, .ref 404, .ref 405, .ref 406, .ref 407, .ref 408, .int 0, .ref 409, .int 0, .int 0, .int 0, .int 0, .int 0, .int 0, .int 0, .ref 410, .ref 411, .ref 412, .ref 413, .ref 414, .int 0, .ref 415, .ref 416, .ref 417, .ref 418, .ref 419, .ref 420, .ref 421, .ref 422, .ref 423, .ref 424, .ref 425, .ref 426, .ref 427, .ref 428, .ref 429, .int 0, .int (-1), .int (-1), .ref 430, .ref 431, .ref 432, .ref 433, .ref 434, .ref 435, .ref 436, .ref 437, .ref 438, .ref 439])))) rfl ?_
      refine mt_ret rfl rfl ?_
      exact ⟨rfl, Nat.le_of_ble_eq_true rfl, Nat.le_of_ble_eq_true rfl⟩
    · exfalso
      omega
  · refine mt_runs 1 (f' := (6, [some (.ref 0), some (.int x1)], [.int x1], mv_W2)) rfl ?_
    refine mu_if (tgt := 20) rfl (by decide) (fun (c3 : x1.toInt < 0) => ?_) (fun (c3 : ¬ (x1.toInt < 0)) => ?_)
    · refine mt_runs 1 (f' := (21, [some (.ref 0), some (.int x1)], [.int 0], mv_W2)) rfl ?_
      refine mt_ret rfl rfl ?_
      refine mt_runs 1 (f' := (645, [some (.retAddr 0), some (.ref 0), some (.ref 387), some (.int 0)], [.ref 387, .int 0], mv_W2)) rfl ?_
      refine mt_runs 1 (f' := (646, [some (.retAddr 0), some (.ref 0), some (.ref 387), some (.int 0)], [.retAddr 0, .ref 387, .int 0], mv_W2)) rfl ?_
      refine mt_runs 1 (f' := (647, [some (.retAddr 0), some (.ref 0), some (.ref 387), some (.int 0)], [.int 0, .retAddr 0, .ref 387, .int 0], mv_W2)) rfl ?_
      refine mt_runs 1 (f' := (648, [some (.retAddr 0), some (.ref 0), some (.ref 387), some (.int 0)], [.int 1, .int 0, .retAddr 0, .ref 387, .int 0], mv_W2)) rfl ?_
      refine mt_runs 1 (f' := (649, [some (.retAddr 0), some (.ref 0), some (.ref 387), some (.int 0)], [.int 1, .retAddr 0, .ref 387, .int 0], mv_W2)) rfl ?_
      refine mt_runs 1 (f' := (650, [some (.retAddr 0), some (.ref 0), some (.ref 387), some (.int 0)], [.int x1, .ref 387, .int 0], mv_W2)) rfl ?_
      refine mt_call rfl (fun _ => rfl) ⟨Nat.le_of_ble_eq_true rfl, Nat.le_of_ble_eq_true rfl, rfl⟩ (Nat.le_of_ble_eq_true rfl) ?_
      refine mt_runs 2 (f' := (2, [some (.ref 387), some (.int x1)], [.int (-1), .int x1], mv_W2)) rfl ?_
      refine mu_icmp (tgt := 21) rfl (by decide) (fun (c4 : x1.toInt = (-1)) => ?_) (fun (c4 : ¬ (x1.toInt = (-1))) => ?_)
      · exfalso
        omega
      · refine mt_runs 6 (f' := (13, [some (.ref 387), some (.int x1)], [.int (-1), .int 0, .int x1], mv_W2)) rfl ?_
        refine mt_call rfl (fun _ => rfl) ⟨Nat.le_of_ble_eq_true rfl, Nat.le_of_ble_eq_true rfl, rfl⟩ (Nat.le_of_ble_eq_true rfl) ?_
        refine mt_runs 2 (f' := (2, [some (.int x1), some (.int 0), some (.int (-1))], [.int 0, .int x1], mv_W2)) rfl ?_
        refine mu_icmp (tgt := 14) rfl (by decide) (fun (c5 : x1.toInt < 0) => ?_) (fun (c5 : ¬ (x1.toInt < 0)) => ?_)
        · refine mt_runs 1 (f' := (15, [some (.int x1), some (.int 0), some (.int (-1))], [.int 0], mv_W2)) rfl ?_
          refine mt_ret rfl rfl ?_
          refine mt_runs 2 (f' := (20, [some (.ref 387), some (.int x1)], [.int 0], mv_W2)) rfl ?_
          refine mt_ret rfl rfl ?_
          refine mt_runs 1 (f' := (958, [some (.retAddr 0), some (.ref 0), some (.ref 387), some (.int 0)], [], mv_W2)) rfl ?_
          refine mt_runs 1 (f' := (961, [some (.retAddr 0), some (.ref 0), some (.ref 387), some (.int 6)], [], mv_W2)) rfl ?_
          refine mt_runs 1 (f' := (18, [some (.retAddr 0), some (.ref 0), some (.ref 387), some (.int 6)], [], mv_W2)) rfl ?_
          refine mt_runs 1 (f' := (19, [some (.retAddr 0), some (.ref 0), some (.ref 387), some (.int 6)], [.int 6], mv_W2)) rfl ?_
          refine mt_runs 1 (f' := (20, [some (.retAddr 0), some (.ref 0), some (.ref 387), some (.int 6)], [.retAddr 0, .int 6], mv_W2)) rfl ?_
          refine mt_runs 1 (f' := (21, [some (.retAddr 0), some (.ref 0), some (.ref 387), some (.int 6)], [.int 6, .int 6], mv_W2)) rfl ?_
          refine mt_runs 1 (f' := (23, [some (.retAddr 0), some (.ref 0), some (.ref 387), some (.int 6)], [.int 6, .int 6, .int 6], mv_W2)) rfl ?_
          refine mt_runs 1 (f' := (24, [some (.retAddr 0), some (.ref 0), some (.ref 387), some (.int 6)], [.int 0, .int 6], mv_W2)) rfl ?_
          refine mt_runs 1 (f' := (964, [some (.retAddr 0), some (.ref 0), some (.ref 387), some (.int 6)], [], mv_W2)) rfl ?_
          refine mt_runs 1 (f' := (965, [some (.retAddr 0), some (.ref 0), some (.ref 387), some (.int 6)], [.int 1], mv_W2)) rfl ?_
          refine mt_ret rfl rfl ?_
          exact ⟨rfl, Nat.le_of_ble_eq_true rfl, Nat.le_of_ble_eq_true rfl⟩
        · exfalso
          omega
    · refine mt_runs 4 (f' := (17, [some (.ref 0), some (.int x1)], [.int 0, .int x1], mv_W2)) rfl ?_
      refine mu_icmp (tgt := 22) rfl (by decide) (fun (c6 : x1.toInt < 0) => ?_) (fun (c6 : ¬ (x1.toInt < 0)) => ?_)
      · exfalso
        omega
      · refine mt_runs 1 (f' := (21, [some (.ref 0), some (.int x1)], [.int 0], mv_W2)) rfl ?_
        refine mt_ret rfl rfl ?_
        refine mt_runs 1 (f' := (645, [some (.retAddr 0), some (.ref 0), some (.ref 387), some (.int 0)], [.ref 387, .int 0], mv_W2)) rfl ?_
        refine mt_runs 1 (f' := (646, [some (.retAddr 0), some (.ref 0), some (.ref 387), some (.int 0)], [.retAddr 0, .ref 387, .int 0], mv_W2)) rfl ?_
        refine mt_runs 1 (f' := (647, [some (.retAddr 0), some (.ref 0), some (.ref 387), some (.int 0)], [.int 0, .retAddr 0, .ref 387, .int 0], mv_W2)) rfl ?_
        refine mt_runs 1 (f' := (648, [some (.retAddr 0), some (.ref 0), some (.ref 387), some (.int 0)], [.int 1, .int 0, .retAddr 0, .ref 387, .int 0], mv_W2)) rfl ?_
        refine mt_runs 1 (f' := (649, [some (.retAddr 0), some (.ref 0), some (.ref 387), some (.int 0)], [.int 1, .retAddr 0, .ref 387, .int 0], mv_W2)) rfl ?_
        refine mt_runs 1 (f' := (650, [some (.retAddr 0), some (.ref 0), some (.ref 387), some (.int 0)], [.int x1, .ref 387, .int 0], mv_W2)) rfl ?_
        refine mt_call rfl (fun _ => rfl) ⟨Nat.le_of_ble_eq_true rfl, Nat.le_of_ble_eq_true rfl, rfl⟩ (Nat.le_of_ble_eq_true rfl) ?_
        refine mt_runs 2 (f' := (2, [some (.ref 387), some (.int x1)], [.int (-1), .int x1], mv_W2)) rfl ?_
        refine mu_icmp (tgt := 21) rfl (by decide) (fun (c7 : x1.toInt = (-1)) => ?_) (fun (c7 : ¬ (x1.toInt = (-1))) => ?_)
        · exfalso
          omega
        · refine mt_runs 6 (f' := (13, [some (.ref 387), some (.int x1)], [.int (-1), .int 0, .int x1], mv_W2)) rfl ?_
          refine mt_call rfl (fun _ => rfl) ⟨Nat.le_of_ble_eq_true rfl, Nat.le_of_ble_eq_true rfl, rfl⟩ (Nat.le_of_ble_eq_true rfl) ?_
          refine mt_runs 2 (f' := (2, [some (.int x1), some (.int 0), some (.int (-1))], [.int 0, .int x1], mv_W2)) rfl ?_
          refine mu_icmp (tgt := 14) rfl (by decide) (fun (c8 : x1.toInt < 0) => ?_) (fun (c8 : ¬ (x1.toInt < 0)) => ?_)
          · exfalso
            omega
          · refine mt_runs 2 (f' := (7, [some (.int x1), some (.int 0), some (.int (-1))], [.int (-1), .int x1], mv_W2)) rfl ?_
            refine mu_icmp (tgt := 14) rfl (by decide) (fun (c9 : (-1) < x1.toInt) => ?_) (fun (c9 : ¬ ((-1) < x1.toInt)) => ?_)
            · refine mt_runs 1 (f' := (15, [some (.int x1), some (.int 0), some (.int (-1))], [.int 0], mv_W2)) rfl ?_
              refine mt_ret rfl rfl ?_
              refine mt_runs 2 (f' := (20, [some (.ref 387), some (.int x1)], [.int 0], mv_W2)) rfl ?_
              refine mt_ret rfl rfl ?_
              refine mt_runs 1 (f' := (958, [some (.retAddr 0), some (.ref 0), some (.ref 387), some (.int 0)], [], mv_W2)) rfl ?_
              refine mt_runs 1 (f' := (961, [some (.retAddr 0), some (.ref 0), some (.ref 387), some (.int 6)], [], mv_W2)) rfl ?_
              refine mt_runs 1 (f' := (18, [some (.retAddr 0), some (.ref 0), some (.ref 387), some (.int 6)], [], mv_W2)) rfl ?_
              refine mt_runs 1 (f' := (19, [some (.retAddr 0), some (.ref 0), some (.ref 387), some (.int 6)], [.int 6], mv_W2)) rfl ?_
              refine mt_runs 1 (f' := (20, [some (.retAddr 0), some (.ref 0), some (.ref 387), some (.int 6)], [.retAddr 0, .int 6], mv_W2)) rfl ?_
              refine mt_runs 1 (f' := (21, [some (.retAddr 0), some (.ref 0), some (.ref 387), some (.int 6)], [.int 6, .int 6], mv_W2)) rfl ?_
              refine mt_runs 1 (f' := (23, [some (.retAddr 0), some (.ref 0), some (.ref 387), some (.int 6)], [.int 6, .int 6, .int 6], mv_W2)) rfl ?_
              refine mt_runs 1 (f' := (24, [some (.retAddr 0), some (.ref 0), some (.ref 387), some (.int 6)], [.int 0, .int 6], mv_W2)) rfl ?_
              refine mt_runs 1 (f' := (964, [some (.retAddr 0), some (.ref 0), some (.ref 387), some (.int 6)], [], mv_W2)) rfl ?_
              refine mt_runs 1 (f' := (965, [some (.retAddr 0), some (.ref 0), some (.ref 387), some (.int 6)], [.int 1], mv_W2)) rfl ?_
              refine mt_ret rfl rfl ?_
              exact ⟨rfl, Nat.le_of_ble_eq_true rfl, Nat.le_of_ble_eq_true rfl⟩
            · exfalso
              omega
def mv_k8W : mmW := ((mm_ev mt_P0 100000 20 136 [.ref 0] mv_W2).getD (none, mv_W2)).2
set_option maxRecDepth 1000000 in
theorem mv_k8 : (mm_ev mt_P0 100000 20 136 [.ref 0] mv_W2).map (·.1) = some (some (.int 1)) := by decide +kernel
theorem mv_k8e (xs : List Int32) : mm_ev (mt_P xs) 100000 20 136 [.ref 0] mv_W2 = some (some (.int 1), mv_k8W) := mt_ev0 xs (mv_val mv_k8)
def mv_k9W : mmW := ((mm_ev mt_P0 100000 20 271 [.ref 387] mv_k8W).getD (none, mv_W2)).2
set_option maxRecDepth 1000000 in
theorem mv_k9 : (mm_ev mt_P0 100000 20 271 [.ref 387] mv_k8W).map (·.1) = some (some (.int 1)) := by decide +kernel
theorem mv_k9e (xs : List Int32) : mm_ev (mt_P xs) 100000 20 271 [.ref 387] mv_k8W = some (some (.int 1), mv_k9W) := mt_ev0 xs (mv_val mv_k9)
set_option maxRecDepth 1000000 in
theorem mv_k9Wc : mv_k9W.2.1 ≤ 600000 ∧ mv_k9W.2.2 ≤ 7302250 := by decide +kernel
set_option maxRecDepth 100000 in
set_option maxHeartbeats 4000000 in
theorem mv_op18 (x0 x1 x2 x3 x4 x5 : Int32) : mu_G (mt_P (mv_xs x0 x1 x2 x3 x4 x5)) 20 301 (658, [some (.retAddr 0), some (.ref 0), some (.ref 387), some (.int 0)], [], mv_W2) mv_Q := by
  refine mt_runs 1 (f' := (659, [some (.retAddr 0), some (.ref 0), some (.ref 387), some (.int 0)], [.ref 0], mv_W2)) rfl ?_
  refine mt_callE rfl (fun _ => rfl) ⟨Nat.le_of_ble_eq_true rfl, Nat.le_of_ble_eq_true rfl, rfl⟩ (mv_k8e _) ?_
  refine mt_runs 1 (f' := (663, [some (.retAddr 0), some (.ref 0), some (.ref 387), some (.int 0)], [.ref 387, .int 1], mv_k8W)) rfl ?_
  refine mt_callE rfl (fun _ => rfl) ⟨Nat.le_of_ble_eq_true rfl, Nat.le_of_ble_eq_true rfl, rfl⟩ (mv_k9e _) ?_
  refine mt_runs 1 (f' := (958, [some (.retAddr 0), some (.ref 0), some (.ref 387), some (.int 0)], [], mv_k9W)) rfl ?_
  refine mt_runs 1 (f' := (961, [some (.retAddr 0), some (.ref 0), some (.ref 387), some (.int 6)], [], mv_k9W)) rfl ?_
  refine mt_runs 1 (f' := (18, [some (.retAddr 0), some (.ref 0), some (.ref 387), some (.int 6)], [], mv_k9W)) rfl ?_
  refine mt_runs 1 (f' := (19, [some (.retAddr 0), some (.ref 0), some (.ref 387), some (.int 6)], [.int 6], mv_k9W)) rfl ?_
  refine mt_runs 1 (f' := (20, [some (.retAddr 0), some (.ref 0), some (.ref 387), some (.int 6)], [.retAddr 0, .int 6], mv_k9W)) rfl ?_
  refine mt_runs 1 (f' := (21, [some (.retAddr 0), some (.ref 0), some (.ref 387), some (.int 6)], [.int 6, .int 6], mv_k9W)) rfl ?_
  refine mt_runs 1 (f' := (23, [some (.retAddr 0), some (.ref 0), some (.ref 387), some (.int 6)], [.int 6, .int 6, .int 6], mv_k9W)) rfl ?_
  refine mt_runs 1 (f' := (24, [some (.retAddr 0), some (.ref 0), some (.ref 387), some (.int 6)], [.int 0, .int 6], mv_k9W)) rfl ?_
  refine mt_runs 1 (f' := (964, [some (.retAddr 0), some (.ref 0), some (.ref 387), some (.int 6)], [], mv_k9W)) rfl ?_
  refine mt_runs 1 (f' := (965, [some (.retAddr 0), some (.ref 0), some (.ref 387), some (.int 6)], [.int 1], mv_k9W)) rfl ?_
  refine mt_ret rfl rfl ?_
  exact ⟨rfl, mv_k9Wc⟩
set_option maxRecDepth 100000 in
set_option maxHeartbeats 4000000 in
theorem mv_op19 (x0 x1 x2 x3 x4 x5 : Int32) : mu_G (mt_P (mv_xs x0 x1 x2 x3 x4 x5)) 20 301 (671, [some (.retAddr 0), some (.ref 0), some (.ref 387), some (.int 0)], [], mv_W2) mv_Q := by
  refine mt_runs 1 (f' := (672, [some (.retAddr 0), some (.ref 0), some (.ref 387), some (.int 0)], [.ref 0], mv_W2)) rfl ?_
  refine mt_runs 1 (f' := (673, [some (.retAddr 0), some (.ref 0), some (.ref 387), some (.int 0)], [.retAddr 0, .ref 0], mv_W2)) rfl ?_
  refine mt_runs 1 (f' := (674, [some (.retAddr 0), some (.ref 0), some (.ref 387), some (.int 0)], [.int 0, .retAddr 0, .ref 0], mv_W2)) rfl ?_
  refine mt_runs 1 (f' := (675, [some (.retAddr 0), some (.ref 0), some (.ref 387), some (.int 0)], [.int 1, .int 0, .retAddr 0, .ref 0], mv_W2)) rfl ?_
  refine mt_runs 1 (f' := (676, [some (.retAddr 0), some (.ref 0), some (.ref 387), some (.int 0)], [.int 1, .retAddr 0, .ref 0], mv_W2)) rfl ?_
  refine mt_runs 1 (f' := (677, [some (.retAddr 0), some (.ref 0), some (.ref 387), some (.int 0)], [.int x1, .ref 0], mv_W2)) rfl ?_
  refine mt_call rfl (fun _ => rfl) ⟨Nat.le_of_ble_eq_true rfl, Nat.le_of_ble_eq_true rfl, rfl⟩ (Nat.le_of_ble_eq_true rfl) ?_
  refine mt_runs 5 (f' := (29, [some (.ref 0), some (.int x1)], [.int (-1)], mv_W2)) rfl ?_
  refine mt_ret rfl rfl ?_
  refine mt_runs 1 (f' := (681, [some (.retAddr 0), some (.ref 0), some (.ref 387), some (.int 0)], [.ref 387, .int (-1)], mv_W2)) rfl ?_
  refine mt_runs 1 (f' := (682, [some (.retAddr 0), some (.ref 0), some (.ref 387), some (.int 0)], [.retAddr 0, .ref 387, .int (-1)], mv_W2)) rfl ?_
  refine mt_runs 1 (f' := (683, [some (.retAddr 0), some (.ref 0), some (.ref 387), some (.int 0)], [.int 0, .retAddr 0, .ref 387, .int (-1)], mv_W2)) rfl ?_
  refine mt_runs 1 (f' := (684, [some (.retAddr 0), some (.ref 0), some (.ref 387), some (.int 0)], [.int 1, .int 0, .retAddr 0, .ref 387, .int (-1)], mv_W2)) rfl ?_
  refine mt_runs 1 (f' := (685, [some (.retAddr 0), some (.ref 0), some (.ref 387), some (.int 0)], [.int 1, .retAddr 0, .ref 387, .int (-1)], mv_W2)) rfl ?_
  refine mt_runs 1 (f' := (686, [some (.retAddr 0), some (.ref 0), some (.ref 387), some (.int 0)], [.int x1, .ref 387, .int (-1)], mv_W2)) rfl ?_
  refine mt_call rfl (fun _ => rfl) ⟨Nat.le_of_ble_eq_true rfl, Nat.le_of_ble_eq_true rfl, rfl⟩ (Nat.le_of_ble_eq_true rfl) ?_
  refine mt_runs 5 (f' := (31, [some (.ref 387), some (.int x1)], [.int (-1)], mv_W2)) rfl ?_
  refine mt_ret rfl rfl ?_
  refine mt_runs 1 (f' := (958, [some (.retAddr 0), some (.ref 0), some (.ref 387), some (.int 0)], [], mv_W2)) rfl ?_
  refine mt_runs 1 (f' := (961, [some (.retAddr 0), some (.ref 0), some (.ref 387), some (.int 6)], [], mv_W2)) rfl ?_
  refine mt_runs 1 (f' := (18, [some (.retAddr 0), some (.ref 0), some (.ref 387), some (.int 6)], [], mv_W2)) rfl ?_
  refine mt_runs 1 (f' := (19, [some (.retAddr 0), some (.ref 0), some (.ref 387), some (.int 6)], [.int 6], mv_W2)) rfl ?_
  refine mt_runs 1 (f' := (20, [some (.retAddr 0), some (.ref 0), some (.ref 387), some (.int 6)], [.retAddr 0, .int 6], mv_W2)) rfl ?_
  refine mt_runs 1 (f' := (21, [some (.retAddr 0), some (.ref 0), some (.ref 387), some (.int 6)], [.int 6, .int 6], mv_W2)) rfl ?_
  refine mt_runs 1 (f' := (23, [some (.retAddr 0), some (.ref 0), some (.ref 387), some (.int 6)], [.int 6, .int 6, .int 6], mv_W2)) rfl ?_
  refine mt_runs 1 (f' := (24, [some (.retAddr 0), some (.ref 0), some (.ref 387), some (.int 6)], [.int 0, .int 6], mv_W2)) rfl ?_
  refine mt_runs 1 (f' := (964, [some (.retAddr 0), some (.ref 0), some (.ref 387), some (.int 6)], [], mv_W2)) rfl ?_
  refine mt_runs 1 (f' := (965, [some (.retAddr 0), some (.ref 0), some (.ref 387), some (.int 6)], [.int 1], mv_W2)) rfl ?_
  refine mt_ret rfl rfl ?_
  exact ⟨rfl, Nat.le_of_ble_eq_true rfl, Nat.le_of_ble_eq_true rfl⟩
set_option maxRecDepth 100000 in
set_option maxHeartbeats 4000000 in
theorem mv_op20 (x0 x1 x2 x3 x4 x5 : Int32) : mu_G (mt_P (mv_xs x0 x1 x2 x3 x4 x5)) 20 301 (694, [some (.retAddr 0), some (.ref 0), some (.ref 387), some (.int 0)], [], mv_W2) mv_Q := by
  refine mt_runs 1 (f' := (695, [some (.retAddr 0), some (.ref 0), some (.ref 387), some (.int 0)], [.ref 0], mv_W2)) rfl ?_
  refine mt_runs 1 (f' := (696, [some (.retAddr 0), some (.ref 0), some (.ref 387), some (.int 0)], [.retAddr 0, .ref 0], mv_W2)) rfl ?_
  refine mt_runs 1 (f' := (697, [some (.retAddr 0), some (.ref 0), some (.ref 387), some (.int 0)], [.int 0, .retAddr 0, .ref 0], mv_W2)) rfl ?_
  refine mt_runs 1 (f' := (698, [some (.retAddr 0), some (.ref 0), some (.ref 387), some (.int 0)], [.int 1, .int 0, .retAddr 0, .ref 0], mv_W2)) rfl ?_
  refine mt_runs 1 (f' := (699, [some (.retAddr 0), some (.ref 0), some (.ref 387), some (.int 0)], [.int 1, .retAddr 0, .ref 0], mv_W2)) rfl ?_
  refine mt_runs 1 (f' := (700, [some (.retAddr 0), some (.ref 0), some (.ref 387), some (.int 0)], [.int x1, .ref 0], mv_W2)) rfl ?_
  refine mt_runs 1 (f' := (701, [some (.retAddr 0), some (.ref 0), some (.ref 387), some (.int 0)], [.retAddr 0, .int x1, .ref 0], mv_W2)) rfl ?_
  refine mt_runs 1 (f' := (702, [some (.retAddr 0), some (.ref 0), some (.ref 387), some (.int 0)], [.int 0, .retAddr 0, .int x1, .ref 0], mv_W2)) rfl ?_
  refine mt_runs 1 (f' := (703, [some (.retAddr 0), some (.ref 0), some (.ref 387), some (.int 0)], [.int 2, .int 0, .retAddr 0, .int x1, .ref 0], mv_W2)) rfl ?_
  refine mt_runs 1 (f' := (704, [some (.retAddr 0), some (.ref 0), some (.ref 387), some (.int 0)], [.int 2, .retAddr 0, .int x1, .ref 0], mv_W2)) rfl ?_
  refine mt_runs 1 (f' := (705, [some (.retAddr 0), some (.ref 0), some (.ref 387), some (.int 0)], [.int x2, .int x1, .ref 0], mv_W2)) rfl ?_
  refine mt_call rfl (fun _ => rfl) ⟨Nat.le_of_ble_eq_true rfl, Nat.le_of_ble_eq_true rfl, rfl⟩ (Nat.le_of_ble_eq_true rfl) ?_
  refine mt_runs 1 (f' := (1, [some (.ref 0), some (.int x1), some (.int x2)], [.int x1], mv_W2)) rfl ?_
  refine mu_if (tgt := 24) rfl (by decide) (fun (c1 : x1.toInt < 0) => ?_) (fun (c1 : ¬ (x1.toInt < 0)) => ?_)
  · refine mt_runs 1 (f' := (25, [some (.ref 0), some (.int x1), some (.int x2)], [.int (-1)], mv_W2)) rfl ?_
    refine mt_ret rfl rfl ?_
    refine mt_runs 1 (f' := (709, [some (.retAddr 0), some (.ref 0), some (.ref 387), some (.int 0)], [.ref 387, .int (-1)], mv_W2)) rfl ?_
    refine mt_runs 1 (f' := (710, [some (.retAddr 0), some (.ref 0), some (.ref 387), some (.int 0)], [.retAddr 0, .ref 387, .int (-1)], mv_W2)) rfl ?_
    refine mt_runs 1 (f' := (711, [some (.retAddr 0), some (.ref 0), some (.ref 387), some (.int 0)], [.int 0, .retAddr 0, .ref 387, .int (-1)], mv_W2)) rfl ?_
    refine mt_runs 1 (f' := (712, [some (.retAddr 0), some (.ref 0), some (.ref 387), some (.int 0)], [.int 1, .int 0, .retAddr 0, .ref 387, .int (-1)], mv_W2)) rfl ?_
    refine mt_runs 1 (f' := (713, [some (.retAddr 0), some (.ref 0), some (.ref 387), some (.int 0)], [.int 1, .retAddr 0, .ref 387, .int (-1)], mv_W2)) rfl ?_
    refine mt_runs 1 (f' := (714, [some (.retAddr 0), some (.ref 0), some (.ref 387), some (.int 0)], [.int x1, .ref 387, .int (-1)], mv_W2)) rfl ?_
    refine mt_runs 1 (f' := (715, [some (.retAddr 0), some (.ref 0), some (.ref 387), some (.int 0)], [.retAddr 0, .int x1, .ref 387, .int (-1)], mv_W2)) rfl ?_
    refine mt_runs 1 (f' := (716, [some (.retAddr 0), some (.ref 0), some (.ref 387), some (.int 0)], [.int 0, .retAddr 0, .int x1, .ref 387, .int (-1)], mv_W2)) rfl ?_
    refine mt_runs 1 (f' := (717, [some (.retAddr 0), some (.ref 0), some (.ref 387), some (.int 0)], [.int 2, .int 0, .retAddr 0, .int x1, .ref 387, .int (-1)], mv_W2)) rfl ?_
    refine mt_runs 1 (f' := (718, [some (.retAddr 0), some (.ref 0), some (.ref 387), some (.int 0)], [.int 2, .retAddr 0, .int x1, .ref 387, .int (-1)], mv_W2)) rfl ?_
    refine mt_runs 1 (f' := (719, [some (.retAddr 0), some (.ref 0), some (.ref 387), some (.int 0)], [.int x2, .int x1, .ref 387, .int (-1)], mv_W2)) rfl ?_
    refine mt_call rfl (fun _ => rfl) ⟨Nat.le_of_ble_eq_true rfl, Nat.le_of_ble_eq_true rfl, rfl⟩ (Nat.le_of_ble_eq_true rfl) ?_
    refine mt_runs 6 (f' := (8, [some (.ref 387), some (.int x1), some (.int x2)], [.int (-1), .int 0, .int x1], mv_W2)) rfl ?_
    refine mt_call rfl (fun _ => rfl) ⟨Nat.le_of_ble_eq_true rfl, Nat.le_of_ble_eq_true rfl, rfl⟩ (Nat.le_of_ble_eq_true rfl) ?_
    refine mt_runs 2 (f' := (2, [some (.int x1), some (.int 0), some (.int (-1))], [.int 0, .int x1], mv_W2)) rfl ?_
    refine mu_icmp (tgt := 14) rfl (by decide) (fun (c2 : x1.toInt < 0) => ?_) (fun (c2 : ¬ (x1.toInt < 0)) => ?_)
    · refine mt_runs 1 (f' := (15, [some (.int x1), some (.int 0), some (.int (-1))], [.int 0], mv_W2)) rfl ?_
      refine mt_ret rfl rfl ?_
      refine mt_runs 2 (f' := (15, [some (.ref 387), some (.int x1), some (.int x2)], [.int (-1)], mv_W2)) rfl ?_
      refine mt_ret rfl rfl ?_
      refine mt_runs 1 (f' := (958, [some (.retAddr 0), some (.ref 0), some (.ref 387), some (.int 0)], [], mv_W2)) rfl ?_
      refine mt_runs 1 (f' := (961, [some (.retAddr 0), some (.ref 0), some (.ref 387), some (.int 6)], [], mv_W2)) rfl ?_
      refine mt_runs 1 (f' := (18, [some (.retAddr 0), some (.ref 0), some (.ref 387), some (.int 6)], [], mv_W2)) rfl ?_
      refine mt_runs 1 (f' := (19, [some (.retAddr 0), some (.ref 0), some (.ref 387), some (.int 6)], [.int 6], mv_W2)) rfl ?_
      refine mt_runs 1 (f' := (20, [some (.retAddr 0), some (.ref 0), some (.ref 387), some (.int 6)], [.retAddr 0, .int 6], mv_W2)) rfl ?_
      refine mt_runs 1 (f' := (21, [some (.retAddr 0), some (.ref 0), some (.ref 387), some (.int 6)], [.int 6, .int 6], mv_W2)) rfl ?_
      refine mt_runs 1 (f' := (23, [some (.retAddr 0), some (.ref 0), some (.ref 387), some (.int 6)], [.int 6, .int 6, .int 6], mv_W2)) rfl ?_
      refine mt_runs 1 (f' := (24, [some (.retAddr 0), some (.ref 0), some (.ref 387), some (.int 6)], [.int 0, .int 6], mv_W2)) rfl ?_
      refine mt_runs 1 (f' := (964, [some (.retAddr 0), some (.ref 0), some (.ref 387), some (.int 6)], [], mv_W2)) rfl ?_
      refine mt_runs 1 (f' := (965, [some (.retAddr 0), some (.ref 0), some (.ref 387), some (.int 6)], [.int 1], mv_W2)) rfl ?_
      refine mt_ret rfl rfl ?_
      exact ⟨rfl, Nat.le_of_ble_eq_true rfl, Nat.le_of_ble_eq_true rfl⟩
    · exfalso
      omega
  · refine mt_runs 4 (f' := (12, [some (.ref 0), some (.int x1), some (.int x2)], [.int 0, .int x1], mv_W2)) rfl ?_
    refine mu_icmp (tgt := 24) rfl (by decide) (fun (c3 : 0 ≤ x1.toInt) => ?_) (fun (c3 : ¬ (0 ≤ x1.toInt)) => ?_)
    · refine mt_runs 1 (f' := (25, [some (.ref 0), some (.int x1), some (.int x2)], [.int (-1)], mv_W2)) rfl ?_
      refine mt_ret rfl rfl ?_
      refine mt_runs 1 (f' := (709, [some (.retAddr 0), some (.ref 0), some (.ref 387), some (.int 0)], [.ref 387, .int (-1)], mv_W2)) rfl ?_
      refine mt_runs 1 (f' := (710, [some (.retAddr 0), some (.ref 0), some (.ref 387), some (.int 0)], [.retAddr 0, .ref 387, .int (-1)], mv_W2)) rfl ?_
      refine mt_runs 1 (f' := (711, [some (.retAddr 0), some (.ref 0), some (.ref 387), some (.int 0)], [.int 0, .retAddr 0, .ref 387, .int (-1)], mv_W2)) rfl ?_
      refine mt_runs 1 (f' := (712, [some (.retAddr 0), some (.ref 0), some (.ref 387), some (.int 0)], [.int 1, .int 0, .retAddr 0, .ref 387, .int (-1)], mv_W2)) rfl ?_
      refine mt_runs 1 (f' := (713, [some (.retAddr 0), some (.ref 0), some (.ref 387), some (.int 0)], [.int 1, .retAddr 0, .ref 387, .int (-1)], mv_W2)) rfl ?_
      refine mt_runs 1 (f' := (714, [some (.retAddr 0), some (.ref 0), some (.ref 387), some (.int 0)], [.int x1, .ref 387, .int (-1)], mv_W2)) rfl ?_
      refine mt_runs 1 (f' := (715, [some (.retAddr 0), some (.ref 0), some (.ref 387), some (.int 0)], [.retAddr 0, .int x1, .ref 387, .int (-1)], mv_W2)) rfl ?_
      refine mt_runs 1 (f' := (716, [some (.retAddr 0), some (.ref 0), some (.ref 387), some (.int 0)], [.int 0, .retAddr 0, .int x1, .ref 387, .int (-1)], mv_W2)) rfl ?_
      refine mt_runs 1 (f' := (717, [some (.retAddr 0), some (.ref 0), some (.ref 387), some (.int 0)], [.int 2, .int 0, .retAddr 0, .int x1, .ref 387, .int (-1)], mv_W2)) rfl ?_
      refine mt_runs 1 (f' := (718, [some (.retAddr 0), some (.ref 0), some (.ref 387), some (.int 0)], [.int 2, .retAddr 0, .int x1, .ref 387, .int (-1)], mv_W2)) rfl ?_
      refine mt_runs 1 (f' := (719, [some (.retAddr 0), some (.ref 0), some (.ref 387), some (.int 0)], [.int x2, .int x1, .ref 387, .int (-1)], mv_W2)) rfl ?_
      refine mt_call rfl (fun _ => rfl) ⟨Nat.le_of_ble_eq_true rfl, Nat.le_of_ble_eq_true rfl, rfl⟩ (Nat.le_of_ble_eq_true rfl) ?_
      refine mt_runs 6 (f' := (8, [some (.ref 387), some (.int x1), some (.int x2)], [.int (-1), .int 0, .int x1], mv_W2)) rfl ?_
      refine mt_call rfl (fun _ => rfl) ⟨Nat.le_of_ble_eq_true rfl, Nat.le_of_ble_eq_true rfl, rfl⟩ (Nat.le_of_ble_eq_true rfl) ?_
      refine mt_runs 2 (f' := (2, [some (.int x1), some (.int 0), some (.int (-1))], [.int 0, .int x1], mv_W2)) rfl ?_
      refine mu_icmp (tgt := 14) rfl (by decide) (fun (c4 : x1.toInt < 0) => ?_) (fun (c4 : ¬ (x1.toInt < 0)) => ?_)
      · exfalso
        omega
      · refine mt_runs 2 (f' := (7, [some (.int x1), some (.int 0), some (.int (-1))], [.int (-1), .int x1], mv_W2)) rfl ?_
        refine mu_icmp (tgt := 14) rfl (by decide) (fun (c5 : (-1) < x1.toInt) => ?_) (fun (c5 : ¬ ((-1) < x1.toInt)) => ?_)
        · refine mt_runs 1 (f' := (15, [some (.int x1), some (.int 0), some (.int (-1))], [.int 0], mv_W2)) rfl ?_
          refine mt_ret rfl rfl ?_
          refine mt_runs 2 (f' := (15, [some (.ref 387), some (.int x1), some (.int x2)], [.int (-1)], mv_W2)) rfl ?_
          refine mt_ret rfl rfl ?_
          refine mt_runs 1 (f' := (958, [some (.retAddr 0), some (.ref 0), some (.ref 387), some (.int 0)], [], mv_W2)) rfl ?_
          refine mt_runs 1 (f' := (961, [some (.retAddr 0), some (.ref 0), some (.ref 387), some (.int 6)], [], mv_W2)) rfl ?_
          refine mt_runs 1 (f' := (18, [some (.retAddr 0), some (.ref 0), some (.ref 387), some (.int 6)], [], mv_W2)) rfl ?_
          refine mt_runs 1 (f' := (19, [some (.retAddr 0), some (.ref 0), some (.ref 387), some (.int 6)], [.int 6], mv_W2)) rfl ?_
          refine mt_runs 1 (f' := (20, [some (.retAddr 0), some (.ref 0), some (.ref 387), some (.int 6)], [.retAddr 0, .int 6], mv_W2)) rfl ?_
          refine mt_runs 1 (f' := (21, [some (.retAddr 0), some (.ref 0), some (.ref 387), some (.int 6)], [.int 6, .int 6], mv_W2)) rfl ?_
          refine mt_runs 1 (f' := (23, [some (.retAddr 0), some (.ref 0), some (.ref 387), some (.int 6)], [.int 6, .int 6, .int 6], mv_W2)) rfl ?_
          refine mt_runs 1 (f' := (24, [some (.retAddr 0), some (.ref 0), some (.ref 387), some (.int 6)], [.int 0, .int 6], mv_W2)) rfl ?_
          refine mt_runs 1 (f' := (964, [some (.retAddr 0), some (.ref 0), some (.ref 387), some (.int 6)], [], mv_W2)) rfl ?_
          refine mt_runs 1 (f' := (965, [some (.retAddr 0), some (.ref 0), some (.ref 387), some (.int 6)], [.int 1], mv_W2)) rfl ?_
          refine mt_ret rfl rfl ?_
          exact ⟨rfl, Nat.le_of_ble_eq_true rfl, Nat.le_of_ble_eq_true rfl⟩
        · exfalso
          omega
    · exfalso
      omega
set_option maxRecDepth 100000 in
set_option maxHeartbeats 4000000 in
theorem mv_op21 (x0 x1 x2 x3 x4 x5 : Int32) : mu_G (mt_P (mv_xs x0 x1 x2 x3 x4 x5)) 20 301 (727, [some (.retAddr 0), some (.ref 0), some (.ref 387), some (.int 0)], [], mv_W2) mv_Q := by
  refine mt_runs 1 (f' := (728, [some (.retAddr 0), some (.ref 0), some (.ref 387), some (.int 0)], [.ref 0], mv_W2)) rfl ?_
  refine mt_runs 1 (f' := (729, [some (.retAddr 0), some (.ref 0), some (.ref 387), some (.int 0)], [.retAddr 0, .ref 0], mv_W2)) rfl ?_
  refine mt_runs 1 (f' := (730, [some (.retAddr 0), some (.ref 0), some (.ref 387), some (.int 0)], [.int 0, .retAddr 0, .ref 0], mv_W2)) rfl ?_
  refine mt_runs 1 (f' := (731, [some (.retAddr 0), some (.ref 0), some (.ref 387), some (.int 0)], [.int 1, .int 0, .retAddr 0, .ref 0], mv_W2)) rfl ?_
  refine mt_runs 1 (f' := (732, [some (.retAddr 0), some (.ref 0), some (.ref 387), some (.int 0)], [.int 1, .retAddr 0, .ref 0], mv_W2)) rfl ?_
  refine mt_runs 1 (f' := (733, [some (.retAddr 0), some (.ref 0), some (.ref 387), some (.int 0)], [.int x1, .ref 0], mv_W2)) rfl ?_
  refine mt_runs 1 (f' := (734, [some (.retAddr 0), some (.ref 0), some (.ref 387), some (.int 0)], [.retAddr 0, .int x1, .ref 0], mv_W2)) rfl ?_
  refine mt_runs 1 (f' := (735, [some (.retAddr 0), some (.ref 0), some (.ref 387), some (.int 0)], [.int 0, .retAddr 0, .int x1, .ref 0], mv_W2)) rfl ?_
  refine mt_runs 1 (f' := (736, [some (.retAddr 0), some (.ref 0), some (.ref 387), some (.int 0)], [.int 2, .int 0, .retAddr 0, .int x1, .ref 0], mv_W2)) rfl ?_
  refine mt_runs 1 (f' := (737, [some (.retAddr 0), some (.ref 0), some (.ref 387), some (.int 0)], [.int 2, .retAddr 0, .int x1, .ref 0], mv_W2)) rfl ?_
  refine mt_runs 1 (f' := (738, [some (.retAddr 0), some (.ref 0), some (.ref 387), some (.int 0)], [.int x2, .int x1, .ref 0], mv_W2)) rfl ?_
  refine mt_runs 1 (f' := (739, [some (.retAddr 0), some (.ref 0), some (.ref 387), some (.int 0)], [.retAddr 0, .int x2, .int x1, .ref 0], mv_W2)) rfl ?_
  refine mt_runs 1 (f' := (740, [some (.retAddr 0), some (.ref 0), some (.ref 387), some (.int 0)], [.int 0, .retAddr 0, .int x2, .int x1, .ref 0], mv_W2)) rfl ?_
  refine mt_runs 1 (f' := (741, [some (.retAddr 0), some (.ref 0), some (.ref 387), some (.int 0)], [.int 3, .int 0, .retAddr 0, .int x2, .int x1, .ref 0], mv_W2)) rfl ?_
  refine mt_runs 1 (f' := (742, [some (.retAddr 0), some (.ref 0), some (.ref 387), some (.int 0)], [.int 3, .retAddr 0, .int x2, .int x1, .ref 0], mv_W2)) rfl ?_
  refine mt_runs 1 (f' := (743, [some (.retAddr 0), some (.ref 0), some (.ref 387), some (.int 0)], [.int x3, .int x2, .int x1, .ref 0], mv_W2)) rfl ?_
  refine mt_call rfl (fun _ => rfl) ⟨Nat.le_of_ble_eq_true rfl, Nat.le_of_ble_eq_true rfl, rfl⟩ (Nat.le_of_ble_eq_true rfl) ?_
  refine mt_runs 2 (f' := (2, [some (.ref 0), some (.int x1), some (.int x2), some (.int x3), none, none], [.int x1, .ref 0], mv_W2)) rfl ?_
  refine mt_callX rfl (fun _ => rfl) ⟨Nat.le_of_ble_eq_true rfl, Nat.le_of_ble_eq_true rfl, rfl⟩ (mv_lives0 _ x1) ?_
  refine mt_runs 6 (f' := (33, [some (.ref 0), some (.int x1), some (.int x2), some (.int x3), some (.null), none], [.int (-1)], mv_W2)) rfl ?_
  refine mt_ret rfl rfl ?_
  refine mt_runs 1 (f' := (747, [some (.retAddr 0), some (.ref 0), some (.ref 387), some (.int 0)], [.ref 387, .int (-1)], mv_W2)) rfl ?_
  refine mt_runs 1 (f' := (748, [some (.retAddr 0), some (.ref 0), some (.ref 387), some (.int 0)], [.retAddr 0, .ref 387, .int (-1)], mv_W2)) rfl ?_
  refine mt_runs 1 (f' := (749, [some (.retAddr 0), some (.ref 0), some (.ref 387), some (.int 0)], [.int 0, .retAddr 0, .ref 387, .int (-1)], mv_W2)) rfl ?_
  refine mt_runs 1 (f' := (750, [some (.retAddr 0), some (.ref 0), some (.ref 387), some (.int 0)], [.int 1, .int 0, .retAddr 0, .ref 387, .int (-1)], mv_W2)) rfl ?_
  refine mt_runs 1 (f' := (751, [some (.retAddr 0), some (.ref 0), some (.ref 387), some (.int 0)], [.int 1, .retAddr 0, .ref 387, .int (-1)], mv_W2)) rfl ?_
  refine mt_runs 1 (f' := (752, [some (.retAddr 0), some (.ref 0), some (.ref 387), some (.int 0)], [.int x1, .ref 387, .int (-1)], mv_W2)) rfl ?_
  refine mt_runs 1 (f' := (753, [some (.retAddr 0), some (.ref 0), some (.ref 387), some (.int 0)], [.retAddr 0, .int x1, .ref 387, .int (-1)], mv_W2)) rfl ?_
  refine mt_runs 1 (f' := (754, [some (.retAddr 0), some (.ref 0), some (.ref 387), some (.int 0)], [.int 0, .retAddr 0, .int x1, .ref 387, .int (-1)], mv_W2)) rfl ?_
  refine mt_runs 1 (f' := (755, [some (.retAddr 0), some (.ref 0), some (.ref 387), some (.int 0)], [.int 2, .int 0, .retAddr 0, .int x1, .ref 387, .int (-1)], mv_W2)) rfl ?_
  refine mt_runs 1 (f' := (756, [some (.retAddr 0), some (.ref 0), some (.ref 387), some (.int 0)], [.int 2, .retAddr 0, .int x1, .ref 387, .int (-1)], mv_W2)) rfl ?_
  refine mt_runs 1 (f' := (757, [some (.retAddr 0), some (.ref 0), some (.ref 387), some (.int 0)], [.int x2, .int x1, .ref 387, .int (-1)], mv_W2)) rfl ?_
  refine mt_runs 1 (f' := (758, [some (.retAddr 0), some (.ref 0), some (.ref 387), some (.int 0)], [.retAddr 0, .int x2, .int x1, .ref 387, .int (-1)], mv_W2)) rfl ?_
  refine mt_runs 1 (f' := (759, [some (.retAddr 0), some (.ref 0), some (.ref 387), some (.int 0)], [.int 0, .retAddr 0, .int x2, .int x1, .ref 387, .int (-1)], mv_W2)) rfl ?_
  refine mt_runs 1 (f' := (760, [some (.retAddr 0), some (.ref 0), some (.ref 387), some (.int 0)], [.int 3, .int 0, .retAddr 0, .int x2, .int x1, .ref 387, .int (-1)], mv_W2)) rfl ?_
  refine mt_runs 1 (f' := (761, [some (.retAddr 0), some (.ref 0), some (.ref 387), some (.int 0)], [.int 3, .retAddr 0, .int x2, .int x1, .ref 387, .int (-1)], mv_W2)) rfl ?_
  refine mt_runs 1 (f' := (762, [some (.retAddr 0), some (.ref 0), some (.ref 387), some (.int 0)], [.int x3, .int x2, .int x1, .ref 387, .int (-1)], mv_W2)) rfl ?_
  refine mt_call rfl (fun _ => rfl) ⟨Nat.le_of_ble_eq_true rfl, Nat.le_of_ble_eq_true rfl, rfl⟩ (Nat.le_of_ble_eq_true rfl) ?_
  refine mt_runs 15 (f' := (35, [some (.ref 387), some (.int x1), some (.int x2), some (.int x3), some (.int 0), none], [.int x1, .ref 387], mv_W2)) rfl ?_
  refine mt_call rfl (fun _ => rfl) ⟨Nat.le_of_ble_eq_true rfl, Nat.le_of_ble_eq_true rfl, rfl⟩ (Nat.le_of_ble_eq_true rfl) ?_
  refine mt_runs 6 (f' := (8, [some (.ref 387), some (.int x1)], [.int (-1), .int 0, .int x1], mv_W2)) rfl ?_
  refine mt_call rfl (fun _ => rfl) ⟨Nat.le_of_ble_eq_true rfl, Nat.le_of_ble_eq_true rfl, rfl⟩ (Nat.le_of_ble_eq_true rfl) ?_
  refine mt_runs 2 (f' := (2, [some (.int x1), some (.int 0), some (.int (-1))], [.int 0, .int x1], mv_W2)) rfl ?_
  refine mu_icmp (tgt := 14) rfl (by decide) (fun (c1 : x1.toInt < 0) => ?_) (fun (c1 : ¬ (x1.toInt < 0)) => ?_)
  · refine mt_runs 1 (f' := (15, [some (.int x1), some (.int 0), some (.int (-1))], [.int 0], mv_W2)) rfl ?_
    refine mt_ret rfl rfl ?_
    refine mt_runs 2 (f' := (28, [some (.ref 387), some (.int x1)], [.int 0], mv_W2)) rfl ?_
    refine mt_ret rfl rfl ?_
    refine mt_runs 2 (f' := (53, [some (.ref 387), some (.int x1), some (.int x2), some (.int x3), some (.int 0), none], [.int (-1)], mv_W2)) rfl ?_
    refine mt_ret rfl rfl ?_
    refine mt_runs 1 (f' := (958, [some (.retAddr 0), some (.ref 0), some (.ref 387), some (.int 0)], [], mv_W2)) rfl ?_
    refine mt_runs 1 (f' := (961, [some (.retAddr 0), some (.ref 0), some (.ref 387), some (.int 6)], [], mv_W2)) rfl ?_
    refine mt_runs 1 (f' := (18, [some (.retAddr 0), some (.ref 0), some (.ref 387), some (.int 6)], [], mv_W2)) rfl ?_
    refine mt_runs 1 (f' := (19, [some (.retAddr 0), some (.ref 0), some (.ref 387), some (.int 6)], [.int 6], mv_W2)) rfl ?_
    refine mt_runs 1 (f' := (20, [some (.retAddr 0), some (.ref 0), some (.ref 387), some (.int 6)], [.retAddr 0, .int 6], mv_W2)) rfl ?_
    refine mt_runs 1 (f' := (21, [some (.retAddr 0), some (.ref 0), some (.ref 387), some (.int 6)], [.int 6, .int 6], mv_W2)) rfl ?_
    refine mt_runs 1 (f' := (23, [some (.retAddr 0), some (.ref 0), some (.ref 387), some (.int 6)], [.int 6, .int 6, .int 6], mv_W2)) rfl ?_
    refine mt_runs 1 (f' := (24, [some (.retAddr 0), some (.ref 0), some (.ref 387), some (.int 6)], [.int 0, .int 6], mv_W2)) rfl ?_
    refine mt_runs 1 (f' := (964, [some (.retAddr 0), some (.ref 0), some (.ref 387), some (.int 6)], [], mv_W2)) rfl ?_
    refine mt_runs 1 (f' := (965, [some (.retAddr 0), some (.ref 0), some (.ref 387), some (.int 6)], [.int 1], mv_W2)) rfl ?_
    refine mt_ret rfl rfl ?_
    exact ⟨rfl, Nat.le_of_ble_eq_true rfl, Nat.le_of_ble_eq_true rfl⟩
  · refine mt_runs 2 (f' := (7, [some (.int x1), some (.int 0), some (.int (-1))], [.int (-1), .int x1], mv_W2)) rfl ?_
    refine mu_icmp (tgt := 14) rfl (by decide) (fun (c2 : (-1) < x1.toInt) => ?_) (fun (c2 : ¬ ((-1) < x1.toInt)) => ?_)
    · refine mt_runs 1 (f' := (15, [some (.int x1), some (.int 0), some (.int (-1))], [.int 0], mv_W2)) rfl ?_
      refine mt_ret rfl rfl ?_
      refine mt_runs 2 (f' := (28, [some (.ref 387), some (.int x1)], [.int 0], mv_W2)) rfl ?_
      refine mt_ret rfl rfl ?_
      refine mt_runs 2 (f' := (53, [some (.ref 387), some (.int x1), some (.int x2), some (.int x3), some (.int 0), none], [.int (-1)], mv_W2)) rfl ?_
      refine mt_ret rfl rfl ?_
      refine mt_runs 1 (f' := (958, [some (.retAddr 0), some (.ref 0), some (.ref 387), some (.int 0)], [], mv_W2)) rfl ?_
      refine mt_runs 1 (f' := (961, [some (.retAddr 0), some (.ref 0), some (.ref 387), some (.int 6)], [], mv_W2)) rfl ?_
      refine mt_runs 1 (f' := (18, [some (.retAddr 0), some (.ref 0), some (.ref 387), some (.int 6)], [], mv_W2)) rfl ?_
      refine mt_runs 1 (f' := (19, [some (.retAddr 0), some (.ref 0), some (.ref 387), some (.int 6)], [.int 6], mv_W2)) rfl ?_
      refine mt_runs 1 (f' := (20, [some (.retAddr 0), some (.ref 0), some (.ref 387), some (.int 6)], [.retAddr 0, .int 6], mv_W2)) rfl ?_
      refine mt_runs 1 (f' := (21, [some (.retAddr 0), some (.ref 0), some (.ref 387), some (.int 6)], [.int 6, .int 6], mv_W2)) rfl ?_
      refine mt_runs 1 (f' := (23, [some (.retAddr 0), some (.ref 0), some (.ref 387), some (.int 6)], [.int 6, .int 6, .int 6], mv_W2)) rfl ?_
      refine mt_runs 1 (f' := (24, [some (.retAddr 0), some (.ref 0), some (.ref 387), some (.int 6)], [.int 0, .int 6], mv_W2)) rfl ?_
      refine mt_runs 1 (f' := (964, [some (.retAddr 0), some (.ref 0), some (.ref 387), some (.int 6)], [], mv_W2)) rfl ?_
      refine mt_runs 1 (f' := (965, [some (.retAddr 0), some (.ref 0), some (.ref 387), some (.int 6)], [.int 1], mv_W2)) rfl ?_
      refine mt_ret rfl rfl ?_
      exact ⟨rfl, Nat.le_of_ble_eq_true rfl, Nat.le_of_ble_eq_true rfl⟩
    · exfalso
      omega
set_option maxRecDepth 100000 in
set_option maxHeartbeats 4000000 in
theorem mv_op22 (x0 x1 x2 x3 x4 x5 : Int32) : mu_G (mt_P (mv_xs x0 x1 x2 x3 x4 x5)) 20 301 (770, [some (.retAddr 0), some (.ref 0), some (.ref 387), some (.int 0)], [], mv_W2) mv_Q := by
  refine mt_runs 1 (f' := (771, [some (.retAddr 0), some (.ref 0), some (.ref 387), some (.int 0)], [.ref 0], mv_W2)) rfl ?_
  refine mt_runs 1 (f' := (772, [some (.retAddr 0), some (.ref 0), some (.ref 387), some (.int 0)], [.retAddr 0, .ref 0], mv_W2)) rfl ?_
  refine mt_runs 1 (f' := (773, [some (.retAddr 0), some (.ref 0), some (.ref 387), some (.int 0)], [.int 0, .retAddr 0, .ref 0], mv_W2)) rfl ?_
  refine mt_runs 1 (f' := (774, [some (.retAddr 0), some (.ref 0), some (.ref 387), some (.int 0)], [.int 1, .int 0, .retAddr 0, .ref 0], mv_W2)) rfl ?_
  refine mt_runs 1 (f' := (775, [some (.retAddr 0), some (.ref 0), some (.ref 387), some (.int 0)], [.int 1, .retAddr 0, .ref 0], mv_W2)) rfl ?_
  refine mt_runs 1 (f' := (776, [some (.retAddr 0), some (.ref 0), some (.ref 387), some (.int 0)], [.int x1, .ref 0], mv_W2)) rfl ?_
  refine mt_runs 1 (f' := (777, [some (.retAddr 0), some (.ref 0), some (.ref 387), some (.int 0)], [.retAddr 0, .int x1, .ref 0], mv_W2)) rfl ?_
  refine mt_runs 1 (f' := (778, [some (.retAddr 0), some (.ref 0), some (.ref 387), some (.int 0)], [.int 0, .retAddr 0, .int x1, .ref 0], mv_W2)) rfl ?_
  refine mt_runs 1 (f' := (779, [some (.retAddr 0), some (.ref 0), some (.ref 387), some (.int 0)], [.int 2, .int 0, .retAddr 0, .int x1, .ref 0], mv_W2)) rfl ?_
  refine mt_runs 1 (f' := (780, [some (.retAddr 0), some (.ref 0), some (.ref 387), some (.int 0)], [.int 2, .retAddr 0, .int x1, .ref 0], mv_W2)) rfl ?_
  refine mt_runs 1 (f' := (781, [some (.retAddr 0), some (.ref 0), some (.ref 387), some (.int 0)], [.int x2, .int x1, .ref 0], mv_W2)) rfl ?_
  refine mt_call rfl (fun _ => rfl) ⟨Nat.le_of_ble_eq_true rfl, Nat.le_of_ble_eq_true rfl, rfl⟩ (Nat.le_of_ble_eq_true rfl) ?_
  refine mt_runs 1 (f' := (1, [some (.ref 0), some (.int x1), some (.int x2)], [.int x1], mv_W2)) rfl ?_
  refine mu_if (tgt := 22) rfl (by decide) (fun (c1 : x1.toInt < 0) => ?_) (fun (c1 : ¬ (x1.toInt < 0)) => ?_)
  · refine mt_runs 1 (f' := (23, [some (.ref 0), some (.int x1), some (.int x2)], [.int (-1)], mv_W2)) rfl ?_
    refine mt_ret rfl rfl ?_
    refine mt_runs 1 (f' := (785, [some (.retAddr 0), some (.ref 0), some (.ref 387), some (.int 0)], [.ref 387, .int (-1)], mv_W2)) rfl ?_
    refine mt_runs 1 (f' := (786, [some (.retAddr 0), some (.ref 0), some (.ref 387), some (.int 0)], [.retAddr 0, .ref 387, .int (-1)], mv_W2)) rfl ?_
    refine mt_runs 1 (f' := (787, [some (.retAddr 0), some (.ref 0), some (.ref 387), some (.int 0)], [.int 0, .retAddr 0, .ref 387, .int (-1)], mv_W2)) rfl ?_
    refine mt_runs 1 (f' := (788, [some (.retAddr 0), some (.ref 0), some (.ref 387), some (.int 0)], [.int 1, .int 0, .retAddr 0, .ref 387, .int (-1)], mv_W2)) rfl ?_
    refine mt_runs 1 (f' := (789, [some (.retAddr 0), some (.ref 0), some (.ref 387), some (.int 0)], [.int 1, .retAddr 0, .ref 387, .int (-1)], mv_W2)) rfl ?_
    refine mt_runs 1 (f' := (790, [some (.retAddr 0), some (.ref 0), some (.ref 387), some (.int 0)], [.int x1, .ref 387, .int (-1)], mv_W2)) rfl ?_
    refine mt_runs 1 (f' := (791, [some (.retAddr 0), some (.ref 0), some (.ref 387), some (.int 0)], [.retAddr 0, .int x1, .ref 387, .int (-1)], mv_W2)) rfl ?_
    refine mt_runs 1 (f' := (792, [some (.retAddr 0), some (.ref 0), some (.ref 387), some (.int 0)], [.int 0, .retAddr 0, .int x1, .ref 387, .int (-1)], mv_W2)) rfl ?_
    refine mt_runs 1 (f' := (793, [some (.retAddr 0), some (.ref 0), some (.ref 387), some (.int 0)], [.int 2, .int 0, .retAddr 0, .int x1, .ref 387, .int (-1)], mv_W2)) rfl ?_
    refine mt_runs 1 (f' := (794, [some (.retAddr 0), some (.ref 0), some (.ref 387), some (.int 0)], [.int 2, .retAddr 0, .int x1, .ref 387, .int (-1)], mv_W2)) rfl ?_
    refine mt_runs 1 (f' := (795, [some (.retAddr 0), some (.ref 0), some (.ref 387), some (.int 0)], [.int x2, .int x1, .ref 387, .int (-1)], mv_W2)) rfl ?_
    refine mt_call rfl (fun _ => rfl) ⟨Nat.le_of_ble_eq_true rfl, Nat.le_of_ble_eq_true rfl, rfl⟩ (Nat.le_of_ble_eq_true rfl) ?_
    refine mt_runs 3 (f' := (4, [some (.ref 387), some (.int x1), some (.int x2)], [.int 9, .int 0, .int x1], mv_W2)) rfl ?_
    refine mt_call rfl (fun _ => rfl) ⟨Nat.le_of_ble_eq_true rfl, Nat.le_of_ble_eq_true rfl, rfl⟩ (Nat.le_of_ble_eq_true rfl) ?_
    refine mt_runs 2 (f' := (2, [some (.int x1), some (.int 0), some (.int 9)], [.int 0, .int x1], mv_W2)) rfl ?_
    refine mu_icmp (tgt := 14) rfl (by decide) (fun (c2 : x1.toInt < 0) => ?_) (fun (c2 : ¬ (x1.toInt < 0)) => ?_)
    · refine mt_runs 1 (f' := (15, [some (.int x1), some (.int 0), some (.int 9)], [.int 0], mv_W2)) rfl ?_
      refine mt_ret rfl rfl ?_
      refine mt_runs 2 (f' := (20, [some (.ref 387), some (.int x1), some (.int x2)], [.int (-1)], mv_W2)) rfl ?_
      refine mt_ret rfl rfl ?_
      refine mt_runs 1 (f' := (958, [some (.retAddr 0), some (.ref 0), some (.ref 387), some (.int 0)], [], mv_W2)) rfl ?_
      refine mt_runs 1 (f' := (961, [some (.retAddr 0), some (.ref 0), some (.ref 387), some (.int 6)], [], mv_W2)) rfl ?_
      refine mt_runs 1 (f' := (18, [some (.retAddr 0), some (.ref 0), some (.ref 387), some (.int 6)], [], mv_W2)) rfl ?_
      refine mt_runs 1 (f' := (19, [some (.retAddr 0), some (.ref 0), some (.ref 387), some (.int 6)], [.int 6], mv_W2)) rfl ?_
      refine mt_runs 1 (f' := (20, [some (.retAddr 0), some (.ref 0), some (.ref 387), some (.int 6)], [.retAddr 0, .int 6], mv_W2)) rfl ?_
      refine mt_runs 1 (f' := (21, [some (.retAddr 0), some (.ref 0), some (.ref 387), some (.int 6)], [.int 6, .int 6], mv_W2)) rfl ?_
      refine mt_runs 1 (f' := (23, [some (.retAddr 0), some (.ref 0), some (.ref 387), some (.int 6)], [.int 6, .int 6, .int 6], mv_W2)) rfl ?_
      refine mt_runs 1 (f' := (24, [some (.retAddr 0), some (.ref 0), some (.ref 387), some (.int 6)], [.int 0, .int 6], mv_W2)) rfl ?_
      refine mt_runs 1 (f' := (964, [some (.retAddr 0), some (.ref 0), some (.ref 387), some (.int 6)], [], mv_W2)) rfl ?_
      refine mt_runs 1 (f' := (965, [some (.retAddr 0), some (.ref 0), some (.ref 387), some (.int 6)], [.int 1], mv_W2)) rfl ?_
      refine mt_ret rfl rfl ?_
      exact ⟨rfl, Nat.le_of_ble_eq_true rfl, Nat.le_of_ble_eq_true rfl⟩
    · exfalso
      omega
  · refine mt_runs 2 (f' := (7, [some (.ref 0), some (.int x1), some (.int x2)], [.int 10, .int x1], mv_W2)) rfl ?_
    refine mu_icmp (tgt := 22) rfl (by decide) (fun (c3 : 10 ≤ x1.toInt) => ?_) (fun (c3 : ¬ (10 ≤ x1.toInt)) => ?_)
    · refine mt_runs 1 (f' := (23, [some (.ref 0), some (.int x1), some (.int x2)], [.int (-1)], mv_W2)) rfl ?_
      refine mt_ret rfl rfl ?_
      refine mt_runs 1 (f' := (785, [some (.retAddr 0), some (.ref 0), some (.ref 387), some (.int 0)], [.ref 387, .int (-1)], mv_W2)) rfl ?_
      refine mt_runs 1 (f' := (786, [some (.retAddr 0), some (.ref 0), some (.ref 387), some (.int 0)], [.retAddr 0, .ref 387, .int (-1)], mv_W2)) rfl ?_
      refine mt_runs 1 (f' := (787, [some (.retAddr 0), some (.ref 0), some (.ref 387), some (.int 0)], [.int 0, .retAddr 0, .ref 387, .int (-1)], mv_W2)) rfl ?_
      refine mt_runs 1 (f' := (788, [some (.retAddr 0), some (.ref 0), some (.ref 387), some (.int 0)], [.int 1, .int 0, .retAddr 0, .ref 387, .int (-1)], mv_W2)) rfl ?_
      refine mt_runs 1 (f' := (789, [some (.retAddr 0), some (.ref 0), some (.ref 387), some (.int 0)], [.int 1, .retAddr 0, .ref 387, .int (-1)], mv_W2)) rfl ?_
      refine mt_runs 1 (f' := (790, [some (.retAddr 0), some (.ref 0), some (.ref 387), some (.int 0)], [.int x1, .ref 387, .int (-1)], mv_W2)) rfl ?_
      refine mt_runs 1 (f' := (791, [some (.retAddr 0), some (.ref 0), some (.ref 387), some (.int 0)], [.retAddr 0, .int x1, .ref 387, .int (-1)], mv_W2)) rfl ?_
      refine mt_runs 1 (f' := (792, [some (.retAddr 0), some (.ref 0), some (.ref 387), some (.int 0)], [.int 0, .retAddr 0, .int x1, .ref 387, .int (-1)], mv_W2)) rfl ?_
      refine mt_runs 1 (f' := (793, [some (.retAddr 0), some (.ref 0), some (.ref 387), some (.int 0)], [.int 2, .int 0, .retAddr 0, .int x1, .ref 387, .int (-1)], mv_W2)) rfl ?_
      refine mt_runs 1 (f' := (794, [some (.retAddr 0), some (.ref 0), some (.ref 387), some (.int 0)], [.int 2, .retAddr 0, .int x1, .ref 387, .int (-1)], mv_W2)) rfl ?_
      refine mt_runs 1 (f' := (795, [some (.retAddr 0), some (.ref 0), some (.ref 387), some (.int 0)], [.int x2, .int x1, .ref 387, .int (-1)], mv_W2)) rfl ?_
      refine mt_call rfl (fun _ => rfl) ⟨Nat.le_of_ble_eq_true rfl, Nat.le_of_ble_eq_true rfl, rfl⟩ (Nat.le_of_ble_eq_true rfl) ?_
      refine mt_runs 3 (f' := (4, [some (.ref 387), some (.int x1), some (.int x2)], [.int 9, .int 0, .int x1], mv_W2)) rfl ?_
      refine mt_call rfl (fun _ => rfl) ⟨Nat.le_of_ble_eq_true rfl, Nat.le_of_ble_eq_true rfl, rfl⟩ (Nat.le_of_ble_eq_true rfl) ?_
      refine mt_runs 2 (f' := (2, [some (.int x1), some (.int 0), some (.int 9)], [.int 0, .int x1], mv_W2)) rfl ?_
      refine mu_icmp (tgt := 14) rfl (by decide) (fun (c4 : x1.toInt < 0) => ?_) (fun (c4 : ¬ (x1.toInt < 0)) => ?_)
      · exfalso
        omega
      · refine mt_runs 2 (f' := (7, [some (.int x1), some (.int 0), some (.int 9)], [.int 9, .int x1], mv_W2)) rfl ?_
        refine mu_icmp (tgt := 14) rfl (by decide) (fun (c5 : 9 < x1.toInt) => ?_) (fun (c5 : ¬ (9 < x1.toInt)) => ?_)
        · refine mt_runs 1 (f' := (15, [some (.int x1), some (.int 0), some (.int 9)], [.int 0], mv_W2)) rfl ?_
          refine mt_ret rfl rfl ?_
          refine mt_runs 2 (f' := (20, [some (.ref 387), some (.int x1), some (.int x2)], [.int (-1)], mv_W2)) rfl ?_
          refine mt_ret rfl rfl ?_
          refine mt_runs 1 (f' := (958, [some (.retAddr 0), some (.ref 0), some (.ref 387), some (.int 0)], [], mv_W2)) rfl ?_
          refine mt_runs 1 (f' := (961, [some (.retAddr 0), some (.ref 0), some (.ref 387), some (.int 6)], [], mv_W2)) rfl ?_
          refine mt_runs 1 (f' := (18, [some (.retAddr 0), some (.ref 0), some (.ref 387), some (.int 6)], [], mv_W2)) rfl ?_
          refine mt_runs 1 (f' := (19, [some (.retAddr 0), some (.ref 0), some (.ref 387), some (.int 6)], [.int 6], mv_W2)) rfl ?_
          refine mt_runs 1 (f' := (20, [some (.retAddr 0), some (.ref 0), some (.ref 387), some (.int 6)], [.retAddr 0, .int 6], mv_W2)) rfl ?_
          refine mt_runs 1 (f' := (21, [some (.retAddr 0), some (.ref 0), some (.ref 387), some (.int 6)], [.int 6, .int 6], mv_W2)) rfl ?_
          refine mt_runs 1 (f' := (23, [some (.retAddr 0), some (.ref 0), some (.ref 387), some (.int 6)], [.int 6, .int 6, .int 6], mv_W2)) rfl ?_
          refine mt_runs 1 (f' := (24, [some (.retAddr 0), some (.ref 0), some (.ref 387), some (.int 6)], [.int 0, .int 6], mv_W2)) rfl ?_
          refine mt_runs 1 (f' := (964, [some (.retAddr 0), some (.ref 0), some (.ref 387), some (.int 6)], [], mv_W2)) rfl ?_
          refine mt_runs 1 (f' := (965, [some (.retAddr 0), some (.ref 0), some (.ref 387), some (.int 6)], [.int 1], mv_W2)) rfl ?_
          refine mt_ret rfl rfl ?_
          exact ⟨rfl, Nat.le_of_ble_eq_true rfl, Nat.le_of_ble_eq_true rfl⟩
        · exfalso
          omega
    · refine mt_runs 3 (f' := (15, [some (.ref 0), some (.int x1), some (.int x2)], [.int x1, .ref 13], mv_W2)) rfl ?_
      obtain ⟨j6, hj6, ej6⟩ := mu_rng (x := x1) (m := 10) (by omega) (by omega) (by decide)
      subst ej6
      match j6, hj6 with
      | 0, _ =>
        refine mt_runs 4 (f' := (23, [some (.ref 0), some (.int 0), some (.int x2)], [.int (-1)], mv_W2)) rfl ?_
        refine mt_ret rfl rfl ?_
        refine mt_runs 1 (f' := (785, [some (.retAddr 0), some (.ref 0), some (.ref 387), some (.int 0)], [.ref 387, .int (-1)], mv_W2)) rfl ?_
        refine mt_runs 1 (f' := (786, [some (.retAddr 0), some (.ref 0), some (.ref 387), some (.int 0)], [.retAddr 0, .ref 387, .int (-1)], mv_W2)) rfl ?_
        refine mt_runs 1 (f' := (787, [some (.retAddr 0), some (.ref 0), some (.ref 387), some (.int 0)], [.int 0, .retAddr 0, .ref 387, .int (-1)], mv_W2)) rfl ?_
        refine mt_runs 1 (f' := (788, [some (.retAddr 0), some (.ref 0), some (.ref 387), some (.int 0)], [.int 1, .int 0, .retAddr 0, .ref 387, .int (-1)], mv_W2)) rfl ?_
        refine mt_runs 1 (f' := (789, [some (.retAddr 0), some (.ref 0), some (.ref 387), some (.int 0)], [.int 1, .retAddr 0, .ref 387, .int (-1)], mv_W2)) rfl ?_
        refine mt_runs 1 (f' := (790, [some (.retAddr 0), some (.ref 0), some (.ref 387), some (.int 0)], [.int 0, .ref 387, .int (-1)], mv_W2)) rfl ?_
        refine mt_runs 1 (f' := (791, [some (.retAddr 0), some (.ref 0), some (.ref 387), some (.int 0)], [.retAddr 0, .int 0, .ref 387, .int (-1)], mv_W2)) rfl ?_
        refine mt_runs 1 (f' := (792, [some (.retAddr 0), some (.ref 0), some (.ref 387), some (.int 0)], [.int 0, .retAddr 0, .int 0, .ref 387, .int (-1)], mv_W2)) rfl ?_
        refine mt_runs 1 (f' := (793, [some (.retAddr 0), some (.ref 0), some (.ref 387), some (.int 0)], [.int 2, .int 0, .retAddr 0, .int 0, .ref 387, .int (-1)], mv_W2)) rfl ?_
        refine mt_runs 1 (f' := (794, [some (.retAddr 0), some (.ref 0), some (.ref 387), some (.int 0)], [.int 2, .retAddr 0, .int 0, .ref 387, .int (-1)], mv_W2)) rfl ?_
        refine mt_runs 1 (f' := (795, [some (.retAddr 0), some (.ref 0), some (.ref 387), some (.int 0)], [.int x2, .int 0, .ref 387, .int (-1)], mv_W2)) rfl ?_
        refine mt_call rfl (fun _ => rfl) ⟨Nat.le_of_ble_eq_true rfl, Nat.le_of_ble_eq_true rfl, rfl⟩ (Nat.le_of_ble_eq_true rfl) ?_
        refine mt_runs 3 (f' := (4, [some (.ref 387), some (.int 0), some (.int x2)], [.int 9, .int 0, .int 0], mv_W2)) rfl ?_
        refine mt_call rfl (fun _ => rfl) ⟨Nat.le_of_ble_eq_true rfl, Nat.le_of_ble_eq_true rfl, rfl⟩ (Nat.le_of_ble_eq_true rfl) ?_
        refine mt_runs 8 (f' := (15, [some (.int 0), some (.int 0), some (.int 9)], [.int 1], mv_W2)) rfl ?_
        refine mt_ret rfl rfl ?_
        refine mt_runs 7 (f' := (20, [some (.ref 387), some (.int 0), some (.int x2)], [.int (-1)], mv_W2)) rfl ?_
        refine mt_ret rfl rfl ?_
        refine mt_runs 1 (f' := (958, [some (.retAddr 0), some (.ref 0), some (.ref 387), some (.int 0)], [], mv_W2)) rfl ?_
        refine mt_runs 1 (f' := (961, [some (.retAddr 0), some (.ref 0), some (.ref 387), some (.int 6)], [], mv_W2)) rfl ?_
        refine mt_runs 1 (f' := (18, [some (.retAddr 0), some (.ref 0), some (.ref 387), some (.int 6)], [], mv_W2)) rfl ?_
        refine mt_runs 1 (f' := (19, [some (.retAddr 0), some (.ref 0), some (.ref 387), some (.int 6)], [.int 6], mv_W2)) rfl ?_
        refine mt_runs 1 (f' := (20, [some (.retAddr 0), some (.ref 0), some (.ref 387), some (.int 6)], [.retAddr 0, .int 6], mv_W2)) rfl ?_
        refine mt_runs 1 (f' := (21, [some (.retAddr 0), some (.ref 0), some (.ref 387), some (.int 6)], [.int 6, .int 6], mv_W2)) rfl ?_
        refine mt_runs 1 (f' := (23, [some (.retAddr 0), some (.ref 0), some (.ref 387), some (.int 6)], [.int 6, .int 6, .int 6], mv_W2)) rfl ?_
        refine mt_runs 1 (f' := (24, [some (.retAddr 0), some (.ref 0), some (.ref 387), some (.int 6)], [.int 0, .int 6], mv_W2)) rfl ?_
        refine mt_runs 1 (f' := (964, [some (.retAddr 0), some (.ref 0), some (.ref 387), some (.int 6)], [], mv_W2)) rfl ?_
        refine mt_runs 1 (f' := (965, [some (.retAddr 0), some (.ref 0), some (.ref 387), some (.int 6)], [.int 1], mv_W2)) rfl ?_
        refine mt_ret rfl rfl ?_
        exact ⟨rfl, Nat.le_of_ble_eq_true rfl, Nat.le_of_ble_eq_true rfl⟩
      | 1, _ =>
        refine mt_runs 4 (f' := (23, [some (.ref 0), some (.int 1), some (.int x2)], [.int (-1)], mv_W2)) rfl ?_
        refine mt_ret rfl rfl ?_
        refine mt_runs 1 (f' := (785, [some (.retAddr 0), some (.ref 0), some (.ref 387), some (.int 0)], [.ref 387, .int (-1)], mv_W2)) rfl ?_
        refine mt_runs 1 (f' := (786, [some (.retAddr 0), some (.ref 0), some (.ref 387), some (.int 0)], [.retAddr 0, .ref 387, .int (-1)], mv_W2)) rfl ?_
        refine mt_runs 1 (f' := (787, [some (.retAddr 0), some (.ref 0), some (.ref 387), some (.int 0)], [.int 0, .retAddr 0, .ref 387, .int (-1)], mv_W2)) rfl ?_
        refine mt_runs 1 (f' := (788, [some (.retAddr 0), some (.ref 0), some (.ref 387), some (.int 0)], [.int 1, .int 0, .retAddr 0, .ref 387, .int (-1)], mv_W2)) rfl ?_
        refine mt_runs 1 (f' := (789, [some (.retAddr 0), some (.ref 0), some (.ref 387), some (.int 0)], [.int 1, .retAddr 0, .ref 387, .int (-1)], mv_W2)) rfl ?_
        refine mt_runs 1 (f' := (790, [some (.retAddr 0), some (.ref 0), some (.ref 387), some (.int 0)], [.int 1, .ref 387, .int (-1)], mv_W2)) rfl ?_
        refine mt_runs 1 (f' := (791, [some (.retAddr 0), some (.ref 0), some (.ref 387), some (.int 0)], [.retAddr 0, .int 1, .ref 387, .int (-1)], mv_W2)) rfl ?_
        refine mt_runs 1 (f' := (792, [some (.retAddr 0), some (.ref 0), some (.ref 387), some (.int 0)], [.int 0, .retAddr 0, .int 1, .ref 387, .int (-1)], mv_W2)) rfl ?_
        refine mt_runs 1 (f' := (793, [some (.retAddr 0), some (.ref 0), some (.ref 387), some (.int 0)], [.int 2, .int 0, .retAddr 0, .int 1, .ref 387, .int (-1)], mv_W2)) rfl ?_
        refine mt_runs 1 (f' := (794, [some (.retAddr 0), some (.ref 0), some (.ref 387), some (.int 0)], [.int 2, .retAddr 0, .int 1, .ref 387, .int (-1)], mv_W2)) rfl ?_
        refine mt_runs 1 (f' := (795, [some (.retAddr 0), some (.ref 0), some (.ref 387), some (.int 0)], [.int x2, .int 1, .ref 387, .int (-1)], mv_W2)) rfl ?_
        refine mt_call rfl (fun _ => rfl) ⟨Nat.le_of_ble_eq_true rfl, Nat.le_of_ble_eq_true rfl, rfl⟩ (Nat.le_of_ble_eq_true rfl) ?_
        refine mt_runs 3 (f' := (4, [some (.ref 387), some (.int 1), some (.int x2)], [.int 9, .int 0, .int 1], mv_W2)) rfl ?_
        refine mt_call rfl (fun _ => rfl) ⟨Nat.le_of_ble_eq_true rfl, Nat.le_of_ble_eq_true rfl, rfl⟩ (Nat.le_of_ble_eq_true rfl) ?_
        refine mt_runs 8 (f' := (15, [some (.int 1), some (.int 0), some (.int 9)], [.int 1], mv_W2)) rfl ?_
        refine mt_ret rfl rfl ?_
        refine mt_runs 7 (f' := (20, [some (.ref 387), some (.int 1), some (.int x2)], [.int (-1)], mv_W2)) rfl ?_
        refine mt_ret rfl rfl ?_
        refine mt_runs 1 (f' := (958, [some (.retAddr 0), some (.ref 0), some (.ref 387), some (.int 0)], [], mv_W2)) rfl ?_
        refine mt_runs 1 (f' := (961, [some (.retAddr 0), some (.ref 0), some (.ref 387), some (.int 6)], [], mv_W2)) rfl ?_
        refine mt_runs 1 (f' := (18, [some (.retAddr 0), some (.ref 0), some (.ref 387), some (.int 6)], [], mv_W2)) rfl ?_
        refine mt_runs 1 (f' := (19, [some (.retAddr 0), some (.ref 0), some (.ref 387), some (.int 6)], [.int 6], mv_W2)) rfl ?_
        refine mt_runs 1 (f' := (20, [some (.retAddr 0), some (.ref 0), some (.ref 387), some (.int 6)], [.retAddr 0, .int 6], mv_W2)) rfl ?_
        refine mt_runs 1 (f' := (21, [some (.retAddr 0), some (.ref 0), some (.ref 387), some (.int 6)], [.int 6, .int 6], mv_W2)) rfl ?_
        refine mt_runs 1 (f' := (23, [some (.retAddr 0), some (.ref 0), some (.ref 387), some (.int 6)], [.int 6, .int 6, .int 6], mv_W2)) rfl ?_
        refine mt_runs 1 (f' := (24, [some (.retAddr 0), some (.ref 0), some (.ref 387), some (.int 6)], [.int 0, .int 6], mv_W2)) rfl ?_
        refine mt_runs 1 (f' := (964, [some (.retAddr 0), some (.ref 0), some (.ref 387), some (.int 6)], [], mv_W2)) rfl ?_
        refine mt_runs 1 (f' := (965, [some (.retAddr 0), some (.ref 0), some (.ref 387), some (.int 6)], [.int 1], mv_W2)) rfl ?_
        refine mt_ret rfl rfl ?_
        exact ⟨rfl, Nat.le_of_ble_eq_true rfl, Nat.le_of_ble_eq_true rfl⟩
      | 2, _ =>
        refine mt_runs 4 (f' := (23, [some (.ref 0), some (.int 2), some (.int x2)], [.int (-1)], mv_W2)) rfl ?_
        refine mt_ret rfl rfl ?_
        refine mt_runs 1 (f' := (785, [some (.retAddr 0), some (.ref 0), some (.ref 387), some (.int 0)], [.ref 387, .int (-1)], mv_W2)) rfl ?_
        refine mt_runs 1 (f' := (786, [some (.retAddr 0), some (.ref 0), some (.ref 387), some (.int 0)], [.retAddr 0, .ref 387, .int (-1)], mv_W2)) rfl ?_
        refine mt_runs 1 (f' := (787, [some (.retAddr 0), some (.ref 0), some (.ref 387), some (.int 0)], [.int 0, .retAddr 0, .ref 387, .int (-1)], mv_W2)) rfl ?_
        refine mt_runs 1 (f' := (788, [some (.retAddr 0), some (.ref 0), some (.ref 387), some (.int 0)], [.int 1, .int 0, .retAddr 0, .ref 387, .int (-1)], mv_W2)) rfl ?_
        refine mt_runs 1 (f' := (789, [some (.retAddr 0), some (.ref 0), some (.ref 387), some (.int 0)], [.int 1, .retAddr 0, .ref 387, .int (-1)], mv_W2)) rfl ?_
        refine mt_runs 1 (f' := (790, [some (.retAddr 0), some (.ref 0), some (.ref 387), some (.int 0)], [.int 2, .ref 387, .int (-1)], mv_W2)) rfl ?_
        refine mt_runs 1 (f' := (791, [some (.retAddr 0), some (.ref 0), some (.ref 387), some (.int 0)], [.retAddr 0, .int 2, .ref 387, .int (-1)], mv_W2)) rfl ?_
        refine mt_runs 1 (f' := (792, [some (.retAddr 0), some (.ref 0), some (.ref 387), some (.int 0)], [.int 0, .retAddr 0, .int 2, .ref 387, .int (-1)], mv_W2)) rfl ?_
        refine mt_runs 1 (f' := (793, [some (.retAddr 0), some (.ref 0), some (.ref 387), some (.int 0)], [.int 2, .int 0, .retAddr 0, .int 2, .ref 387, .int (-1)], mv_W2)) rfl ?_
        refine mt_runs 1 (f' := (794, [some (.retAddr 0), some (.ref 0), some (.ref 387), some (.int 0)], [.int 2, .retAddr 0, .int 2, .ref 387, .int (-1)], mv_W2)) rfl ?_
        refine mt_runs 1 (f' := (795, [some (.retAddr 0), some (.ref 0), some (.ref 387), some (.int 0)], [.int x2, .int 2, .ref 387, .int (-1)], mv_W2)) rfl ?_
        refine mt_call rfl (fun _ => rfl) ⟨Nat.le_of_ble_eq_true rfl, Nat.le_of_ble_eq_true rfl, rfl⟩ (Nat.le_of_ble_eq_true rfl) ?_
        refine mt_runs 3 (f' := (4, [some (.ref 387), some (.int 2), some (.int x2)], [.int 9, .int 0, .int 2], mv_W2)) rfl ?_
        refine mt_call rfl (fun _ => rfl) ⟨Nat.le_of_ble_eq_true rfl, Nat.le_of_ble_eq_true rfl, rfl⟩ (Nat.le_of_ble_eq_true rfl) ?_
        refine mt_runs 8 (f' := (15, [some (.int 2), some (.int 0), some (.int 9)], [.int 1], mv_W2)) rfl ?_
        refine mt_ret rfl rfl ?_
        refine mt_runs 7 (f' := (20, [some (.ref 387), some (.int 2), some (.int x2)], [.int (-1)], mv_W2)) rfl ?_
        refine mt_ret rfl rfl ?_
        refine mt_runs 1 (f' := (958, [some (.retAddr 0), some (.ref 0), some (.ref 387), some (.int 0)], [], mv_W2)) rfl ?_
        refine mt_runs 1 (f' := (961, [some (.retAddr 0), some (.ref 0), some (.ref 387), some (.int 6)], [], mv_W2)) rfl ?_
        refine mt_runs 1 (f' := (18, [some (.retAddr 0), some (.ref 0), some (.ref 387), some (.int 6)], [], mv_W2)) rfl ?_
        refine mt_runs 1 (f' := (19, [some (.retAddr 0), some (.ref 0), some (.ref 387), some (.int 6)], [.int 6], mv_W2)) rfl ?_
        refine mt_runs 1 (f' := (20, [some (.retAddr 0), some (.ref 0), some (.ref 387), some (.int 6)], [.retAddr 0, .int 6], mv_W2)) rfl ?_
        refine mt_runs 1 (f' := (21, [some (.retAddr 0), some (.ref 0), some (.ref 387), some (.int 6)], [.int 6, .int 6], mv_W2)) rfl ?_
        refine mt_runs 1 (f' := (23, [some (.retAddr 0), some (.ref 0), some (.ref 387), some (.int 6)], [.int 6, .int 6, .int 6], mv_W2)) rfl ?_
        refine mt_runs 1 (f' := (24, [some (.retAddr 0), some (.ref 0), some (.ref 387), some (.int 6)], [.int 0, .int 6], mv_W2)) rfl ?_
        refine mt_runs 1 (f' := (964, [some (.retAddr 0), some (.ref 0), some (.ref 387), some (.int 6)], [], mv_W2)) rfl ?_
        refine mt_runs 1 (f' := (965, [some (.retAddr 0), some (.ref 0), some (.ref 387), some (.int 6)], [.int 1], mv_W2)) rfl ?_
        refine mt_ret rfl rfl ?_
        exact ⟨rfl, Nat.le_of_ble_eq_true rfl, Nat.le_of_ble_eq_true rfl⟩
      | 3, _ =>
        refine mt_runs 4 (f' := (23, [some (.ref 0), some (.int 3), some (.int x2)], [.int (-1)], mv_W2)) rfl ?_
        refine mt_ret rfl rfl ?_
        refine mt_runs 1 (f' := (785, [some (.retAddr 0), some (.ref 0), some (.ref 387), some (.int 0)], [.ref 387, .int (-1)], mv_W2)) rfl ?_
        refine mt_runs 1 (f' := (786, [some (.retAddr 0), some (.ref 0), some (.ref 387), some (.int 0)], [.retAddr 0, .ref 387, .int (-1)], mv_W2)) rfl ?_
        refine mt_runs 1 (f' := (787, [some (.retAddr 0), some (.ref 0), some (.ref 387), some (.int 0)], [.int 0, .retAddr 0, .ref 387, .int (-1)], mv_W2)) rfl ?_
        refine mt_runs 1 (f' := (788, [some (.retAddr 0), some (.ref 0), some (.ref 387), some (.int 0)], [.int 1, .int 0, .retAddr 0, .ref 387, .int (-1)], mv_W2)) rfl ?_
        refine mt_runs 1 (f' := (789, [some (.retAddr 0), some (.ref 0), some (.ref 387), some (.int 0)], [.int 1, .retAddr 0, .ref 387, .int (-1)], mv_W2)) rfl ?_
        refine mt_runs 1 (f' := (790, [some (.retAddr 0), some (.ref 0), some (.ref 387), some (.int 0)], [.int 3, .ref 387, .int (-1)], mv_W2)) rfl ?_
        refine mt_runs 1 (f' := (791, [some (.retAddr 0), some (.ref 0), some (.ref 387), some (.int 0)], [.retAddr 0, .int 3, .ref 387, .int (-1)], mv_W2)) rfl ?_
        refine mt_runs 1 (f' := (792, [some (.retAddr 0), some (.ref 0), some (.ref 387), some (.int 0)], [.int 0, .retAddr 0, .int 3, .ref 387, .int (-1)], mv_W2)) rfl ?_
        refine mt_runs 1 (f' := (793, [some (.retAddr 0), some (.ref 0), some (.ref 387), some (.int 0)], [.int 2, .int 0, .retAddr 0, .int 3, .ref 387, .int (-1)], mv_W2)) rfl ?_
        refine mt_runs 1 (f' := (794, [some (.retAddr 0), some (.ref 0), some (.ref 387), some (.int 0)], [.int 2, .retAddr 0, .int 3, .ref 387, .int (-1)], mv_W2)) rfl ?_
        refine mt_runs 1 (f' := (795, [some (.retAddr 0), some (.ref 0), some (.ref 387), some (.int 0)], [.int x2, .int 3, .ref 387, .int (-1)], mv_W2)) rfl ?_
        refine mt_call rfl (fun _ => rfl) ⟨Nat.le_of_ble_eq_true rfl, Nat.le_of_ble_eq_true rfl, rfl⟩ (Nat.le_of_ble_eq_true rfl) ?_
        refine mt_runs 3 (f' := (4, [some (.ref 387), some (.int 3), some (.int x2)], [.int 9, .int 0, .int 3], mv_W2)) rfl ?_
        refine mt_call rfl (fun _ => rfl) ⟨Nat.le_of_ble_eq_true rfl, Nat.le_of_ble_eq_true rfl, rfl⟩ (Nat.le_of_ble_eq_true rfl) ?_
        refine mt_runs 8 (f' := (15, [some (.int 3), some (.int 0), some (.int 9)], [.int 1], mv_W2)) rfl ?_
        refine mt_ret rfl rfl ?_
        refine mt_runs 7 (f' := (20, [some (.ref 387), some (.int 3), some (.int x2)], [.int (-1)], mv_W2)) rfl ?_
        refine mt_ret rfl rfl ?_
        refine mt_runs 1 (f' := (958, [some (.retAddr 0), some (.ref 0), some (.ref 387), some (.int 0)], [], mv_W2)) rfl ?_
        refine mt_runs 1 (f' := (961, [some (.retAddr 0), some (.ref 0), some (.ref 387), some (.int 6)], [], mv_W2)) rfl ?_
        refine mt_runs 1 (f' := (18, [some (.retAddr 0), some (.ref 0), some (.ref 387), some (.int 6)], [], mv_W2)) rfl ?_
        refine mt_runs 1 (f' := (19, [some (.retAddr 0), some (.ref 0), some (.ref 387), some (.int 6)], [.int 6], mv_W2)) rfl ?_
        refine mt_runs 1 (f' := (20, [some (.retAddr 0), some (.ref 0), some (.ref 387), some (.int 6)], [.retAddr 0, .int 6], mv_W2)) rfl ?_
        refine mt_runs 1 (f' := (21, [some (.retAddr 0), some (.ref 0), some (.ref 387), some (.int 6)], [.int 6, .int 6], mv_W2)) rfl ?_
        refine mt_runs 1 (f' := (23, [some (.retAddr 0), some (.ref 0), some (.ref 387), some (.int 6)], [.int 6, .int 6, .int 6], mv_W2)) rfl ?_
        refine mt_runs 1 (f' := (24, [some (.retAddr 0), some (.ref 0), some (.ref 387), some (.int 6)], [.int 0, .int 6], mv_W2)) rfl ?_
        refine mt_runs 1 (f' := (964, [some (.retAddr 0), some (.ref 0), some (.ref 387), some (.int 6)], [], mv_W2)) rfl ?_
        refine mt_runs 1 (f' := (965, [some (.retAddr 0), some (.ref 0), some (.ref 387), some (.int 6)], [.int 1], mv_W2)) rfl ?_
        refine mt_ret rfl rfl ?_
        exact ⟨rfl, Nat.le_of_ble_eq_true rfl, Nat.le_of_ble_eq_true rfl⟩
      | 4, _ =>
        refine mt_runs 4 (f' := (23, [some (.ref 0), some (.int 4), some (.int x2)], [.int (-1)], mv_W2)) rfl ?_
        refine mt_ret rfl rfl ?_
        refine mt_runs 1 (f' := (785, [some (.retAddr 0), some (.ref 0), some (.ref 387), some (.int 0)], [.ref 387, .int (-1)], mv_W2)) rfl ?_
        refine mt_runs 1 (f' := (786, [some (.retAddr 0), some (.ref 0), some (.ref 387), some (.int 0)], [.retAddr 0, .ref 387, .int (-1)], mv_W2)) rfl ?_
        refine mt_runs 1 (f' := (787, [some (.retAddr 0), some (.ref 0), some (.ref 387), some (.int 0)], [.int 0, .retAddr 0, .ref 387, .int (-1)], mv_W2)) rfl ?_
        refine mt_runs 1 (f' := (788, [some (.retAddr 0), some (.ref 0), some (.ref 387), some (.int 0)], [.int 1, .int 0, .retAddr 0, .ref 387, .int (-1)], mv_W2)) rfl ?_
        refine mt_runs 1 (f' := (789, [some (.retAddr 0), some (.ref 0), some (.ref 387), some (.int 0)], [.int 1, .retAddr 0, .ref 387, .int (-1)], mv_W2)) rfl ?_
        refine mt_runs 1 (f' := (790, [some (.retAddr 0), some (.ref 0), some (.ref 387), some (.int 0)], [.int 4, .ref 387, .int (-1)], mv_W2)) rfl ?_
        refine mt_runs 1 (f' := (791, [some (.retAddr 0), some (.ref 0), some (.ref 387), some (.int 0)], [.retAddr 0, .int 4, .ref 387, .int (-1)], mv_W2)) rfl ?_
        refine mt_runs 1 (f' := (792, [some (.retAddr 0), some (.ref 0), some (.ref 387), some (.int 0)], [.int 0, .retAddr 0, .int 4, .ref 387, .int (-1)], mv_W2)) rfl ?_
        refine mt_runs 1 (f' := (793, [some (.retAddr 0), some (.ref 0), some (.ref 387), some (.int 0)], [.int 2, .int 0, .retAddr 0, .int 4, .ref 387, .int (-1)], mv_W2)) rfl ?_
        refine mt_runs 1 (f' := (794, [some (.retAddr 0), some (.ref 0), some (.ref 387), some (.int 0)], [.int 2, .retAddr 0, .int 4, .ref 387, .int (-1)], mv_W2)) rfl ?_
        refine mt_runs 1 (f' := (795, [some (.retAddr 0), some (.ref 0), some (.ref 387), some (.int 0)], [.int x2, .int 4, .ref 387, .int (-1)], mv_W2)) rfl ?_
        refine mt_call rfl (fun _ => rfl) ⟨Nat.le_of_ble_eq_true rfl, Nat.le_of_ble_eq_true rfl, rfl⟩ (Nat.le_of_ble_eq_true rfl) ?_
        refine mt_runs 3 (f' := (4, [some (.ref 387), some (.int 4), some (.int x2)], [.int 9, .int 0, .int 4], mv_W2)) rfl ?_
        refine mt_call rfl (fun _ => rfl) ⟨Nat.le_of_ble_eq_true rfl, Nat.le_of_ble_eq_true rfl, rfl⟩ (Nat.le_of_ble_eq_true rfl) ?_
        refine mt_runs 8 (f' := (15, [some (.int 4), some (.int 0), some (.int 9)], [.int 1], mv_W2)) rfl ?_
        refine mt_ret rfl rfl ?_
        refine mt_runs 7 (f' := (20, [some (.ref 387), some (.int 4), some (.int x2)], [.int (-1)], mv_W2)) rfl ?_
        refine mt_ret rfl rfl ?_
        refine mt_runs 1 (f' := (958, [some (.retAddr 0), some (.ref 0), some (.ref 387), some (.int 0)], [], mv_W2)) rfl ?_
        refine mt_runs 1 (f' := (961, [some (.retAddr 0), some (.ref 0), some (.ref 387), some (.int 6)], [], mv_W2)) rfl ?_
        refine mt_runs 1 (f' := (18, [some (.retAddr 0), some (.ref 0), some (.ref 387), some (.int 6)], [], mv_W2)) rfl ?_
        refine mt_runs 1 (f' := (19, [some (.retAddr 0), some (.ref 0), some (.ref 387), some (.int 6)], [.int 6], mv_W2)) rfl ?_
        refine mt_runs 1 (f' := (20, [some (.retAddr 0), some (.ref 0), some (.ref 387), some (.int 6)], [.retAddr 0, .int 6], mv_W2)) rfl ?_
        refine mt_runs 1 (f' := (21, [some (.retAddr 0), some (.ref 0), some (.ref 387), some (.int 6)], [.int 6, .int 6], mv_W2)) rfl ?_
        refine mt_runs 1 (f' := (23, [some (.retAddr 0), some (.ref 0), some (.ref 387), some (.int 6)], [.int 6, .int 6, .int 6], mv_W2)) rfl ?_
        refine mt_runs 1 (f' := (24, [some (.retAddr 0), some (.ref 0), some (.ref 387), some (.int 6)], [.int 0, .int 6], mv_W2)) rfl ?_
        refine mt_runs 1 (f' := (964, [some (.retAddr 0), some (.ref 0), some (.ref 387), some (.int 6)], [], mv_W2)) rfl ?_
        refine mt_runs 1 (f' := (965, [some (.retAddr 0), some (.ref 0), some (.ref 387), some (.int 6)], [.int 1], mv_W2)) rfl ?_
        refine mt_ret rfl rfl ?_
        exact ⟨rfl, Nat.le_of_ble_eq_true rfl, Nat.le_of_ble_eq_true rfl⟩
      | 5, _ =>
        refine mt_runs 4 (f' := (23, [some (.ref 0), some (.int 5), some (.int x2)], [.int (-1)], mv_W2)) rfl ?_
        refine mt_ret rfl rfl ?_
        refine mt_runs 1 (f' := (785, [some (.retAddr 0), some (.ref 0), some (.ref 387), some (.int 0)], [.ref 387, .int (-1)], mv_W2)) rfl ?_
        refine mt_runs 1 (f' := (786, [some (.retAddr 0), some (.ref 0), some (.ref 387), some (.int 0)], [.retAddr 0, .ref 387, .int (-1)], mv_W2)) rfl ?_
        refine mt_runs 1 (f' := (787, [some (.retAddr 0), some (.ref 0), some (.ref 387), some (.int 0)], [.int 0, .retAddr 0, .ref 387, .int (-1)], mv_W2)) rfl ?_
        refine mt_runs 1 (f' := (788, [some (.retAddr 0), some (.ref 0), some (.ref 387), some (.int 0)], [.int 1, .int 0, .retAddr 0, .ref 387, .int (-1)], mv_W2)) rfl ?_
        refine mt_runs 1 (f' := (789, [some (.retAddr 0), some (.ref 0), some (.ref 387), some (.int 0)], [.int 1, .retAddr 0, .ref 387, .int (-1)], mv_W2)) rfl ?_
        refine mt_runs 1 (f' := (790, [some (.retAddr 0), some (.ref 0), some (.ref 387), some (.int 0)], [.int 5, .ref 387, .int (-1)], mv_W2)) rfl ?_
        refine mt_runs 1 (f' := (791, [some (.retAddr 0), some (.ref 0), some (.ref 387), some (.int 0)], [.retAddr 0, .int 5, .ref 387, .int (-1)], mv_W2)) rfl ?_
        refine mt_runs 1 (f' := (792, [some (.retAddr 0), some (.ref 0), some (.ref 387), some (.int 0)], [.int 0, .retAddr 0, .int 5, .ref 387, .int (-1)], mv_W2)) rfl ?_
        refine mt_runs 1 (f' := (793, [some (.retAddr 0), some (.ref 0), some (.ref 387), some (.int 0)], [.int 2, .int 0, .retAddr 0, .int 5, .ref 387, .int (-1)], mv_W2)) rfl ?_
        refine mt_runs 1 (f' := (794, [some (.retAddr 0), some (.ref 0), some (.ref 387), some (.int 0)], [.int 2, .retAddr 0, .int 5, .ref 387, .int (-1)], mv_W2)) rfl ?_
        refine mt_runs 1 (f' := (795, [some (.retAddr 0), some (.ref 0), some (.ref 387), some (.int 0)], [.int x2, .int 5, .ref 387, .int (-1)], mv_W2)) rfl ?_
        refine mt_call rfl (fun _ => rfl) ⟨Nat.le_of_ble_eq_true rfl, Nat.le_of_ble_eq_true rfl, rfl⟩ (Nat.le_of_ble_eq_true rfl) ?_
        refine mt_runs 3 (f' := (4, [some (.ref 387), some (.int 5), some (.int x2)], [.int 9, .int 0, .int 5], mv_W2)) rfl ?_
        refine mt_call rfl (fun _ => rfl) ⟨Nat.le_of_ble_eq_true rfl, Nat.le_of_ble_eq_true rfl, rfl⟩ (Nat.le_of_ble_eq_true rfl) ?_
        refine mt_runs 8 (f' := (15, [some (.int 5), some (.int 0), some (.int 9)], [.int 1], mv_W2)) rfl ?_
        refine mt_ret rfl rfl ?_
        refine mt_runs 7 (f' := (20, [some (.ref 387), some (.int 5), some (.int x2)], [.int (-1)], mv_W2)) rfl ?_
        refine mt_ret rfl rfl ?_
        refine mt_runs 1 (f' := (958, [some (.retAddr 0), some (.ref 0), some (.ref 387), some (.int 0)], [], mv_W2)) rfl ?_
        refine mt_runs 1 (f' := (961, [some (.retAddr 0), some (.ref 0), some (.ref 387), some (.int 6)], [], mv_W2)) rfl ?_
        refine mt_runs 1 (f' := (18, [some (.retAddr 0), some (.ref 0), some (.ref 387), some (.int 6)], [], mv_W2)) rfl ?_
        refine mt_runs 1 (f' := (19, [some (.retAddr 0), some (.ref 0), some (.ref 387), some (.int 6)], [.int 6], mv_W2)) rfl ?_
        refine mt_runs 1 (f' := (20, [some (.retAddr 0), some (.ref 0), some (.ref 387), some (.int 6)], [.retAddr 0, .int 6], mv_W2)) rfl ?_
        refine mt_runs 1 (f' := (21, [some (.retAddr 0), some (.ref 0), some (.ref 387), some (.int 6)], [.int 6, .int 6], mv_W2)) rfl ?_
        refine mt_runs 1 (f' := (23, [some (.retAddr 0), some (.ref 0), some (.ref 387), some (.int 6)], [.int 6, .int 6, .int 6], mv_W2)) rfl ?_
        refine mt_runs 1 (f' := (24, [some (.retAddr 0), some (.ref 0), some (.ref 387), some (.int 6)], [.int 0, .int 6], mv_W2)) rfl ?_
        refine mt_runs 1 (f' := (964, [some (.retAddr 0), some (.ref 0), some (.ref 387), some (.int 6)], [], mv_W2)) rfl ?_
        refine mt_runs 1 (f' := (965, [some (.retAddr 0), some (.ref 0), some (.ref 387), some (.int 6)], [.int 1], mv_W2)) rfl ?_
        refine mt_ret rfl rfl ?_
        exact ⟨rfl, Nat.le_of_ble_eq_true rfl, Nat.le_of_ble_eq_true rfl⟩
      | 6, _ =>
        refine mt_runs 4 (f' := (23, [some (.ref 0), some (.int 6), some (.int x2)], [.int (-1)], mv_W2)) rfl ?_
        refine mt_ret rfl rfl ?_
        refine mt_runs 1 (f' := (785, [some (.retAddr 0), some (.ref 0), some (.ref 387), some (.int 0)], [.ref 387, .int (-1)], mv_W2)) rfl ?_
        refine mt_runs 1 (f' := (786, [some (.retAddr 0), some (.ref 0), some (.ref 387), some (.int 0)], [.retAddr 0, .ref 387, .int (-1)], mv_W2)) rfl ?_
        refine mt_runs 1 (f' := (787, [some (.retAddr 0), some (.ref 0), some (.ref 387), some (.int 0)], [.int 0, .retAddr 0, .ref 387, .int (-1)], mv_W2)) rfl ?_
        refine mt_runs 1 (f' := (788, [some (.retAddr 0), some (.ref 0), some (.ref 387), some (.int 0)], [.int 1, .int 0, .retAddr 0, .ref 387, .int (-1)], mv_W2)) rfl ?_
        refine mt_runs 1 (f' := (789, [some (.retAddr 0), some (.ref 0), some (.ref 387), some (.int 0)], [.int 1, .retAddr 0, .ref 387, .int (-1)], mv_W2)) rfl ?_
        refine mt_runs 1 (f' := (790, [some (.retAddr 0), some (.ref 0), some (.ref 387), some (.int 0)], [.int 6, .ref 387, .int (-1)], mv_W2)) rfl ?_
        refine mt_runs 1 (f' := (791, [some (.retAddr 0), some (.ref 0), some (.ref 387), some (.int 0)], [.retAddr 0, .int 6, .ref 387, .int (-1)], mv_W2)) rfl ?_
        refine mt_runs 1 (f' := (792, [some (.retAddr 0), some (.ref 0), some (.ref 387), some (.int 0)], [.int 0, .retAddr 0, .int 6, .ref 387, .int (-1)], mv_W2)) rfl ?_
        refine mt_runs 1 (f' := (793, [some (.retAddr 0), some (.ref 0), some (.ref 387), some (.int 0)], [.int 2, .int 0, .retAddr 0, .int 6, .ref 387, .int (-1)], mv_W2)) rfl ?_
        refine mt_runs 1 (f' := (794, [some (.retAddr 0), some (.ref 0), some (.ref 387), some (.int 0)], [.int 2, .retAddr 0, .int 6, .ref 387, .int (-1)], mv_W2)) rfl ?_
        refine mt_runs 1 (f' := (795, [some (.retAddr 0), some (.ref 0), some (.ref 387), some (.int 0)], [.int x2, .int 6, .ref 387, .int (-1)], mv_W2)) rfl ?_
        refine mt_call rfl (fun _ => rfl) ⟨Nat.le_of_ble_eq_true rfl, Nat.le_of_ble_eq_true rfl, rfl⟩ (Nat.le_of_ble_eq_true rfl) ?_
        refine mt_runs 3 (f' := (4, [some (.ref 387), some (.int 6), some (.int x2)], [.int 9, .int 0, .int 6], mv_W2)) rfl ?_
        refine mt_call rfl (fun _ => rfl) ⟨Nat.le_of_ble_eq_true rfl, Nat.le_of_ble_eq_true rfl, rfl⟩ (Nat.le_of_ble_eq_true rfl) ?_
        refine mt_runs 8 (f' := (15, [some (.int 6), some (.int 0), some (.int 9)], [.int 1], mv_W2)) rfl ?_
        refine mt_ret rfl rfl ?_
        refine mt_runs 7 (f' := (20, [some (.ref 387), some (.int 6), some (.int x2)], [.int (-1)], mv_W2)) rfl ?_
        refine mt_ret rfl rfl ?_
        refine mt_runs 1 (f' := (958, [some (.retAddr 0), some (.ref 0), some (.ref 387), some (.int 0)], [], mv_W2)) rfl ?_
        refine mt_runs 1 (f' := (961, [some (.retAddr 0), some (.ref 0), some (.ref 387), some (.int 6)], [], mv_W2)) rfl ?_
        refine mt_runs 1 (f' := (18, [some (.retAddr 0), some (.ref 0), some (.ref 387), some (.int 6)], [], mv_W2)) rfl ?_
        refine mt_runs 1 (f' := (19, [some (.retAddr 0), some (.ref 0), some (.ref 387), some (.int 6)], [.int 6], mv_W2)) rfl ?_
        refine mt_runs 1 (f' := (20, [some (.retAddr 0), some (.ref 0), some (.ref 387), some (.int 6)], [.retAddr 0, .int 6], mv_W2)) rfl ?_
        refine mt_runs 1 (f' := (21, [some (.retAddr 0), some (.ref 0), some (.ref 387), some (.int 6)], [.int 6, .int 6], mv_W2)) rfl ?_
        refine mt_runs 1 (f' := (23, [some (.retAddr 0), some (.ref 0), some (.ref 387), some (.int 6)], [.int 6, .int 6, .int 6], mv_W2)) rfl ?_
        refine mt_runs 1 (f' := (24, [some (.retAddr 0), some (.ref 0), some (.ref 387), some (.int 6)], [.int 0, .int 6], mv_W2)) rfl ?_
        refine mt_runs 1 (f' := (964, [some (.retAddr 0), some (.ref 0), some (.ref 387), some (.int 6)], [], mv_W2)) rfl ?_
        refine mt_runs 1 (f' := (965, [some (.retAddr 0), some (.ref 0), some (.ref 387), some (.int 6)], [.int 1], mv_W2)) rfl ?_
        refine mt_ret rfl rfl ?_
        exact ⟨rfl, Nat.le_of_ble_eq_true rfl, Nat.le_of_ble_eq_true rfl⟩
      | 7, _ =>
        refine mt_runs 4 (f' := (23, [some (.ref 0), some (.int 7), some (.int x2)], [.int (-1)], mv_W2)) rfl ?_
        refine mt_ret rfl rfl ?_
        refine mt_runs 1 (f' := (785, [some (.retAddr 0), some (.ref 0), some (.ref 387), some (.int 0)], [.ref 387, .int (-1)], mv_W2)) rfl ?_
        refine mt_runs 1 (f' := (786, [some (.retAddr 0), some (.ref 0), some (.ref 387), some (.int 0)], [.retAddr 0, .ref 387, .int (-1)], mv_W2)) rfl ?_
        refine mt_runs 1 (f' := (787, [some (.retAddr 0), some (.ref 0), some (.ref 387), some (.int 0)], [.int 0, .retAddr 0, .ref 387, .int (-1)], mv_W2)) rfl ?_
        refine mt_runs 1 (f' := (788, [some (.retAddr 0), some (.ref 0), some (.ref 387), some (.int 0)], [.int 1, .int 0, .retAddr 0, .ref 387, .int (-1)], mv_W2)) rfl ?_
        refine mt_runs 1 (f' := (789, [some (.retAddr 0), some (.ref 0), some (.ref 387), some (.int 0)], [.int 1, .retAddr 0, .ref 387, .int (-1)], mv_W2)) rfl ?_
        refine mt_runs 1 (f' := (790, [some (.retAddr 0), some (.ref 0), some (.ref 387), some (.int 0)], [.int 7, .ref 387, .int (-1)], mv_W2)) rfl ?_
        refine mt_runs 1 (f' := (791, [some (.retAddr 0), some (.ref 0), some (.ref 387), some (.int 0)], [.retAddr 0, .int 7, .ref 387, .int (-1)], mv_W2)) rfl ?_
        refine mt_runs 1 (f' := (792, [some (.retAddr 0), some (.ref 0), some (.ref 387), some (.int 0)], [.int 0, .retAddr 0, .int 7, .ref 387, .int (-1)], mv_W2)) rfl ?_
        refine mt_runs 1 (f' := (793, [some (.retAddr 0), some (.ref 0), some (.ref 387), some (.int 0)], [.int 2, .int 0, .retAddr 0, .int 7, .ref 387, .int (-1)], mv_W2)) rfl ?_
        refine mt_runs 1 (f' := (794, [some (.retAddr 0), some (.ref 0), some (.ref 387), some (.int 0)], [.int 2, .retAddr 0, .int 7, .ref 387, .int (-1)], mv_W2)) rfl ?_
        refine mt_runs 1 (f' := (795, [some (.retAddr 0), some (.ref 0), some (.ref 387), some (.int 0)], [.int x2, .int 7, .ref 387, .int (-1)], mv_W2)) rfl ?_
        refine mt_call rfl (fun _ => rfl) ⟨Nat.le_of_ble_eq_true rfl, Nat.le_of_ble_eq_true rfl, rfl⟩ (Nat.le_of_ble_eq_true rfl) ?_
        refine mt_runs 3 (f' := (4, [some (.ref 387), some (.int 7), some (.int x2)], [.int 9, .int 0, .int 7], mv_W2)) rfl ?_
        refine mt_call rfl (fun _ => rfl) ⟨Nat.le_of_ble_eq_true rfl, Nat.le_of_ble_eq_true rfl, rfl⟩ (Nat.le_of_ble_eq_true rfl) ?_
        refine mt_runs 8 (f' := (15, [some (.int 7), some (.int 0), some (.int 9)], [.int 1], mv_W2)) rfl ?_
        refine mt_ret rfl rfl ?_
        refine mt_runs 7 (f' := (20, [some (.ref 387), some (.int 7), some (.int x2)], [.int (-1)], mv_W2)) rfl ?_
        refine mt_ret rfl rfl ?_
        refine mt_runs 1 (f' := (958, [some (.retAddr 0), some (.ref 0), some (.ref 387), some (.int 0)], [], mv_W2)) rfl ?_
        refine mt_runs 1 (f' := (961, [some (.retAddr 0), some (.ref 0), some (.ref 387), some (.int 6)], [], mv_W2)) rfl ?_
        refine mt_runs 1 (f' := (18, [some (.retAddr 0), some (.ref 0), some (.ref 387), some (.int 6)], [], mv_W2)) rfl ?_
        refine mt_runs 1 (f' := (19, [some (.retAddr 0), some (.ref 0), some (.ref 387), some (.int 6)], [.int 6], mv_W2)) rfl ?_
        refine mt_runs 1 (f' := (20, [some (.retAddr 0), some (.ref 0), some (.ref 387), some (.int 6)], [.retAddr 0, .int 6], mv_W2)) rfl ?_
        refine mt_runs 1 (f' := (21, [some (.retAddr 0), some (.ref 0), some (.ref 387), some (.int 6)], [.int 6, .int 6], mv_W2)) rfl ?_
        refine mt_runs 1 (f' := (23, [some (.retAddr 0), some (.ref 0), some (.ref 387), some (.int 6)], [.int 6, .int 6, .int 6], mv_W2)) rfl ?_
        refine mt_runs 1 (f' := (24, [some (.retAddr 0), some (.ref 0), some (.ref 387), some (.int 6)], [.int 0, .int 6], mv_W2)) rfl ?_
        refine mt_runs 1 (f' := (964, [some (.retAddr 0), some (.ref 0), some (.ref 387), some (.int 6)], [], mv_W2)) rfl ?_
        refine mt_runs 1 (f' := (965, [some (.retAddr 0), some (.ref 0), some (.ref 387), some (.int 6)], [.int 1], mv_W2)) rfl ?_
        refine mt_ret rfl rfl ?_
        exact ⟨rfl, Nat.le_of_ble_eq_true rfl, Nat.le_of_ble_eq_true rfl⟩
      | 8, _ =>
        refine mt_runs 4 (f' := (23, [some (.ref 0), some (.int 8), some (.int x2)], [.int (-1)], mv_W2)) rfl ?_
        refine mt_ret rfl rfl ?_
        refine mt_runs 1 (f' := (785, [some (.retAddr 0), some (.ref 0), some (.ref 387), some (.int 0)], [.ref 387, .int (-1)], mv_W2)) rfl ?_
        refine mt_runs 1 (f' := (786, [some (.retAddr 0), some (.ref 0), some (.ref 387), some (.int 0)], [.retAddr 0, .ref 387, .int (-1)], mv_W2)) rfl ?_
        refine mt_runs 1 (f' := (787, [some (.retAddr 0), some (.ref 0), some (.ref 387), some (.int 0)], [.int 0, .retAddr 0, .ref 387, .int (-1)], mv_W2)) rfl ?_
        refine mt_runs 1 (f' := (788, [some (.retAddr 0), some (.ref 0), some (.ref 387), some (.int 0)], [.int 1, .int 0, .retAddr 0, .ref 387, .int (-1)], mv_W2)) rfl ?_
        refine mt_runs 1 (f' := (789, [some (.retAddr 0), some (.ref 0), some (.ref 387), some (.int 0)], [.int 1, .retAddr 0, .ref 387, .int (-1)], mv_W2)) rfl ?_
        refine mt_runs 1 (f' := (790, [some (.retAddr 0), some (.ref 0), some (.ref 387), some (.int 0)], [.int 8, .ref 387, .int (-1)], mv_W2)) rfl ?_
        refine mt_runs 1 (f' := (791, [some (.retAddr 0), some (.ref 0), some (.ref 387), some (.int 0)], [.retAddr 0, .int 8, .ref 387, .int (-1)], mv_W2)) rfl ?_
        refine mt_runs 1 (f' := (792, [some (.retAddr 0), some (.ref 0), some (.ref 387), some (.int 0)], [.int 0, .retAddr 0, .int 8, .ref 387, .int (-1)], mv_W2)) rfl ?_
        refine mt_runs 1 (f' := (793, [some (.retAddr 0), some (.ref 0), some (.ref 387), some (.int 0)], [.int 2, .int 0, .retAddr 0, .int 8, .ref 387, .int (-1)], mv_W2)) rfl ?_
        refine mt_runs 1 (f' := (794, [some (.retAddr 0), some (.ref 0), some (.ref 387), some (.int 0)], [.int 2, .retAddr 0, .int 8, .ref 387, .int (-1)], mv_W2)) rfl ?_
        refine mt_runs 1 (f' := (795, [some (.retAddr 0), some (.ref 0), some (.ref 387), some (.int 0)], [.int x2, .int 8, .ref 387, .int (-1)], mv_W2)) rfl ?_
        refine mt_call rfl (fun _ => rfl) ⟨Nat.le_of_ble_eq_true rfl, Nat.le_of_ble_eq_true rfl, rfl⟩ (Nat.le_of_ble_eq_true rfl) ?_
        refine mt_runs 3 (f' := (4, [some (.ref 387), some (.int 8), some (.int x2)], [.int 9, .int 0, .int 8], mv_W2)) rfl ?_
        refine mt_call rfl (fun _ => rfl) ⟨Nat.le_of_ble_eq_true rfl, Nat.le_of_ble_eq_true rfl, rfl⟩ (Nat.le_of_ble_eq_true rfl) ?_
        refine mt_runs 8 (f' := (15, [some (.int 8), some (.int 0), some (.int 9)], [.int 1], mv_W2)) rfl ?_
        refine mt_ret rfl rfl ?_
        refine mt_runs 7 (f' := (20, [some (.ref 387), some (.int 8), some (.int x2)], [.int (-1)], mv_W2)) rfl ?_
        refine mt_ret rfl rfl ?_
        refine mt_runs 1 (f' := (958, [some (.retAddr 0), some (.ref 0), some (.ref 387), some (.int 0)], [], mv_W2)) rfl ?_
        refine mt_runs 1 (f' := (961, [some (.retAddr 0), some (.ref 0), some (.ref 387), some (.int 6)], [], mv_W2)) rfl ?_
        refine mt_runs 1 (f' := (18, [some (.retAddr 0), some (.ref 0), some (.ref 387), some (.int 6)], [], mv_W2)) rfl ?_
        refine mt_runs 1 (f' := (19, [some (.retAddr 0), some (.ref 0), some (.ref 387), some (.int 6)], [.int 6], mv_W2)) rfl ?_
        refine mt_runs 1 (f' := (20, [some (.retAddr 0), some (.ref 0), some (.ref 387), some (.int 6)], [.retAddr 0, .int 6], mv_W2)) rfl ?_
        refine mt_runs 1 (f' := (21, [some (.retAddr 0), some (.ref 0), some (.ref 387), some (.int 6)], [.int 6, .int 6], mv_W2)) rfl ?_
        refine mt_runs 1 (f' := (23, [some (.retAddr 0), some (.ref 0), some (.ref 387), some (.int 6)], [.int 6, .int 6, .int 6], mv_W2)) rfl ?_
        refine mt_runs 1 (f' := (24, [some (.retAddr 0), some (.ref 0), some (.ref 387), some (.int 6)], [.int 0, .int 6], mv_W2)) rfl ?_
        refine mt_runs 1 (f' := (964, [some (.retAddr 0), some (.ref 0), some (.ref 387), some (.int 6)], [], mv_W2)) rfl ?_
        refine mt_runs 1 (f' := (965, [some (.retAddr 0), some (.ref 0), some (.ref 387), some (.int 6)], [.int 1], mv_W2)) rfl ?_
        refine mt_ret rfl rfl ?_
        exact ⟨rfl, Nat.le_of_ble_eq_true rfl, Nat.le_of_ble_eq_true rfl⟩
      | 9, _ =>
        refine mt_runs 4 (f' := (23, [some (.ref 0), some (.int 9), some (.int x2)], [.int (-1)], mv_W2)) rfl ?_
        refine mt_ret rfl rfl ?_
        refine mt_runs 1 (f' := (785, [some (.retAddr 0), some (.ref 0), some (.ref 387), some (.int 0)], [.ref 387, .int (-1)], mv_W2)) rfl ?_
        refine mt_runs 1 (f' := (786, [some (.retAddr 0), some (.ref 0), some (.ref 387), some (.int 0)], [.retAddr 0, .ref 387, .int (-1)], mv_W2)) rfl ?_
        refine mt_runs 1 (f' := (787, [some (.retAddr 0), some (.ref 0), some (.ref 387), some (.int 0)], [.int 0, .retAddr 0, .ref 387, .int (-1)], mv_W2)) rfl ?_
        refine mt_runs 1 (f' := (788, [some (.retAddr 0), some (.ref 0), some (.ref 387), some (.int 0)], [.int 1, .int 0, .retAddr 0, .ref 387, .int (-1)], mv_W2)) rfl ?_
        refine mt_runs 1 (f' := (789, [some (.retAddr 0), some (.ref 0), some (.ref 387), some (.int 0)], [.int 1, .retAddr 0, .ref 387, .int (-1)], mv_W2)) rfl ?_
        refine mt_runs 1 (f' := (790, [some (.retAddr 0), some (.ref 0), some (.ref 387), some (.int 0)], [.int 9, .ref 387, .int (-1)], mv_W2)) rfl ?_
        refine mt_runs 1 (f' := (791, [some (.retAddr 0), some (.ref 0), some (.ref 387), some (.int 0)], [.retAddr 0, .int 9, .ref 387, .int (-1)], mv_W2)) rfl ?_
        refine mt_runs 1 (f' := (792, [some (.retAddr 0), some (.ref 0), some (.ref 387), some (.int 0)], [.int 0, .retAddr 0, .int 9, .ref 387, .int (-1)], mv_W2)) rfl ?_
        refine mt_runs 1 (f' := (793, [some (.retAddr 0), some (.ref 0), some (.ref 387), some (.int 0)], [.int 2, .int 0, .retAddr 0, .int 9, .ref 387, .int (-1)], mv_W2)) rfl ?_
        refine mt_runs 1 (f' := (794, [some (.retAddr 0), some (.ref 0), some (.ref 387), some (.int 0)], [.int 2, .retAddr 0, .int 9, .ref 387, .int (-1)], mv_W2)) rfl ?_
        refine mt_runs 1 (f' := (795, [some (.retAddr 0), some (.ref 0), some (.ref 387), some (.int 0)], [.int x2, .int 9, .ref 387, .int (-1)], mv_W2)) rfl ?_
        refine mt_call rfl (fun _ => rfl) ⟨Nat.le_of_ble_eq_true rfl, Nat.le_of_ble_eq_true rfl, rfl⟩ (Nat.le_of_ble_eq_true rfl) ?_
        refine mt_runs 3 (f' := (4, [some (.ref 387), some (.int 9), some (.int x2)], [.int 9, .int 0, .int 9], mv_W2)) rfl ?_
        refine mt_call rfl (fun _ => rfl) ⟨Nat.le_of_ble_eq_true rfl, Nat.le_of_ble_eq_true rfl, rfl⟩ (Nat.le_of_ble_eq_true rfl) ?_
        refine mt_runs 8 (f' := (15, [some (.int 9), some (.int 0), some (.int 9)], [.int 1], mv_W2)) rfl ?_
        refine mt_ret rfl rfl ?_
        refine mt_runs 7 (f' := (20, [some (.ref 387), some (.int 9), some (.int x2)], [.int (-1)], mv_W2)) rfl ?_
        refine mt_ret rfl rfl ?_
        refine mt_runs 1 (f' := (958, [some (.retAddr 0), some (.ref 0), some (.ref 387), some (.int 0)], [], mv_W2)) rfl ?_
        refine mt_runs 1 (f' := (961, [some (.retAddr 0), some (.ref 0), some (.ref 387), some (.int 6)], [], mv_W2)) rfl ?_
        refine mt_runs 1 (f' := (18, [some (.retAddr 0), some (.ref 0), some (.ref 387), some (.int 6)], [], mv_W2)) rfl ?_
        refine mt_runs 1 (f' := (19, [some (.retAddr 0), some (.ref 0), some (.ref 387), some (.int 6)], [.int 6], mv_W2)) rfl ?_
        refine mt_runs 1 (f' := (20, [some (.retAddr 0), some (.ref 0), some (.ref 387), some (.int 6)], [.retAddr 0, .int 6], mv_W2)) rfl ?_
        refine mt_runs 1 (f' := (21, [some (.retAddr 0), some (.ref 0), some (.ref 387), some (.int 6)], [.int 6, .int 6], mv_W2)) rfl ?_
        refine mt_runs 1 (f' := (23, [some (.retAddr 0), some (.ref 0), some (.ref 387), some (.int 6)], [.int 6, .int 6, .int 6], mv_W2)) rfl ?_
        refine mt_runs 1 (f' := (24, [some (.retAddr 0), some (.ref 0), some (.ref 387), some (.int 6)], [.int 0, .int 6], mv_W2)) rfl ?_
        refine mt_runs 1 (f' := (964, [some (.retAddr 0), some (.ref 0), some (.ref 387), some (.int 6)], [], mv_W2)) rfl ?_
        refine mt_runs 1 (f' := (965, [some (.retAddr 0), some (.ref 0), some (.ref 387), some (.int 6)], [.int 1], mv_W2)) rfl ?_
        refine mt_ret rfl rfl ?_
        exact ⟨rfl, Nat.le_of_ble_eq_true rfl, Nat.le_of_ble_eq_true rfl⟩
      | _ + 10, h => exact absurd h (by omega)
set_option maxRecDepth 100000 in
set_option maxHeartbeats 4000000 in
theorem mv_op23 (x0 x1 x2 x3 x4 x5 : Int32) : mu_G (mt_P (mv_xs x0 x1 x2 x3 x4 x5)) 20 301 (803, [some (.retAddr 0), some (.ref 0), some (.ref 387), some (.int 0)], [], mv_W2) mv_Q := by
  refine mt_runs 1 (f' := (804, [some (.retAddr 0), some (.ref 0), some (.ref 387), some (.int 0)], [.ref 0], mv_W2)) rfl ?_
  refine mt_runs 1 (f' := (805, [some (.retAddr 0), some (.ref 0), some (.ref 387), some (.int 0)], [.retAddr 0, .ref 0], mv_W2)) rfl ?_
  refine mt_runs 1 (f' := (806, [some (.retAddr 0), some (.ref 0), some (.ref 387), some (.int 0)], [.int 0, .retAddr 0, .ref 0], mv_W2)) rfl ?_
  refine mt_runs 1 (f' := (807, [some (.retAddr 0), some (.ref 0), some (.ref 387), some (.int 0)], [.int 1, .int 0, .retAddr 0, .ref 0], mv_W2)) rfl ?_
  refine mt_runs 1 (f' := (808, [some (.retAddr 0), some (.ref 0), some (.ref 387), some (.int 0)], [.int 1, .retAddr 0, .ref 0], mv_W2)) rfl ?_
  refine mt_runs 1 (f' := (809, [some (.retAddr 0), some (.ref 0), some (.ref 387), some (.int 0)], [.int x1, .ref 0], mv_W2)) rfl ?_
  refine mt_runs 1 (f' := (810, [some (.retAddr 0), some (.ref 0), some (.ref 387), some (.int 0)], [.retAddr 0, .int x1, .ref 0], mv_W2)) rfl ?_
  refine mt_runs 1 (f' := (811, [some (.retAddr 0), some (.ref 0), some (.ref 387), some (.int 0)], [.int 0, .retAddr 0, .int x1, .ref 0], mv_W2)) rfl ?_
  refine mt_runs 1 (f' := (812, [some (.retAddr 0), some (.ref 0), some (.ref 387), some (.int 0)], [.int 2, .int 0, .retAddr 0, .int x1, .ref 0], mv_W2)) rfl ?_
  refine mt_runs 1 (f' := (813, [some (.retAddr 0), some (.ref 0), some (.ref 387), some (.int 0)], [.int 2, .retAddr 0, .int x1, .ref 0], mv_W2)) rfl ?_
  refine mt_runs 1 (f' := (814, [some (.retAddr 0), some (.ref 0), some (.ref 387), some (.int 0)], [.int x2, .int x1, .ref 0], mv_W2)) rfl ?_
  refine mu_if (tgt := 821) rfl (by decide) (fun (c1 : x2.toInt = 0) => ?_) (fun (c1 : ¬ (x2.toInt = 0)) => ?_)
  · refine mt_runs 1 (f' := (822, [some (.retAddr 0), some (.ref 0), some (.ref 387), some (.int 0)], [.int 0, .int x1, .ref 0], mv_W2)) rfl ?_
    refine mt_call rfl (fun _ => rfl) ⟨Nat.le_of_ble_eq_true rfl, Nat.le_of_ble_eq_true rfl, rfl⟩ (Nat.le_of_ble_eq_true rfl) ?_
    refine mt_runs 1 (f' := (1, [some (.ref 0), some (.int x1), some (.int 0)], [.int x1], mv_W2)) rfl ?_
    refine mu_if (tgt := 22) rfl (by decide) (fun (c2 : x1.toInt < 0) => ?_) (fun (c2 : ¬ (x1.toInt < 0)) => ?_)
    · refine mt_runs 1 (f' := (23, [some (.ref 0), some (.int x1), some (.int 0)], [.int 0], mv_W2)) rfl ?_
      refine mt_ret rfl rfl ?_
      refine mt_runs 1 (f' := (826, [some (.retAddr 0), some (.ref 0), some (.ref 387), some (.int 0)], [.ref 387, .int 0], mv_W2)) rfl ?_
      refine mt_runs 1 (f' := (827, [some (.retAddr 0), some (.ref 0), some (.ref 387), some (.int 0)], [.retAddr 0, .ref 387, .int 0], mv_W2)) rfl ?_
      refine mt_runs 1 (f' := (828, [some (.retAddr 0), some (.ref 0), some (.ref 387), some (.int 0)], [.int 0, .retAddr 0, .ref 387, .int 0], mv_W2)) rfl ?_
      refine mt_runs 1 (f' := (829, [some (.retAddr 0), some (.ref 0), some (.ref 387), some (.int 0)], [.int 1, .int 0, .retAddr 0, .ref 387, .int 0], mv_W2)) rfl ?_
      refine mt_runs 1 (f' := (830, [some (.retAddr 0), some (.ref 0), some (.ref 387), some (.int 0)], [.int 1, .retAddr 0, .ref 387, .int 0], mv_W2)) rfl ?_
      refine mt_runs 1 (f' := (831, [some (.retAddr 0), some (.ref 0), some (.ref 387), some (.int 0)], [.int x1, .ref 387, .int 0], mv_W2)) rfl ?_
      refine mt_runs 1 (f' := (832, [some (.retAddr 0), some (.ref 0), some (.ref 387), some (.int 0)], [.retAddr 0, .int x1, .ref 387, .int 0], mv_W2)) rfl ?_
      refine mt_runs 1 (f' := (833, [some (.retAddr 0), some (.ref 0), some (.ref 387), some (.int 0)], [.int 0, .retAddr 0, .int x1, .ref 387, .int 0], mv_W2)) rfl ?_
      refine mt_runs 1 (f' := (834, [some (.retAddr 0), some (.ref 0), some (.ref 387), some (.int 0)], [.int 2, .int 0, .retAddr 0, .int x1, .ref 387, .int 0], mv_W2)) rfl ?_
      refine mt_runs 1 (f' := (835, [some (.retAddr 0), some (.ref 0), some (.ref 387), some (.int 0)], [.int 2, .retAddr 0, .int x1, .ref 387, .int 0], mv_W2)) rfl ?_
      refine mt_runs 1 (f' := (836, [some (.retAddr 0), some (.ref 0), some (.ref 387), some (.int 0)], [.int x2, .int x1, .ref 387, .int 0], mv_W2)) rfl ?_
      refine mu_if (tgt := 843) rfl (by decide) (fun (c3 : x2.toInt = 0) => ?_) (fun (c3 : ¬ (x2.toInt = 0)) => ?_)
      · refine mt_runs 1 (f' := (844, [some (.retAddr 0), some (.ref 0), some (.ref 387), some (.int 0)], [.int 0, .int x1, .ref 387, .int 0], mv_W2)) rfl ?_
        refine mt_call rfl (fun _ => rfl) ⟨Nat.le_of_ble_eq_true rfl, Nat.le_of_ble_eq_true rfl, rfl⟩ (Nat.le_of_ble_eq_true rfl) ?_
        refine mt_runs 3 (f' := (4, [some (.ref 387), some (.int x1), some (.int 0)], [.int 9, .int 0, .int x1], mv_W2)) rfl ?_
        refine mt_call rfl (fun _ => rfl) ⟨Nat.le_of_ble_eq_true rfl, Nat.le_of_ble_eq_true rfl, rfl⟩ (Nat.le_of_ble_eq_true rfl) ?_
        refine mt_runs 2 (f' := (2, [some (.int x1), some (.int 0), some (.int 9)], [.int 0, .int x1], mv_W2)) rfl ?_
        refine mu_icmp (tgt := 14) rfl (by decide) (fun (c4 : x1.toInt < 0) => ?_) (fun (c4 : ¬ (x1.toInt < 0)) => ?_)
        · refine mt_runs 1 (f' := (15, [some (.int x1), some (.int 0), some (.int 9)], [.int 0], mv_W2)) rfl ?_
          refine mt_ret rfl rfl ?_
          refine mt_runs 2 (f' := (20, [some (.ref 387), some (.int x1), some (.int 0)], [.int 0], mv_W2)) rfl ?_
          refine mt_ret rfl rfl ?_
          refine mt_runs 1 (f' := (958, [some (.retAddr 0), some (.ref 0), some (.ref 387), some (.int 0)], [], mv_W2)) rfl ?_
          refine mt_runs 1 (f' := (961, [some (.retAddr 0), some (.ref 0), some (.ref 387), some (.int 6)], [], mv_W2)) rfl ?_
          refine mt_runs 1 (f' := (18, [some (.retAddr 0), some (.ref 0), some (.ref 387), some (.int 6)], [], mv_W2)) rfl ?_
          refine mt_runs 1 (f' := (19, [some (.retAddr 0), some (.ref 0), some (.ref 387), some (.int 6)], [.int 6], mv_W2)) rfl ?_
          refine mt_runs 1 (f' := (20, [some (.retAddr 0), some (.ref 0), some (.ref 387), some (.int 6)], [.retAddr 0, .int 6], mv_W2)) rfl ?_
          refine mt_runs 1 (f' := (21, [some (.retAddr 0), some (.ref 0), some (.ref 387), some (.int 6)], [.int 6, .int 6], mv_W2)) rfl ?_
          refine mt_runs 1 (f' := (23, [some (.retAddr 0), some (.ref 0), some (.ref 387), some (.int 6)], [.int 6, .int 6, .int 6], mv_W2)) rfl ?_
          refine mt_runs 1 (f' := (24, [some (.retAddr 0), some (.ref 0), some (.ref 387), some (.int 6)], [.int 0, .int 6], mv_W2)) rfl ?_
          refine mt_runs 1 (f' := (964, [some (.retAddr 0), some (.ref 0), some (.ref 387), some (.int 6)], [], mv_W2)) rfl ?_
          refine mt_runs 1 (f' := (965, [some (.retAddr 0), some (.ref 0), some (.ref 387), some (.int 6)], [.int 1], mv_W2)) rfl ?_
          refine mt_ret rfl rfl ?_
          exact ⟨rfl, Nat.le_of_ble_eq_true rfl, Nat.le_of_ble_eq_true rfl⟩
        · exfalso
          omega
      · exfalso
        omega
    · refine mt_runs 2 (f' := (7, [some (.ref 0), some (.int x1), some (.int 0)], [.int 10, .int x1], mv_W2)) rfl ?_
      refine mu_icmp (tgt := 22) rfl (by decide) (fun (c5 : 10 ≤ x1.toInt) => ?_) (fun (c5 : ¬ (10 ≤ x1.toInt)) => ?_)
      · refine mt_runs 1 (f' := (23, [some (.ref 0), some (.int x1), some (.int 0)], [.int 0], mv_W2)) rfl ?_
        refine mt_ret rfl rfl ?_
        refine mt_runs 1 (f' := (826, [some (.retAddr 0), some (.ref 0), some (.ref 387), some (.int 0)], [.ref 387, .int 0], mv_W2)) rfl ?_
        refine mt_runs 1 (f' := (827, [some (.retAddr 0), some (.ref 0), some (.ref 387), some (.int 0)], [.retAddr 0, .ref 387, .int 0], mv_W2)) rfl ?_
        refine mt_runs 1 (f' := (828, [some (.retAddr 0), some (.ref 0), some (.ref 387), some (.int 0)], [.int 0, .retAddr 0, .ref 387, .int 0], mv_W2)) rfl ?_
        refine mt_runs 1 (f' := (829, [some (.retAddr 0), some (.ref 0), some (.ref 387), some (.int 0)], [.int 1, .int 0, .retAddr 0, .ref 387, .int 0], mv_W2)) rfl ?_
        refine mt_runs 1 (f' := (830, [some (.retAddr 0), some (.ref 0), some (.ref 387), some (.int 0)], [.int 1, .retAddr 0, .ref 387, .int 0], mv_W2)) rfl ?_
        refine mt_runs 1 (f' := (831, [some (.retAddr 0), some (.ref 0), some (.ref 387), some (.int 0)], [.int x1, .ref 387, .int 0], mv_W2)) rfl ?_
        refine mt_runs 1 (f' := (832, [some (.retAddr 0), some (.ref 0), some (.ref 387), some (.int 0)], [.retAddr 0, .int x1, .ref 387, .int 0], mv_W2)) rfl ?_
        refine mt_runs 1 (f' := (833, [some (.retAddr 0), some (.ref 0), some (.ref 387), some (.int 0)], [.int 0, .retAddr 0, .int x1, .ref 387, .int 0], mv_W2)) rfl ?_
        refine mt_runs 1 (f' := (834, [some (.retAddr 0), some (.ref 0), some (.ref 387), some (.int 0)], [.int 2, .int 0, .retAddr 0, .int x1, .ref 387, .int 0], mv_W2)) rfl ?_
        refine mt_runs 1 (f' := (835, [some (.retAddr 0), some (.ref 0), some (.ref 387), some (.int 0)], [.int 2, .retAddr 0, .int x1, .ref 387, .int 0], mv_W2)) rfl ?_
        refine mt_runs 1 (f' := (836, [some (.retAddr 0), some (.ref 0), some (.ref 387), some (.int 0)], [.int x2, .int x1, .ref 387, .int 0], mv_W2)) rfl ?_
        refine mu_if (tgt := 843) rfl (by decide) (fun (c6 : x2.toInt = 0) => ?_) (fun (c6 : ¬ (x2.toInt = 0)) => ?_)
        · refine mt_runs 1 (f' := (844, [some (.retAddr 0), some (.ref 0), some (.ref 387), some (.int 0)], [.int 0, .int x1, .ref 387, .int 0], mv_W2)) rfl ?_
          refine mt_call rfl (fun _ => rfl) ⟨Nat.le_of_ble_eq_true rfl, Nat.le_of_ble_eq_true rfl, rfl⟩ (Nat.le_of_ble_eq_true rfl) ?_
          refine mt_runs 3 (f' := (4, [some (.ref 387), some (.int x1), some (.int 0)], [.int 9, .int 0, .int x1], mv_W2)) rfl ?_
          refine mt_call rfl (fun _ => rfl) ⟨Nat.le_of_ble_eq_true rfl, Nat.le_of_ble_eq_true rfl, rfl⟩ (Nat.le_of_ble_eq_true rfl) ?_
          refine mt_runs 2 (f' := (2, [some (.int x1), some (.int 0), some (.int 9)], [.int 0, .int x1], mv_W2)) rfl ?_
          refine mu_icmp (tgt := 14) rfl (by decide) (fun (c7 : x1.toInt < 0) => ?_) (fun (c7 : ¬ (x1.toInt < 0)) => ?_)
          · exfalso
            omega
          · refine mt_runs 2 (f' := (7, [some (.int x1), some (.int 0), some (.int 9)], [.int 9, .int x1], mv_W2)) rfl ?_
            refine mu_icmp (tgt := 14) rfl (by decide) (fun (c8 : 9 < x1.toInt) => ?_) (fun (c8 : ¬ (9 < x1.toInt)) => ?_)
            · refine mt_runs 1 (f' := (15, [some (.int x1), some (.int 0), some (.int 9)], [.int 0], mv_W2)) rfl ?_
              refine mt_ret rfl rfl ?_
              refine mt_runs 2 (f' := (20, [some (.ref 387), some (.int x1), some (.int 0)], [.int 0], mv_W2)) rfl ?_
              refine mt_ret rfl rfl ?_
              refine mt_runs 1 (f' := (958, [some (.retAddr 0), some (.ref 0), some (.ref 387), some (.int 0)], [], mv_W2)) rfl ?_
              refine mt_runs 1 (f' := (961, [some (.retAddr 0), some (.ref 0), some (.ref 387), some (.int 6)], [], mv_W2)) rfl ?_
              refine mt_runs 1 (f' := (18, [some (.retAddr 0), some (.ref 0), some (.ref 387), some (.int 6)], [], mv_W2)) rfl ?_
              refine mt_runs 1 (f' := (19, [some (.retAddr 0), some (.ref 0), some (.ref 387), some (.int 6)], [.int 6], mv_W2)) rfl ?_
              refine mt_runs 1 (f' := (20, [some (.retAddr 0), some (.ref 0), some (.ref 387), some (.int 6)], [.retAddr 0, .int 6], mv_W2)) rfl ?_
              refine mt_runs 1 (f' := (21, [some (.retAddr 0), some (.ref 0), some (.ref 387), some (.int 6)], [.int 6, .int 6], mv_W2)) rfl ?_
              refine mt_runs 1 (f' := (23, [some (.retAddr 0), some (.ref 0), some (.ref 387), some (.int 6)], [.int 6, .int 6, .int 6], mv_W2)) rfl ?_
              refine mt_runs 1 (f' := (24, [some (.retAddr 0), some (.ref 0), some (.ref 387), some (.int 6)], [.int 0, .int 6], mv_W2)) rfl ?_
              refine mt_runs 1 (f' := (964, [some (.retAddr 0), some (.ref 0), some (.ref 387), some (.int 6)], [], mv_W2)) rfl ?_
              refine mt_runs 1 (f' := (965, [some (.retAddr 0), some (.ref 0), some (.ref 387), some (.int 6)], [.int 1], mv_W2)) rfl ?_
              refine mt_ret rfl rfl ?_
              exact ⟨rfl, Nat.le_of_ble_eq_true rfl, Nat.le_of_ble_eq_true rfl⟩
            · exfalso
              omega
        · exfalso
          omega
      · refine mt_runs 3 (f' := (15, [some (.ref 0), some (.int x1), some (.int 0)], [.int x1, .ref 13], mv_W2)) rfl ?_
        obtain ⟨j9, hj9, ej9⟩ := mu_rng (x := x1) (m := 10) (by omega) (by omega) (by decide)
        subst ej9
        match j9, hj9 with
        | 0, _ =>
          refine mt_runs 4 (f' := (23, [some (.ref 0), some (.int 0), some (.int 0)], [.int 0], mv_W2)) rfl ?_
          refine mt_ret rfl rfl ?_
          refine mt_runs 1 (f' := (826, [some (.retAddr 0), some (.ref 0), some (.ref 387), some (.int 0)], [.ref 387, .int 0], mv_W2)) rfl ?_
          refine mt_runs 1 (f' := (827, [some (.retAddr 0), some (.ref 0), some (.ref 387), some (.int 0)], [.retAddr 0, .ref 387, .int 0], mv_W2)) rfl ?_
          refine mt_runs 1 (f' := (828, [some (.retAddr 0), some (.ref 0), some (.ref 387), some (.int 0)], [.int 0, .retAddr 0, .ref 387, .int 0], mv_W2)) rfl ?_
          refine mt_runs 1 (f' := (829, [some (.retAddr 0), some (.ref 0), some (.ref 387), some (.int 0)], [.int 1, .int 0, .retAddr 0, .ref 387, .int 0], mv_W2)) rfl ?_
          refine mt_runs 1 (f' := (830, [some (.retAddr 0), some (.ref 0), some (.ref 387), some (.int 0)], [.int 1, .retAddr 0, .ref 387, .int 0], mv_W2)) rfl ?_
          refine mt_runs 1 (f' := (831, [some (.retAddr 0), some (.ref 0), some (.ref 387), some (.int 0)], [.int 0, .ref 387, .int 0], mv_W2)) rfl ?_
          refine mt_runs 1 (f' := (832, [some (.retAddr 0), some (.ref 0), some (.ref 387), some (.int 0)], [.retAddr 0, .int 0, .ref 387, .int 0], mv_W2)) rfl ?_
          refine mt_runs 1 (f' := (833, [some (.retAddr 0), some (.ref 0), some (.ref 387), some (.int 0)], [.int 0, .retAddr 0, .int 0, .ref 387, .int 0], mv_W2)) rfl ?_
          refine mt_runs 1 (f' := (834, [some (.retAddr 0), some (.ref 0), some (.ref 387), some (.int 0)], [.int 2, .int 0, .retAddr 0, .int 0, .ref 387, .int 0], mv_W2)) rfl ?_
          refine mt_runs 1 (f' := (835, [some (.retAddr 0), some (.ref 0), some (.ref 387), some (.int 0)], [.int 2, .retAddr 0, .int 0, .ref 387, .int 0], mv_W2)) rfl ?_
          refine mt_runs 1 (f' := (836, [some (.retAddr 0), some (.ref 0), some (.ref 387), some (.int 0)], [.int x2, .int 0, .ref 387, .int 0], mv_W2)) rfl ?_
          refine mu_if (tgt := 843) rfl (by decide) (fun (c10 : x2.toInt = 0) => ?_) (fun (c10 : ¬ (x2.toInt = 0)) => ?_)
          · refine mt_runs 1 (f' := (844, [some (.retAddr 0), some (.ref 0), some (.ref 387), some (.int 0)], [.int 0, .int 0, .ref 387, .int 0], mv_W2)) rfl ?_
            refine mt_call rfl (fun _ => rfl) ⟨Nat.le_of_ble_eq_true rfl, Nat.le_of_ble_eq_true rfl, rfl⟩ (Nat.le_of_ble_eq_true rfl) ?_
            refine mt_runs 3 (f' := (4, [some (.ref 387), some (.int 0), some (.int 0)], [.int 9, .int 0, .int 0], mv_W2)) rfl ?_
            refine mt_call rfl (fun _ => rfl) ⟨Nat.le_of_ble_eq_true rfl, Nat.le_of_ble_eq_true rfl, rfl⟩ (Nat.le_of_ble_eq_true rfl) ?_
            refine mt_runs 8 (f' := (15, [some (.int 0), some (.int 0), some (.int 9)], [.int 1], mv_W2)) rfl ?_
            refine mt_ret rfl rfl ?_
            refine mt_runs 7 (f' := (20, [some (.ref 387), some (.int 0), some (.int 0)], [.int 0], mv_W2)) rfl ?_
            refine mt_ret rfl rfl ?_
            refine mt_runs 1 (f' := (958, [some (.retAddr 0), some (.ref 0), some (.ref 387), some (.int 0)], [], mv_W2)) rfl ?_
            refine mt_runs 1 (f' := (961, [some (.retAddr 0), some (.ref 0), some (.ref 387), some (.int 6)], [], mv_W2)) rfl ?_
            refine mt_runs 1 (f' := (18, [some (.retAddr 0), some (.ref 0), some (.ref 387), some (.int 6)], [], mv_W2)) rfl ?_
            refine mt_runs 1 (f' := (19, [some (.retAddr 0), some (.ref 0), some (.ref 387), some (.int 6)], [.int 6], mv_W2)) rfl ?_
            refine mt_runs 1 (f' := (20, [some (.retAddr 0), some (.ref 0), some (.ref 387), some (.int 6)], [.retAddr 0, .int 6], mv_W2)) rfl ?_
            refine mt_runs 1 (f' := (21, [some (.retAddr 0), some (.ref 0), some (.ref 387), some (.int 6)], [.int 6, .int 6], mv_W2)) rfl ?_
            refine mt_runs 1 (f' := (23, [some (.retAddr 0), some (.ref 0), some (.ref 387), some (.int 6)], [.int 6, .int 6, .int 6], mv_W2)) rfl ?_
            refine mt_runs 1 (f' := (24, [some (.retAddr 0), some (.ref 0), some (.ref 387), some (.int 6)], [.int 0, .int 6], mv_W2)) rfl ?_
            refine mt_runs 1 (f' := (964, [some (.retAddr 0), some (.ref 0), some (.ref 387), some (.int 6)], [], mv_W2)) rfl ?_
            refine mt_runs 1 (f' := (965, [some (.retAddr 0), some (.ref 0), some (.ref 387), some (.int 6)], [.int 1], mv_W2)) rfl ?_
            refine mt_ret rfl rfl ?_
            exact ⟨rfl, Nat.le_of_ble_eq_true rfl, Nat.le_of_ble_eq_true rfl⟩
          · exfalso
            omega
        | 1, _ =>
          refine mt_runs 4 (f' := (23, [some (.ref 0), some (.int 1), some (.int 0)], [.int 0], mv_W2)) rfl ?_
          refine mt_ret rfl rfl ?_
          refine mt_runs 1 (f' := (826, [some (.retAddr 0), some (.ref 0), some (.ref 387), some (.int 0)], [.ref 387, .int 0], mv_W2)) rfl ?_
          refine mt_runs 1 (f' := (827, [some (.retAddr 0), some (.ref 0), some (.ref 387), some (.int 0)], [.retAddr 0, .ref 387, .int 0], mv_W2)) rfl ?_
          refine mt_runs 1 (f' := (828, [some (.retAddr 0), some (.ref 0), some (.ref 387), some (.int 0)], [.int 0, .retAddr 0, .ref 387, .int 0], mv_W2)) rfl ?_
          refine mt_runs 1 (f' := (829, [some (.retAddr 0), some (.ref 0), some (.ref 387), some (.int 0)], [.int 1, .int 0, .retAddr 0, .ref 387, .int 0], mv_W2)) rfl ?_
          refine mt_runs 1 (f' := (830, [some (.retAddr 0), some (.ref 0), some (.ref 387), some (.int 0)], [.int 1, .retAddr 0, .ref 387, .int 0], mv_W2)) rfl ?_
          refine mt_runs 1 (f' := (831, [some (.retAddr 0), some (.ref 0), some (.ref 387), some (.int 0)], [.int 1, .ref 387, .int 0], mv_W2)) rfl ?_
          refine mt_runs 1 (f' := (832, [some (.retAddr 0), some (.ref 0), some (.ref 387), some (.int 0)], [.retAddr 0, .int 1, .ref 387, .int 0], mv_W2)) rfl ?_
          refine mt_runs 1 (f' := (833, [some (.retAddr 0), some (.ref 0), some (.ref 387), some (.int 0)], [.int 0, .retAddr 0, .int 1, .ref 387, .int 0], mv_W2)) rfl ?_
          refine mt_runs 1 (f' := (834, [some (.retAddr 0), some (.ref 0), some (.ref 387), some (.int 0)], [.int 2, .int 0, .retAddr 0, .int 1, .ref 387, .int 0], mv_W2)) rfl ?_
          refine mt_runs 1 (f' := (835, [some (.retAddr 0), some (.ref 0), some (.ref 387), some (.int 0)], [.int 2, .retAddr 0, .int 1, .ref 387, .int 0], mv_W2)) rfl ?_
          refine mt_runs 1 (f' := (836, [some (.retAddr 0), some (.ref 0), some (.ref 387), some (.int 0)], [.int x2, .int 1, .ref 387, .int 0], mv_W2)) rfl ?_
          refine mu_if (tgt := 843) rfl (by decide) (fun (c11 : x2.toInt = 0) => ?_) (fun (c11 : ¬ (x2.toInt = 0)) => ?_)
          · refine mt_runs 1 (f' := (844, [some (.retAddr 0), some (.ref 0), some (.ref 387), some (.int 0)], [.int 0, .int 1, .ref 387, .int 0], mv_W2)) rfl ?_
            refine mt_call rfl (fun _ => rfl) ⟨Nat.le_of_ble_eq_true rfl, Nat.le_of_ble_eq_true rfl, rfl⟩ (Nat.le_of_ble_eq_true rfl) ?_
            refine mt_runs 3 (f' := (4, [some (.ref 387), some (.int 1), some (.int 0)], [.int 9, .int 0, .int 1], mv_W2)) rfl ?_
            refine mt_call rfl (fun _ => rfl) ⟨Nat.le_of_ble_eq_true rfl, Nat.le_of_ble_eq_true rfl, rfl⟩ (Nat.le_of_ble_eq_true rfl) ?_
            refine mt_runs 8 (f' := (15, [some (.int 1), some (.int 0), some (.int 9)], [.int 1], mv_W2)) rfl ?_
            refine mt_ret rfl rfl ?_
            refine mt_runs 7 (f' := (20, [some (.ref 387), some (.int 1), some (.int 0)], [.int 0], mv_W2)) rfl ?_
            refine mt_ret rfl rfl ?_
            refine mt_runs 1 (f' := (958, [some (.retAddr 0), some (.ref 0), some (.ref 387), some (.int 0)], [], mv_W2)) rfl ?_
            refine mt_runs 1 (f' := (961, [some (.retAddr 0), some (.ref 0), some (.ref 387), some (.int 6)], [], mv_W2)) rfl ?_
            refine mt_runs 1 (f' := (18, [some (.retAddr 0), some (.ref 0), some (.ref 387), some (.int 6)], [], mv_W2)) rfl ?_
            refine mt_runs 1 (f' := (19, [some (.retAddr 0), some (.ref 0), some (.ref 387), some (.int 6)], [.int 6], mv_W2)) rfl ?_
            refine mt_runs 1 (f' := (20, [some (.retAddr 0), some (.ref 0), some (.ref 387), some (.int 6)], [.retAddr 0, .int 6], mv_W2)) rfl ?_
            refine mt_runs 1 (f' := (21, [some (.retAddr 0), some (.ref 0), some (.ref 387), some (.int 6)], [.int 6, .int 6], mv_W2)) rfl ?_
            refine mt_runs 1 (f' := (23, [some (.retAddr 0), some (.ref 0), some (.ref 387), some (.int 6)], [.int 6, .int 6, .int 6], mv_W2)) rfl ?_
            refine mt_runs 1 (f' := (24, [some (.retAddr 0), some (.ref 0), some (.ref 387), some (.int 6)], [.int 0, .int 6], mv_W2)) rfl ?_
            refine mt_runs 1 (f' := (964, [some (.retAddr 0), some (.ref 0), some (.ref 387), some (.int 6)], [], mv_W2)) rfl ?_
            refine mt_runs 1 (f' := (965, [some (.retAddr 0), some (.ref 0), some (.ref 387), some (.int 6)], [.int 1], mv_W2)) rfl ?_
            refine mt_ret rfl rfl ?_
            exact ⟨rfl, Nat.le_of_ble_eq_true rfl, Nat.le_of_ble_eq_true rfl⟩
          · exfalso
            omega
        | 2, _ =>
          refine mt_runs 4 (f' := (23, [some (.ref 0), some (.int 2), some (.int 0)], [.int 0], mv_W2)) rfl ?_
          refine mt_ret rfl rfl ?_
          refine mt_runs 1 (f' := (826, [some (.retAddr 0), some (.ref 0), some (.ref 387), some (.int 0)], [.ref 387, .int 0], mv_W2)) rfl ?_
          refine mt_runs 1 (f' := (827, [some (.retAddr 0), some (.ref 0), some (.ref 387), some (.int 0)], [.retAddr 0, .ref 387, .int 0], mv_W2)) rfl ?_
          refine mt_runs 1 (f' := (828, [some (.retAddr 0), some (.ref 0), some (.ref 387), some (.int 0)], [.int 0, .retAddr 0, .ref 387, .int 0], mv_W2)) rfl ?_
          refine mt_runs 1 (f' := (829, [some (.retAddr 0), some (.ref 0), some (.ref 387), some (.int 0)], [.int 1, .int 0, .retAddr 0, .ref 387, .int 0], mv_W2)) rfl ?_
          refine mt_runs 1 (f' := (830, [some (.retAddr 0), some (.ref 0), some (.ref 387), some (.int 0)], [.int 1, .retAddr 0, .ref 387, .int 0], mv_W2)) rfl ?_
          refine mt_runs 1 (f' := (831, [some (.retAddr 0), some (.ref 0), some (.ref 387), some (.int 0)], [.int 2, .ref 387, .int 0], mv_W2)) rfl ?_
          refine mt_runs 1 (f' := (832, [some (.retAddr 0), some (.ref 0), some (.ref 387), some (.int 0)], [.retAddr 0, .int 2, .ref 387, .int 0], mv_W2)) rfl ?_
          refine mt_runs 1 (f' := (833, [some (.retAddr 0), some (.ref 0), some (.ref 387), some (.int 0)], [.int 0, .retAddr 0, .int 2, .ref 387, .int 0], mv_W2)) rfl ?_
          refine mt_runs 1 (f' := (834, [some (.retAddr 0), some (.ref 0), some (.ref 387), some (.int 0)], [.int 2, .int 0, .retAddr 0, .int 2, .ref 387, .int 0], mv_W2)) rfl ?_
          refine mt_runs 1 (f' := (835, [some (.retAddr 0), some (.ref 0), some (.ref 387), some (.int 0)], [.int 2, .retAddr 0, .int 2, .ref 387, .int 0], mv_W2)) rfl ?_
          refine mt_runs 1 (f' := (836, [some (.retAddr 0), some (.ref 0), some (.ref 387), some (.int 0)], [.int x2, .int 2, .ref 387, .int 0], mv_W2)) rfl ?_
          refine mu_if (tgt := 843) rfl (by decide) (fun (c12 : x2.toInt = 0) => ?_) (fun (c12 : ¬ (x2.toInt = 0)) => ?_)
          · refine mt_runs 1 (f' := (844, [some (.retAddr 0), some (.ref 0), some (.ref 387), some (.int 0)], [.int 0, .int 2, .ref 387, .int 0], mv_W2)) rfl ?_
            refine mt_call rfl (fun _ => rfl) ⟨Nat.le_of_ble_eq_true rfl, Nat.le_of_ble_eq_true rfl, rfl⟩ (Nat.le_of_ble_eq_true rfl) ?_
            refine mt_runs 3 (f' := (4, [some (.ref 387), some (.int 2), some (.int 0)], [.int 9, .int 0, .int 2], mv_W2)) rfl ?_
            refine mt_call rfl (fun _ => rfl) ⟨Nat.le_of_ble_eq_true rfl, Nat.le_of_ble_eq_true rfl, rfl⟩ (Nat.le_of_ble_eq_true rfl) ?_
            refine mt_runs 8 (f' := (15, [some (.int 2), some (.int 0), some (.int 9)], [.int 1], mv_W2)) rfl ?_
            refine mt_ret rfl rfl ?_
            refine mt_runs 7 (f' := (20, [some (.ref 387), some (.int 2), some (.int 0)], [.int 0], mv_W2)) rfl ?_
            refine mt_ret rfl rfl ?_
            refine mt_runs 1 (f' := (958, [some (.retAddr 0), some (.ref 0), some (.ref 387), some (.int 0)], [], mv_W2)) rfl ?_
            refine mt_runs 1 (f' := (961, [some (.retAddr 0), some (.ref 0), some (.ref 387), some (.int 6)], [], mv_W2)) rfl ?_
            refine mt_runs 1 (f' := (18, [some (.retAddr 0), some (.ref 0), some (.ref 387), some (.int 6)], [], mv_W2)) rfl ?_
            refine mt_runs 1 (f' := (19, [some (.retAddr 0), some (.ref 0), some (.ref 387), some (.int 6)], [.int 6], mv_W2)) rfl ?_
            refine mt_runs 1 (f' := (20, [some (.retAddr 0), some (.ref 0), some (.ref 387), some (.int 6)], [.retAddr 0, .int 6], mv_W2)) rfl ?_
            refine mt_runs 1 (f' := (21, [some (.retAddr 0), some (.ref 0), some (.ref 387), some (.int 6)], [.int 6, .int 6], mv_W2)) rfl ?_
            refine mt_runs 1 (f' := (23, [some (.retAddr 0), some (.ref 0), some (.ref 387), some (.int 6)], [.int 6, .int 6, .int 6], mv_W2)) rfl ?_
            refine mt_runs 1 (f' := (24, [some (.retAddr 0), some (.ref 0), some (.ref 387), some (.int 6)], [.int 0, .int 6], mv_W2)) rfl ?_
            refine mt_runs 1 (f' := (964, [some (.retAddr 0), some (.ref 0), some (.ref 387), some (.int 6)], [], mv_W2)) rfl ?_
            refine mt_runs 1 (f' := (965, [some (.retAddr 0), some (.ref 0), some (.ref 387), some (.int 6)], [.int 1], mv_W2)) rfl ?_
            refine mt_ret rfl rfl ?_
            exact ⟨rfl, Nat.le_of_ble_eq_true rfl, Nat.le_of_ble_eq_true rfl⟩
          · exfalso
            omega
        | 3, _ =>
          refine mt_runs 4 (f' := (23, [some (.ref 0), some (.int 3), some (.int 0)], [.int 0], mv_W2)) rfl ?_
          refine mt_ret rfl rfl ?_
          refine mt_runs 1 (f' := (826, [some (.retAddr 0), some (.ref 0), some (.ref 387), some (.int 0)], [.ref 387, .int 0], mv_W2)) rfl ?_
          refine mt_runs 1 (f' := (827, [some (.retAddr 0), some (.ref 0), some (.ref 387), some (.int 0)], [.retAddr 0, .ref 387, .int 0], mv_W2)) rfl ?_
          refine mt_runs 1 (f' := (828, [some (.retAddr 0), some (.ref 0), some (.ref 387), some (.int 0)], [.int 0, .retAddr 0, .ref 387, .int 0], mv_W2)) rfl ?_
          refine mt_runs 1 (f' := (829, [some (.retAddr 0), some (.ref 0), some (.ref 387), some (.int 0)], [.int 1, .int 0, .retAddr 0, .ref 387, .int 0], mv_W2)) rfl ?_
          refine mt_runs 1 (f' := (830, [some (.retAddr 0), some (.ref 0), some (.ref 387), some (.int 0)], [.int 1, .retAddr 0, .ref 387, .int 0], mv_W2)) rfl ?_
          refine mt_runs 1 (f' := (831, [some (.retAddr 0), some (.ref 0), some (.ref 387), some (.int 0)], [.int 3, .ref 387, .int 0], mv_W2)) rfl ?_
          refine mt_runs 1 (f' := (832, [some (.retAddr 0), some (.ref 0), some (.ref 387), some (.int 0)], [.retAddr 0, .int 3, .ref 387, .int 0], mv_W2)) rfl ?_
          refine mt_runs 1 (f' := (833, [some (.retAddr 0), some (.ref 0), some (.ref 387), some (.int 0)], [.int 0, .retAddr 0, .int 3, .ref 387, .int 0], mv_W2)) rfl ?_
          refine mt_runs 1 (f' := (834, [some (.retAddr 0), some (.ref 0), some (.ref 387), some (.int 0)], [.int 2, .int 0, .retAddr 0, .int 3, .ref 387, .int 0], mv_W2)) rfl ?_
          refine mt_runs 1 (f' := (835, [some (.retAddr 0), some (.ref 0), some (.ref 387), some (.int 0)], [.int 2, .retAddr 0, .int 3, .ref 387, .int 0], mv_W2)) rfl ?_
          refine mt_runs 1 (f' := (836, [some (.retAddr 0), some (.ref 0), some (.ref 387), some (.int 0)], [.int x2, .int 3, .ref 387, .int 0], mv_W2)) rfl ?_
          refine mu_if (tgt := 843) rfl (by decide) (fun (c13 : x2.toInt = 0) => ?_) (fun (c13 : ¬ (x2.toInt = 0)) => ?_)
          · refine mt_runs 1 (f' := (844, [some (.retAddr 0), some (.ref 0), some (.ref 387), some (.int 0)], [.int 0, .int 3, .ref 387, .int 0], mv_W2)) rfl ?_
            refine mt_call rfl (fun _ => rfl) ⟨Nat.le_of_ble_eq_true rfl, Nat.le_of_ble_eq_true rfl, rfl⟩ (Nat.le_of_ble_eq_true rfl) ?_
            refine mt_runs 3 (f' := (4, [some (.ref 387), some (.int 3), some (.int 0)], [.int 9, .int 0, .int 3], mv_W2)) rfl ?_
            refine mt_call rfl (fun _ => rfl) ⟨Nat.le_of_ble_eq_true rfl, Nat.le_of_ble_eq_true rfl, rfl⟩ (Nat.le_of_ble_eq_true rfl) ?_
            refine mt_runs 8 (f' := (15, [some (.int 3), some (.int 0), some (.int 9)], [.int 1], mv_W2)) rfl ?_
            refine mt_ret rfl rfl ?_
            refine mt_runs 7 (f' := (20, [some (.ref 387), some (.int 3), some (.int 0)], [.int 0], mv_W2)) rfl ?_
            refine mt_ret rfl rfl ?_
            refine mt_runs 1 (f' := (958, [some (.retAddr 0), some (.ref 0), some (.ref 387), some (.int 0)], [], mv_W2)) rfl ?_
            refine mt_runs 1 (f' := (961, [some (.retAddr 0), some (.ref 0), some (.ref 387), some (.int 6)], [], mv_W2)) rfl ?_
            refine mt_runs 1 (f' := (18, [some (.retAddr 0), some (.ref 0), some (.ref 387), some (.int 6)], [], mv_W2)) rfl ?_
            refine mt_runs 1 (f' := (19, [some (.retAddr 0), some (.ref 0), some (.ref 387), some (.int 6)], [.int 6], mv_W2)) rfl ?_
            refine mt_runs 1 (f' := (20, [some (.retAddr 0), some (.ref 0), some (.ref 387), some (.int 6)], [.retAddr 0, .int 6], mv_W2)) rfl ?_
            refine mt_runs 1 (f' := (21, [some (.retAddr 0), some (.ref 0), some (.ref 387), some (.int 6)], [.int 6, .int 6], mv_W2)) rfl ?_
            refine mt_runs 1 (f' := (23, [some (.retAddr 0), some (.ref 0), some (.ref 387), some (.int 6)], [.int 6, .int 6, .int 6], mv_W2)) rfl ?_
            refine mt_runs 1 (f' := (24, [some (.retAddr 0), some (.ref 0), some (.ref 387), some (.int 6)], [.int 0, .int 6], mv_W2)) rfl ?_
            refine mt_runs 1 (f' := (964, [some (.retAddr 0), some (.ref 0), some (.ref 387), some (.int 6)], [], mv_W2)) rfl ?_
            refine mt_runs 1 (f' := (965, [some (.retAddr 0), some (.ref 0), some (.ref 387), some (.int 6)], [.int 1], mv_W2)) rfl ?_
            refine mt_ret rfl rfl ?_
            exact ⟨rfl, Nat.le_of_ble_eq_true rfl, Nat.le_of_ble_eq_true rfl⟩
          · exfalso
            omega
        | 4, _ =>
          refine mt_runs 4 (f' := (23, [some (.ref 0), some (.int 4), some (.int 0)], [.int 0], mv_W2)) rfl ?_
          refine mt_ret rfl rfl ?_
          refine mt_runs 1 (f' := (826, [some (.retAddr 0), some (.ref 0), some (.ref 387), some (.int 0)], [.ref 387, .int 0], mv_W2)) rfl ?_
          refine mt_runs 1 (f' := (827, [some (.retAddr 0), some (.ref 0), some (.ref 387), some (.int 0)], [.retAddr 0, .ref 387, .int 0], mv_W2)) rfl ?_
          refine mt_runs 1 (f' := (828, [some (.retAddr 0), some (.ref 0), some (.ref 387), some (.int 0)], [.int 0, .retAddr 0, .ref 387, .int 0], mv_W2)) rfl ?_
          refine mt_runs 1 (f' := (829, [some (.retAddr 0), some (.ref 0), some (.ref 387), some (.int 0)], [.int 1, .int 0, .retAddr 0, .ref 387, .int 0], mv_W2)) rfl ?_
          refine mt_runs 1 (f' := (830, [some (.retAddr 0), some (.ref 0), some (.ref 387), some (.int 0)], [.int 1, .retAddr 0, .ref 387, .int 0], mv_W2)) rfl ?_
          refine mt_runs 1 (f' := (831, [some (.retAddr 0), some (.ref 0), some (.ref 387), some (.int 0)], [.int 4, .ref 387, .int 0], mv_W2)) rfl ?_
          refine mt_runs 1 (f' := (832, [some (.retAddr 0), some (.ref 0), some (.ref 387), some (.int 0)], [.retAddr 0, .int 4, .ref 387, .int 0], mv_W2)) rfl ?_
          refine mt_runs 1 (f' := (833, [some (.retAddr 0), some (.ref 0), some (.ref 387), some (.int 0)], [.int 0, .retAddr 0, .int 4, .ref 387, .int 0], mv_W2)) rfl ?_
          refine mt_runs 1 (f' := (834, [some (.retAddr 0), some (.ref 0), some (.ref 387), some (.int 0)], [.int 2, .int 0, .retAddr 0, .int 4, .ref 387, .int 0], mv_W2)) rfl ?_
          refine mt_runs 1 (f' := (835, [some (.retAddr 0), some (.ref 0), some (.ref 387), some (.int 0)], [.int 2, .retAddr 0, .int 4, .ref 387, .int 0], mv_W2)) rfl ?_
          refine mt_runs 1 (f' := (836, [some (.retAddr 0), some (.ref 0), some (.ref 387), some (.int 0)], [.int x2, .int 4, .ref 387, .int 0], mv_W2)) rfl ?_
          refine mu_if (tgt := 843) rfl (by decide) (fun (c14 : x2.toInt = 0) => ?_) (fun (c14 : ¬ (x2.toInt = 0)) => ?_)
          · refine mt_runs 1 (f' := (844, [some (.retAddr 0), some (.ref 0), some (.ref 387), some (.int 0)], [.int 0, .int 4, .ref 387, .int 0], mv_W2)) rfl ?_
            refine mt_call rfl (fun _ => rfl) ⟨Nat.le_of_ble_eq_true rfl, Nat.le_of_ble_eq_true rfl, rfl⟩ (Nat.le_of_ble_eq_true rfl) ?_
            refine mt_runs 3 (f' := (4, [some (.ref 387), some (.int 4), some (.int 0)], [.int 9, .int 0, .int 4], mv_W2)) rfl ?_
            refine mt_call rfl (fun _ => rfl) ⟨Nat.le_of_ble_eq_true rfl, Nat.le_of_ble_eq_true rfl, rfl⟩ (Nat.le_of_ble_eq_true rfl) ?_
            refine mt_runs 8 (f' := (15, [some (.int 4), some (.int 0), some (.int 9)], [.int 1], mv_W2)) rfl ?_
            refine mt_ret rfl rfl ?_
            refine mt_runs 7 (f' := (20, [some (.ref 387), some (.int 4), some (.int 0)], [.int 0], mv_W2)) rfl ?_
            refine mt_ret rfl rfl ?_
            refine mt_runs 1 (f' := (958, [some (.retAddr 0), some (.ref 0), some (.ref 387), some (.int 0)], [], mv_W2)) rfl ?_
            refine mt_runs 1 (f' := (961, [some (.retAddr 0), some (.ref 0), some (.ref 387), some (.int 6)], [], mv_W2)) rfl ?_
            refine mt_runs 1 (f' := (18, [some (.retAddr 0), some (.ref 0), some (.ref 387), some (.int 6)], [], mv_W2)) rfl ?_
            refine mt_runs 1 (f' := (19, [some (.retAddr 0), some (.ref 0), some (.ref 387), some (.int 6)], [.int 6], mv_W2)) rfl ?_
            refine mt_runs 1 (f' := (20, [some (.retAddr 0), some (.ref 0), some (.ref 387), some (.int 6)], [.retAddr 0, .int 6], mv_W2)) rfl ?_
            refine mt_runs 1 (f' := (21, [some (.retAddr 0), some (.ref 0), some (.ref 387), some (.int 6)], [.int 6, .int 6], mv_W2)) rfl ?_
            refine mt_runs 1 (f' := (23, [some (.retAddr 0), some (.ref 0), some (.ref 387), some (.int 6)], [.int 6, .int 6, .int 6], mv_W2)) rfl ?_
            refine mt_runs 1 (f' := (24, [some (.retAddr 0), some (.ref 0), some (.ref 387), some (.int 6)], [.int 0, .int 6], mv_W2)) rfl ?_
            refine mt_runs 1 (f' := (964, [some (.retAddr 0), some (.ref 0), some (.ref 387), some (.int 6)], [], mv_W2)) rfl ?_
            refine mt_runs 1 (f' := (965, [some (.retAddr 0), some (.ref 0), some (.ref 387), some (.int 6)], [.int 1], mv_W2)) rfl ?_
            refine mt_ret rfl rfl ?_
            exact ⟨rfl, Nat.le_of_ble_eq_true rfl, Nat.le_of_ble_eq_true rfl⟩
          · exfalso
            omega
        | 5, _ =>
          refine mt_runs 4 (f' := (23, [some (.ref 0), some (.int 5), some (.int 0)], [.int 0], mv_W2)) rfl ?_
          refine mt_ret rfl rfl ?_
          refine mt_runs 1 (f' := (826, [some (.retAddr 0), some (.ref 0), some (.ref 387), some (.int 0)], [.ref 387, .int 0], mv_W2)) rfl ?_
          refine mt_runs 1 (f' := (827, [some (.retAddr 0), some (.ref 0), some (.ref 387), some (.int 0)], [.retAddr 0, .ref 387, .int 0], mv_W2)) rfl ?_
          refine mt_runs 1 (f' := (828, [some (.retAddr 0), some (.ref 0), some (.ref 387), some (.int 0)], [.int 0, .retAddr 0, .ref 387, .int 0], mv_W2)) rfl ?_
          refine mt_runs 1 (f' := (829, [some (.retAddr 0), some (.ref 0), some (.ref 387), some (.int 0)], [.int 1, .int 0, .retAddr 0, .ref 387, .int 0], mv_W2)) rfl ?_
          refine mt_runs 1 (f' := (830, [some (.retAddr 0), some (.ref 0), some (.ref 387), some (.int 0)], [.int 1, .retAddr 0, .ref 387, .int 0], mv_W2)) rfl ?_
          refine mt_runs 1 (f' := (831, [some (.retAddr 0), some (.ref 0), some (.ref 387), some (.int 0)], [.int 5, .ref 387, .int 0], mv_W2)) rfl ?_
          refine mt_runs 1 (f' := (832, [some (.retAddr 0), some (.ref 0), some (.ref 387), some (.int 0)], [.retAddr 0, .int 5, .ref 387, .int 0], mv_W2)) rfl ?_
          refine mt_runs 1 (f' := (833, [some (.retAddr 0), some (.ref 0), some (.ref 387), some (.int 0)], [.int 0, .retAddr 0, .int 5, .ref 387, .int 0], mv_W2)) rfl ?_
          refine mt_runs 1 (f' := (834, [some (.retAddr 0), some (.ref 0), some (.ref 387), some (.int 0)], [.int 2, .int 0, .retAddr 0, .int 5, .ref 387, .int 0], mv_W2)) rfl ?_
          refine mt_runs 1 (f' := (835, [some (.retAddr 0), some (.ref 0), some (.ref 387), some (.int 0)], [.int 2, .retAddr 0, .int 5, .ref 387, .int 0], mv_W2)) rfl ?_
          refine mt_runs 1 (f' := (836, [some (.retAddr 0), some (.ref 0), some (.ref 387), some (.int 0)], [.int x2, .int 5, .ref 387, .int 0], mv_W2)) rfl ?_
          refine mu_if (tgt := 843) rfl (by decide) (fun (c15 : x2.toInt = 0) => ?_) (fun (c15 : ¬ (x2.toInt = 0)) => ?_)
          · refine mt_runs 1 (f' := (844, [some (.retAddr 0), some (.ref 0), some (.ref 387), some (.int 0)], [.int 0, .int 5, .ref 387, .int 0], mv_W2)) rfl ?_
            refine mt_call rfl (fun _ => rfl) ⟨Nat.le_of_ble_eq_true rfl, Nat.le_of_ble_eq_true rfl, rfl⟩ (Nat.le_of_ble_eq_true rfl) ?_
            refine mt_runs 3 (f' := (4, [some (.ref 387), some (.int 5), some (.int 0)], [.int 9, .int 0, .int 5], mv_W2)) rfl ?_
            refine mt_call rfl (fun _ => rfl) ⟨Nat.le_of_ble_eq_true rfl, Nat.le_of_ble_eq_true rfl, rfl⟩ (Nat.le_of_ble_eq_true rfl) ?_
            refine mt_runs 8 (f' := (15, [some (.int 5), some (.int 0), some (.int 9)], [.int 1], mv_W2)) rfl ?_
            refine mt_ret rfl rfl ?_
            refine mt_runs 7 (f' := (20, [some (.ref 387), some (.int 5), some (.int 0)], [.int 0], mv_W2)) rfl ?_
            refine mt_ret rfl rfl ?_
            refine mt_runs 1 (f' := (958, [some (.retAddr 0), some (.ref 0), some (.ref 387), some (.int 0)], [], mv_W2)) rfl ?_
            refine mt_runs 1 (f' := (961, [some (.retAddr 0), some (.ref 0), some (.ref 387), some (.int 6)], [], mv_W2)) rfl ?_
            refine mt_runs 1 (f' := (18, [some (.retAddr 0), some (.ref 0), some (.ref 387), some (.int 6)], [], mv_W2)) rfl ?_
            refine mt_runs 1 (f' := (19, [some (.retAddr 0), some (.ref 0), some (.ref 387), some (.int 6)], [.int 6], mv_W2)) rfl ?_
            refine mt_runs 1 (f' := (20, [some (.retAddr 0), some (.ref 0), some (.ref 387), some (.int 6)], [.retAddr 0, .int 6], mv_W2)) rfl ?_
            refine mt_runs 1 (f' := (21, [some (.retAddr 0), some (.ref 0), some (.ref 387), some (.int 6)], [.int 6, .int 6], mv_W2)) rfl ?_
            refine mt_runs 1 (f' := (23, [some (.retAddr 0), some (.ref 0), some (.ref 387), some (.int 6)], [.int 6, .int 6, .int 6], mv_W2)) rfl ?_
            refine mt_runs 1 (f' := (24, [some (.retAddr 0), some (.ref 0), some (.ref 387), some (.int 6)], [.int 0, .int 6], mv_W2)) rfl ?_
            refine mt_runs 1 (f' := (964, [some (.retAddr 0), some (.ref 0), some (.ref 387), some (.int 6)], [], mv_W2)) rfl ?_
            refine mt_runs 1 (f' := (965, [some (.retAddr 0), some (.ref 0), some (.ref 387), some (.int 6)], [.int 1], mv_W2)) rfl ?_
            refine mt_ret rfl rfl ?_
            exact ⟨rfl, Nat.le_of_ble_eq_true rfl, Nat.le_of_ble_eq_true rfl⟩
          · exfalso
            omega
        | 6, _ =>
          refine mt_runs 4 (f' := (23, [some (.ref 0), some (.int 6), some (.int 0)], [.int 0], mv_W2)) rfl ?_
          refine mt_ret rfl rfl ?_
          refine mt_runs 1 (f' := (826, [some (.retAddr 0), some (.ref 0), some (.ref 387), some (.int 0)], [.ref 387, .int 0], mv_W2)) rfl ?_
          refine mt_runs 1 (f' := (827, [some (.retAddr 0), some (.ref 0), some (.ref 387), some (.int 0)], [.retAddr 0, .ref 387, .int 0], mv_W2)) rfl ?_
          refine mt_runs 1 (f' := (828, [some (.retAddr 0), some (.ref 0), some (.ref 387), some (.int 0)], [.int 0, .retAddr 0, .ref 387, .int 0], mv_W2)) rfl ?_
          refine mt_runs 1 (f' := (829, [some (.retAddr 0), some (.ref 0), some (.ref 387), some (.int 0)], [.int 1, .int 0, .retAddr 0, .ref 387, .int 0], mv_W2)) rfl ?_
          refine mt_runs 1 (f' := (830, [some (.retAddr 0), some (.ref 0), some (.ref 387), some (.int 0)], [.int 1, .retAddr 0, .ref 387, .int 0], mv_W2)) rfl ?_
          refine mt_runs 1 (f' := (831, [some (.retAddr 0), some (.ref 0), some (.ref 387), some (.int 0)], [.int 6, .ref 387, .int 0], mv_W2)) rfl ?_
          refine mt_runs 1 (f' := (832, [some (.retAddr 0), some (.ref 0), some (.ref 387), some (.int 0)], [.retAddr 0, .int 6, .ref 387, .int 0], mv_W2)) rfl ?_
          refine mt_runs 1 (f' := (833, [some (.retAddr 0), some (.ref 0), some (.ref 387), some (.int 0)], [.int 0, .retAddr 0, .int 6, .ref 387, .int 0], mv_W2)) rfl ?_
          refine mt_runs 1 (f' := (834, [some (.retAddr 0), some (.ref 0), some (.ref 387), some (.int 0)], [.int 2, .int 0, .retAddr 0, .int 6, .ref 387, .int 0], mv_W2)) rfl ?_
          refine mt_runs 1 (f' := (835, [some (.retAddr 0), some (.ref 0), some (.ref 387), some (.int 0)], [.int 2, .retAddr 0, .int 6, .ref 387, .int 0], mv_W2)) rfl ?_
          refine mt_runs 1 (f' := (836, [some (.retAddr 0), some (.ref 0), some (.ref 387), some (.int 0)], [.int x2, .int 6, .ref 387, .int 0], mv_W2)) rfl ?_
          refine mu_if (tgt := 843) rfl (by decide) (fun (c16 : x2.toInt = 0) => ?_) (fun (c16 : ¬ (x2.toInt = 0)) => ?_)
          · refine mt_runs 1 (f' := (844, [some (.retAddr 0), some (.ref 0), some (.ref 387), some (.int 0)], [.int 0, .int 6, .ref 387, .int 0], mv_W2)) rfl ?_
            refine mt_call rfl (fun _ => rfl) ⟨Nat.le_of_ble_eq_true rfl, Nat.le_of_ble_eq_true rfl, rfl⟩ (Nat.le_of_ble_eq_true rfl) ?_
            refine mt_runs 3 (f' := (4, [some (.ref 387), some (.int 6), some (.int 0)], [.int 9, .int 0, .int 6], mv_W2)) rfl ?_
            refine mt_call rfl (fun _ => rfl) ⟨Nat.le_of_ble_eq_true rfl, Nat.le_of_ble_eq_true rfl, rfl⟩ (Nat.le_of_ble_eq_true rfl) ?_
            refine mt_runs 8 (f' := (15, [some (.int 6), some (.int 0), some (.int 9)], [.int 1], mv_W2)) rfl ?_
            refine mt_ret rfl rfl ?_
            refine mt_runs 7 (f' := (20, [some (.ref 387), some (.int 6), some (.int 0)], [.int 0], mv_W2)) rfl ?_
            refine mt_ret rfl rfl ?_
            refine mt_runs 1 (f' := (958, [some (.retAddr 0), some (.ref 0), some (.ref 387), some (.int 0)], [], mv_W2)) rfl ?_
            refine mt_runs 1 (f' := (961, [some (.retAddr 0), some (.ref 0), some (.ref 387), some (.int 6)], [], mv_W2)) rfl ?_
            refine mt_runs 1 (f' := (18, [some (.retAddr 0), some (.ref 0), some (.ref 387), some (.int 6)], [], mv_W2)) rfl ?_
            refine mt_runs 1 (f' := (19, [some (.retAddr 0), some (.ref 0), some (.ref 387), some (.int 6)], [.int 6], mv_W2)) rfl ?_
            refine mt_runs 1 (f' := (20, [some (.retAddr 0), some (.ref 0), some (.ref 387), some (.int 6)], [.retAddr 0, .int 6], mv_W2)) rfl ?_
            refine mt_runs 1 (f' := (21, [some (.retAddr 0), some (.ref 0), some (.ref 387), some (.int 6)], [.int 6, .int 6], mv_W2)) rfl ?_
            refine mt_runs 1 (f' := (23, [some (.retAddr 0), some (.ref 0), some (.ref 387), some (.int 6)], [.int 6, .int 6, .int 6], mv_W2)) rfl ?_
            refine mt_runs 1 (f' := (24, [some (.retAddr 0), some (.ref 0), some (.ref 387), some (.int 6)], [.int 0, .int 6], mv_W2)) rfl ?_
            refine mt_runs 1 (f' := (964, [some (.retAddr 0), some (.ref 0), some (.ref 387), some (.int 6)], [], mv_W2)) rfl ?_
            refine mt_runs 1 (f' := (965, [some (.retAddr 0), some (.ref 0), some (.ref 387), some (.int 6)], [.int 1], mv_W2)) rfl ?_
            refine mt_ret rfl rfl ?_
            exact ⟨rfl, Nat.le_of_ble_eq_true rfl, Nat.le_of_ble_eq_true rfl⟩
          · exfalso
            omega
        | 7, _ =>
          refine mt_runs 4 (f' := (23, [some (.ref 0), some (.int 7), some (.int 0)], [.int 0], mv_W2)) rfl ?_
          refine mt_ret rfl rfl ?_
          refine mt_runs 1 (f' := (826, [some (.retAddr 0), some (.ref 0), some (.ref 387), some (.int 0)], [.ref 387, .int 0], mv_W2)) rfl ?_
          refine mt_runs 1 (f' := (827, [some (.retAddr 0), some (.ref 0), some (.ref 387), some (.int 0)], [.retAddr 0, .ref 387, .int 0], mv_W2)) rfl ?_
          refine mt_runs 1 (f' := (828, [some (.retAddr 0), some (.ref 0), some (.ref 387), some (.int 0)], [.int 0, .retAddr 0, .ref 387, .int 0], mv_W2)) rfl ?_
          refine mt_runs 1 (f' := (829, [some (.retAddr 0), some (.ref 0), some (.ref 387), some (.int 0)], [.int 1, .int 0, .retAddr 0, .ref 387, .int 0], mv_W2)) rfl ?_
          refine mt_runs 1 (f' := (830, [some (.retAddr 0), some (.ref 0), some (.ref 387), some (.int 0)], [.int 1, .retAddr 0, .ref 387, .int 0], mv_W2)) rfl ?_
          refine mt_runs 1 (f' := (831, [some (.retAddr 0), some (.ref 0), some (.ref 387), some (.int 0)], [.int 7, .ref 387, .int 0], mv_W2)) rfl ?_
          refine mt_runs 1 (f' := (832, [some (.retAddr 0), some (.ref 0), some (.ref 387), some (.int 0)], [.retAddr 0, .int 7, .ref 387, .int 0], mv_W2)) rfl ?_
          refine mt_runs 1 (f' := (833, [some (.retAddr 0), some (.ref 0), some (.ref 387), some (.int 0)], [.int 0, .retAddr 0, .int 7, .ref 387, .int 0], mv_W2)) rfl ?_
          refine mt_runs 1 (f' := (834, [some (.retAddr 0), some (.ref 0), some (.ref 387), some (.int 0)], [.int 2, .int 0, .retAddr 0, .int 7, .ref 387, .int 0], mv_W2)) rfl ?_
          refine mt_runs 1 (f' := (835, [some (.retAddr 0), some (.ref 0), some (.ref 387), some (.int 0)], [.int 2, .retAddr 0, .int 7, .ref 387, .int 0], mv_W2)) rfl ?_
          refine mt_runs 1 (f' := (836, [some (.retAddr 0), some (.ref 0), some (.ref 387), some (.int 0)], [.int x2, .int 7, .ref 387, .int 0], mv_W2)) rfl ?_
          refine mu_if (tgt := 843) rfl (by decide) (fun (c17 : x2.toInt = 0) => ?_) (fun (c17 : ¬ (x2.toInt = 0)) => ?_)
          · refine mt_runs 1 (f' := (844, [some (.retAddr 0), some (.ref 0), some (.ref 387), some (.int 0)], [.int 0, .int 7, .ref 387, .int 0], mv_W2)) rfl ?_
            refine mt_call rfl (fun _ => rfl) ⟨Nat.le_of_ble_eq_true rfl, Nat.le_of_ble_eq_true rfl, rfl⟩ (Nat.le_of_ble_eq_true rfl) ?_
            refine mt_runs 3 (f' := (4, [some (.ref 387), some (.int 7), some (.int 0)], [.int 9, .int 0, .int 7], mv_W2)) rfl ?_
            refine mt_call rfl (fun _ => rfl) ⟨Nat.le_of_ble_eq_true rfl, Nat.le_of_ble_eq_true rfl, rfl⟩ (Nat.le_of_ble_eq_true rfl) ?_
            refine mt_runs 8 (f' := (15, [some (.int 7), some (.int 0), some (.int 9)], [.int 1], mv_W2)) rfl ?_
            refine mt_ret rfl rfl ?_
            refine mt_runs 7 (f' := (20, [some (.ref 387), some (.int 7), some (.int 0)], [.int 0], mv_W2)) rfl ?_
            refine mt_ret rfl rfl ?_
            refine mt_runs 1 (f' := (958, [some (.retAddr 0), some (.ref 0), some (.ref 387), some (.int 0)], [], mv_W2)) rfl ?_
            refine mt_runs 1 (f' := (961, [some (.retAddr 0), some (.ref 0), some (.ref 387), some (.int 6)], [], mv_W2)) rfl ?_
            refine mt_runs 1 (f' := (18, [some (.retAddr 0), some (.ref 0), some (.ref 387), some (.int 6)], [], mv_W2)) rfl ?_
            refine mt_runs 1 (f' := (19, [some (.retAddr 0), some (.ref 0), some (.ref 387), some (.int 6)], [.int 6], mv_W2)) rfl ?_
            refine mt_runs 1 (f' := (20, [some (.retAddr 0), some (.ref 0), some (.ref 387), some (.int 6)], [.retAddr 0, .int 6], mv_W2)) rfl ?_
            refine mt_runs 1 (f' := (21, [some (.retAddr 0), some (.ref 0), some (.ref 387), some (.int 6)], [.int 6, .int 6], mv_W2)) rfl ?_
            refine mt_runs 1 (f' := (23, [some (.retAddr 0), some (.ref 0), some (.ref 387), some (.int 6)], [.int 6, .int 6, .int 6], mv_W2)) rfl ?_
            refine mt_runs 1 (f' := (24, [some (.retAddr 0), some (.ref 0), some (.ref 387), some (.int 6)], [.int 0, .int 6], mv_W2)) rfl ?_
            refine mt_runs 1 (f' := (964, [some (.retAddr 0), some (.ref 0), some (.ref 387), some (.int 6)], [], mv_W2)) rfl ?_
            refine mt_runs 1 (f' := (965, [some (.retAddr 0), some (.ref 0), some (.ref 387), some (.int 6)], [.int 1], mv_W2)) rfl ?_
            refine mt_ret rfl rfl ?_
            exact ⟨rfl, Nat.le_of_ble_eq_true rfl, Nat.le_of_ble_eq_true rfl⟩
          · exfalso
            omega
        | 8, _ =>
          refine mt_runs 4 (f' := (23, [some (.ref 0), some (.int 8), some (.int 0)], [.int 0], mv_W2)) rfl ?_
          refine mt_ret rfl rfl ?_
          refine mt_runs 1 (f' := (826, [some (.retAddr 0), some (.ref 0), some (.ref 387), some (.int 0)], [.ref 387, .int 0], mv_W2)) rfl ?_
          refine mt_runs 1 (f' := (827, [some (.retAddr 0), some (.ref 0), some (.ref 387), some (.int 0)], [.retAddr 0, .ref 387, .int 0], mv_W2)) rfl ?_
          refine mt_runs 1 (f' := (828, [some (.retAddr 0), some (.ref 0), some (.ref 387), some (.int 0)], [.int 0, .retAddr 0, .ref 387, .int 0], mv_W2)) rfl ?_
          refine mt_runs 1 (f' := (829, [some (.retAddr 0), some (.ref 0), some (.ref 387), some (.int 0)], [.int 1, .int 0, .retAddr 0, .ref 387, .int 0], mv_W2)) rfl ?_
          refine mt_runs 1 (f' := (830, [some (.retAddr 0), some (.ref 0), some (.ref 387), some (.int 0)], [.int 1, .retAddr 0, .ref 387, .int 0], mv_W2)) rfl ?_
          refine mt_runs 1 (f' := (831, [some (.retAddr 0), some (.ref 0), some (.ref 387), some (.int 0)], [.int 8, .ref 387, .int 0], mv_W2)) rfl ?_
          refine mt_runs 1 (f' := (832, [some (.retAddr 0), some (.ref 0), some (.ref 387), some (.int 0)], [.retAddr 0, .int 8, .ref 387, .int 0], mv_W2)) rfl ?_
          refine mt_runs 1 (f' := (833, [some (.retAddr 0), some (.ref 0), some (.ref 387), some (.int 0)], [.int 0, .retAddr 0, .int 8, .ref 387, .int 0], mv_W2)) rfl ?_
          refine mt_runs 1 (f' := (834, [some (.retAddr 0), some (.ref 0), some (.ref 387), some (.int 0)], [.int 2, .int 0, .retAddr 0, .int 8, .ref 387, .int 0], mv_W2)) rfl ?_
          refine mt_runs 1 (f' := (835, [some (.retAddr 0), some (.ref 0), some (.ref 387), some (.int 0)], [.int 2, .retAddr 0, .int 8, .ref 387, .int 0], mv_W2)) rfl ?_
          refine mt_runs 1 (f' := (836, [some (.retAddr 0), some (.ref 0), some (.ref 387), some (.int 0)], [.int x2, .int 8, .ref 387, .int 0], mv_W2)) rfl ?_
          refine mu_if (tgt := 843) rfl (by decide) (fun (c18 : x2.toInt = 0) => ?_) (fun (c18 : ¬ (x2.toInt = 0)) => ?_)
          · refine mt_runs 1 (f' := (844, [some (.retAddr 0), some (.ref 0), some (.ref 387), some (.int 0)], [.int 0, .int 8, .ref 387, .int 0], mv_W2)) rfl ?_
            refine mt_call rfl (fun _ => rfl) ⟨Nat.le_of_ble_eq_true rfl, Nat.le_of_ble_eq_true rfl, rfl⟩ (Nat.le_of_ble_eq_true rfl) ?_
            refine mt_runs 3 (f' := (4, [some (.ref 387), some (.int 8), some (.int 0)], [.int 9, .int 0, .int 8], mv_W2)) rfl ?_
            refine mt_call rfl (fun _ => rfl) ⟨Nat.le_of_ble_eq_true rfl, Nat.le_of_ble_eq_true rfl, rfl⟩ (Nat.le_of_ble_eq_true rfl) ?_
            refine mt_runs 8 (f' := (15, [some (.int 8), some (.int 0), some (.int 9)], [.int 1], mv_W2)) rfl ?_
            refine mt_ret rfl rfl ?_
            refine mt_runs 7 (f' := (20, [some (.ref 387), some (.int 8), some (.int 0)], [.int 0], mv_W2)) rfl ?_
            refine mt_ret rfl rfl ?_
            refine mt_runs 1 (f' := (958, [some (.retAddr 0), some (.ref 0), some (.ref 387), some (.int 0)], [], mv_W2)) rfl ?_
            refine mt_runs 1 (f' := (961, [some (.retAddr 0), some (.ref 0), some (.ref 387), some (.int 6)], [], mv_W2)) rfl ?_
            refine mt_runs 1 (f' := (18, [some (.retAddr 0), some (.ref 0), some (.ref 387), some (.int 6)], [], mv_W2)) rfl ?_
            refine mt_runs 1 (f' := (19, [some (.retAddr 0), some (.ref 0), some (.ref 387), some (.int 6)], [.int 6], mv_W2)) rfl ?_
            refine mt_runs 1 (f' := (20, [some (.retAddr 0), some (.ref 0), some (.ref 387), some (.int 6)], [.retAddr 0, .int 6], mv_W2)) rfl ?_
            refine mt_runs 1 (f' := (21, [some (.retAddr 0), some (.ref 0), some (.ref 387), some (.int 6)], [.int 6, .int 6], mv_W2)) rfl ?_
            refine mt_runs 1 (f' := (23, [some (.retAddr 0), some (.ref 0), some (.ref 387), some (.int 6)], [.int 6, .int 6, .int 6], mv_W2)) rfl ?_
            refine mt_runs 1 (f' := (24, [some (.retAddr 0), some (.ref 0), some (.ref 387), some (.int 6)], [.int 0, .int 6], mv_W2)) rfl ?_
            refine mt_runs 1 (f' := (964, [some (.retAddr 0), some (.ref 0), some (.ref 387), some (.int 6)], [], mv_W2)) rfl ?_
            refine mt_runs 1 (f' := (965, [some (.retAddr 0), some (.ref 0), some (.ref 387), some (.int 6)], [.int 1], mv_W2)) rfl ?_
            refine mt_ret rfl rfl ?_
            exact ⟨rfl, Nat.le_of_ble_eq_true rfl, Nat.le_of_ble_eq_true rfl⟩
          · exfalso
            omega
        | 9, _ =>
          refine mt_runs 4 (f' := (23, [some (.ref 0), some (.int 9), some (.int 0)], [.int 0], mv_W2)) rfl ?_
          refine mt_ret rfl rfl ?_
          refine mt_runs 1 (f' := (826, [some (.retAddr 0), some (.ref 0), some (.ref 387), some (.int 0)], [.ref 387, .int 0], mv_W2)) rfl ?_
          refine mt_runs 1 (f' := (827, [some (.retAddr 0), some (.ref 0), some (.ref 387), some (.int 0)], [.retAddr 0, .ref 387, .int 0], mv_W2)) rfl ?_
          refine mt_runs 1 (f' := (828, [some (.retAddr 0), some (.ref 0), some (.ref 387), some (.int 0)], [.int 0, .retAddr 0, .ref 387, .int 0], mv_W2)) rfl ?_
          refine mt_runs 1 (f' := (829, [some (.retAddr 0), some (.ref 0), some (.ref 387), some (.int 0)], [.int 1, .int 0, .retAddr 0, .ref 387, .int 0], mv_W2)) rfl ?_
          refine mt_runs 1 (f' := (830, [some (.retAddr 0), some (.ref 0), some (.ref 387), some (.int 0)], [.int 1, .retAddr 0, .ref 387, .int 0], mv_W2)) rfl ?_
          refine mt_runs 1 (f' := (831, [some (.retAddr 0), some (.ref 0), some (.ref 387), some (.int 0)], [.int 9, .ref 387, .int 0], mv_W2)) rfl ?_
          refine mt_runs 1 (f' := (832, [some (.retAddr 0), some (.ref 0), some (.ref 387), some (.int 0)], [.retAddr 0, .int 9, .ref 387, .int 0], mv_W2)) rfl ?_
          refine mt_runs 1 (f' := (833, [some (.retAddr 0), some (.ref 0), some (.ref 387), some (.int 0)], [.int 0, .retAddr 0, .int 9, .ref 387, .int 0], mv_W2)) rfl ?_
          refine mt_runs 1 (f' := (834, [some (.retAddr 0), some (.ref 0), some (.ref 387), some (.int 0)], [.int 2, .int 0, .retAddr 0, .int 9, .ref 387, .int 0], mv_W2)) rfl ?_
          refine mt_runs 1 (f' := (835, [some (.retAddr 0), some (.ref 0), some (.ref 387), some (.int 0)], [.int 2, .retAddr 0, .int 9, .ref 387, .int 0], mv_W2)) rfl ?_
          refine mt_runs 1 (f' := (836, [some (.retAddr 0), some (.ref 0), some (.ref 387), some (.int 0)], [.int x2, .int 9, .ref 387, .int 0], mv_W2)) rfl ?_
          refine mu_if (tgt := 843) rfl (by decide) (fun (c19 : x2.toInt = 0) => ?_) (fun (c19 : ¬ (x2.toInt = 0)) => ?_)
          · refine mt_runs 1 (f' := (844, [some (.retAddr 0), some (.ref 0), some (.ref 387), some (.int 0)], [.int 0, .int 9, .ref 387, .int 0], mv_W2)) rfl ?_
            refine mt_call rfl (fun _ => rfl) ⟨Nat.le_of_ble_eq_true rfl, Nat.le_of_ble_eq_true rfl, rfl⟩ (Nat.le_of_ble_eq_true rfl) ?_
            refine mt_runs 3 (f' := (4, [some (.ref 387), some (.int 9), some (.int 0)], [.int 9, .int 0, .int 9], mv_W2)) rfl ?_
            refine mt_call rfl (fun _ => rfl) ⟨Nat.le_of_ble_eq_true rfl, Nat.le_of_ble_eq_true rfl, rfl⟩ (Nat.le_of_ble_eq_true rfl) ?_
            refine mt_runs 8 (f' := (15, [some (.int 9), some (.int 0), some (.int 9)], [.int 1], mv_W2)) rfl ?_
            refine mt_ret rfl rfl ?_
            refine mt_runs 7 (f' := (20, [some (.ref 387), some (.int 9), some (.int 0)], [.int 0], mv_W2)) rfl ?_
            refine mt_ret rfl rfl ?_
            refine mt_runs 1 (f' := (958, [some (.retAddr 0), some (.ref 0), some (.ref 387), some (.int 0)], [], mv_W2)) rfl ?_
            refine mt_runs 1 (f' := (961, [some (.retAddr 0), some (.ref 0), some (.ref 387), some (.int 6)], [], mv_W2)) rfl ?_
            refine mt_runs 1 (f' := (18, [some (.retAddr 0), some (.ref 0), some (.ref 387), some (.int 6)], [], mv_W2)) rfl ?_
            refine mt_runs 1 (f' := (19, [some (.retAddr 0), some (.ref 0), some (.ref 387), some (.int 6)], [.int 6], mv_W2)) rfl ?_
            refine mt_runs 1 (f' := (20, [some (.retAddr 0), some (.ref 0), some (.ref 387), some (.int 6)], [.retAddr 0, .int 6], mv_W2)) rfl ?_
            refine mt_runs 1 (f' := (21, [some (.retAddr 0), some (.ref 0), some (.ref 387), some (.int 6)], [.int 6, .int 6], mv_W2)) rfl ?_
            refine mt_runs 1 (f' := (23, [some (.retAddr 0), some (.ref 0), some (.ref 387), some (.int 6)], [.int 6, .int 6, .int 6], mv_W2)) rfl ?_
            refine mt_runs 1 (f' := (24, [some (.retAddr 0), some (.ref 0), some (.ref 387), some (.int 6)], [.int 0, .int 6], mv_W2)) rfl ?_
            refine mt_runs 1 (f' := (964, [some (.retAddr 0), some (.ref 0), some (.ref 387), some (.int 6)], [], mv_W2)) rfl ?_
            refine mt_runs 1 (f' := (965, [some (.retAddr 0), some (.ref 0), some (.ref 387), some (.int 6)], [.int 1], mv_W2)) rfl ?_
            refine mt_ret rfl rfl ?_
            exact ⟨rfl, Nat.le_of_ble_eq_true rfl, Nat.le_of_ble_eq_true rfl⟩
          · exfalso
            omega
        | _ + 10, h => exact absurd h (by omega)
  · refine mt_runs 1 (f' := (818, [some (.retAddr 0), some (.ref 0), some (.ref 387), some (.int 0)], [.int 1, .int x1, .ref 0], mv_W2)) rfl ?_
    refine mt_runs 1 (f' := (822, [some (.retAddr 0), some (.ref 0), some (.ref 387), some (.int 0)], [.int 1, .int x1, .ref 0], mv_W2)) rfl ?_
    refine mt_call rfl (fun _ => rfl) ⟨Nat.le_of_ble_eq_true rfl, Nat.le_of_ble_eq_true rfl, rfl⟩ (Nat.le_of_ble_eq_true rfl) ?_
    refine mt_runs 1 (f' := (1, [some (.ref 0), some (.int x1), some (.int 1)], [.int x1], mv_W2)) rfl ?_
    refine mu_if (tgt := 22) rfl (by decide) (fun (c20 : x1.toInt < 0) => ?_) (fun (c20 : ¬ (x1.toInt < 0)) => ?_)
    · refine mt_runs 1 (f' := (23, [some (.ref 0), some (.int x1), some (.int 1)], [.int 0], mv_W2)) rfl ?_
      refine mt_ret rfl rfl ?_
      refine mt_runs 1 (f' := (826, [some (.retAddr 0), some (.ref 0), some (.ref 387), some (.int 0)], [.ref 387, .int 0], mv_W2)) rfl ?_
      refine mt_runs 1 (f' := (827, [some (.retAddr 0), some (.ref 0), some (.ref 387), some (.int 0)], [.retAddr 0, .ref 387, .int 0], mv_W2)) rfl ?_
      refine mt_runs 1 (f' := (828, [some (.retAddr 0), some (.ref 0), some (.ref 387), some (.int 0)], [.int 0, .retAddr 0, .ref 387, .int 0], mv_W2)) rfl ?_
      refine mt_runs 1 (f' := (829, [some (.retAddr 0), some (.ref 0), some (.ref 387), some (.int 0)], [.int 1, .int 0, .retAddr 0, .ref 387, .int 0], mv_W2)) rfl ?_
      refine mt_runs 1 (f' := (830, [some (.retAddr 0), some (.ref 0), some (.ref 387), some (.int 0)], [.int 1, .retAddr 0, .ref 387, .int 0], mv_W2)) rfl ?_
      refine mt_runs 1 (f' := (831, [some (.retAddr 0), some (.ref 0), some (.ref 387), some (.int 0)], [.int x1, .ref 387, .int 0], mv_W2)) rfl ?_
      refine mt_runs 1 (f' := (832, [some (.retAddr 0), some (.ref 0), some (.ref 387), some (.int 0)], [.retAddr 0, .int x1, .ref 387, .int 0], mv_W2)) rfl ?_
      refine mt_runs 1 (f' := (833, [some (.retAddr 0), some (.ref 0), some (.ref 387), some (.int 0)], [.int 0, .retAddr 0, .int x1, .ref 387, .int 0], mv_W2)) rfl ?_
      refine mt_runs 1 (f' := (834, [some (.retAddr 0), some (.ref 0), some (.ref 387), some (.int 0)], [.int 2, .int 0, .retAddr 0, .int x1, .ref 387, .int 0], mv_W2)) rfl ?_
      refine mt_runs 1 (f' := (835, [some (.retAddr 0), some (.ref 0), some (.ref 387), some (.int 0)], [.int 2, .retAddr 0, .int x1, .ref 387, .int 0], mv_W2)) rfl ?_
      refine mt_runs 1 (f' := (836, [some (.retAddr 0), some (.ref 0), some (.ref 387), some (.int 0)], [.int x2, .int x1, .ref 387, .int 0], mv_W2)) rfl ?_
      refine mu_if (tgt := 843) rfl (by decide) (fun (c21 : x2.toInt = 0) => ?_) (fun (c21 : ¬ (x2.toInt = 0)) => ?_)
      · exfalso
        omega
      · refine mt_runs 1 (f' := (840, [some (.retAddr 0), some (.ref 0), some (.ref 387), some (.int 0)], [.int 1, .int x1, .ref 387, .int 0], mv_W2)) rfl ?_
        refine mt_runs 1 (f' := (844, [some (.retAddr 0), some (.ref 0), some (.ref 387), some (.int 0)], [.int 1, .int x1, .ref 387, .int 0], mv_W2)) rfl ?_
        refine mt_call rfl (fun _ => rfl) ⟨Nat.le_of_ble_eq_true rfl, Nat.le_of_ble_eq_true rfl, rfl⟩ (Nat.le_of_ble_eq_true rfl) ?_
        refine mt_runs 3 (f' := (4, [some (.ref 387), some (.int x1), some (.int 1)], [.int 9, .int 0, .int x1], mv_W2)) rfl ?_
        refine mt_call rfl (fun _ => rfl) ⟨Nat.le_of_ble_eq_true rfl, Nat.le_of_ble_eq_true rfl, rfl⟩ (Nat.le_of_ble_eq_true rfl) ?_
        refine mt_runs 2 (f' := (2, [some (.int x1), some (.int 0), some (.int 9)], [.int 0, .int x1], mv_W2)) rfl ?_
        refine mu_icmp (tgt := 14) rfl (by decide) (fun (c22 : x1.toInt < 0) => ?_) (fun (c22 : ¬ (x1.toInt < 0)) => ?_)
        · refine mt_runs 1 (f' := (15, [some (.int x1), some (.int 0), some (.int 9)], [.int 0], mv_W2)) rfl ?_
          refine mt_ret rfl rfl ?_
          refine mt_runs 2 (f' := (20, [some (.ref 387), some (.int x1), some (.int 1)], [.int 0], mv_W2)) rfl ?_
          refine mt_ret rfl rfl ?_
          refine mt_runs 1 (f' := (958, [some (.retAddr 0), some (.ref 0), some (.ref 387), some (.int 0)], [], mv_W2)) rfl ?_
          refine mt_runs 1 (f' := (961, [some (.retAddr 0), some (.ref 0), some (.ref 387), some (.int 6)], [], mv_W2)) rfl ?_
          refine mt_runs 1 (f' := (18, [some (.retAddr 0), some (.ref 0), some (.ref 387), some (.int 6)], [], mv_W2)) rfl ?_
          refine mt_runs 1 (f' := (19, [some (.retAddr 0), some (.ref 0), some (.ref 387), some (.int 6)], [.int 6], mv_W2)) rfl ?_
          refine mt_runs 1 (f' := (20, [some (.retAddr 0), some (.ref 0), some (.ref 387), some (.int 6)], [.retAddr 0, .int 6], mv_W2)) rfl ?_
          refine mt_runs 1 (f' := (21, [some (.retAddr 0), some (.ref 0), some (.ref 387), some (.int 6)], [.int 6, .int 6], mv_W2)) rfl ?_
          refine mt_runs 1 (f' := (23, [some (.retAddr 0), some (.ref 0), some (.ref 387), some (.int 6)], [.int 6, .int 6, .int 6], mv_W2)) rfl ?_
          refine mt_runs 1 (f' := (24, [some (.retAddr 0), some (.ref 0), some (.ref 387), some (.int 6)], [.int 0, .int 6], mv_W2)) rfl ?_
          refine mt_runs 1 (f' := (964, [some (.retAddr 0), some (.ref 0), some (.ref 387), some (.int 6)], [], mv_W2)) rfl ?_
          refine mt_runs 1 (f' := (965, [some (.retAddr 0), some (.ref 0), some (.ref 387), some (.int 6)], [.int 1], mv_W2)) rfl ?_
          refine mt_ret rfl rfl ?_
          exact ⟨rfl, Nat.le_of_ble_eq_true rfl, Nat.le_of_ble_eq_true rfl⟩
        · exfalso
          omega
    · refine mt_runs 2 (f' := (7, [some (.ref 0), some (.int x1), some (.int 1)], [.int 10, .int x1], mv_W2)) rfl ?_
      refine mu_icmp (tgt := 22) rfl (by decide) (fun (c23 : 10 ≤ x1.toInt) => ?_) (fun (c23 : ¬ (10 ≤ x1.toInt)) => ?_)
      · refine mt_runs 1 (f' := (23, [some (.ref 0), some (.int x1), some (.int 1)], [.int 0], mv_W2)) rfl ?_
        refine mt_ret rfl rfl ?_
        refine mt_runs 1 (f' := (826, [some (.retAddr 0), some (.ref 0), some (.ref 387), some (.int 0)], [.ref 387, .int 0], mv_W2)) rfl ?_
        refine mt_runs 1 (f' := (827, [some (.retAddr 0), some (.ref 0), some (.ref 387), some (.int 0)], [.retAddr 0, .ref 387, .int 0], mv_W2)) rfl ?_
        refine mt_runs 1 (f' := (828, [some (.retAddr 0), some (.ref 0), some (.ref 387), some (.int 0)], [.int 0, .retAddr 0, .ref 387, .int 0], mv_W2)) rfl ?_
        refine mt_runs 1 (f' := (829, [some (.retAddr 0), some (.ref 0), some (.ref 387), some (.int 0)], [.int 1, .int 0, .retAddr 0, .ref 387, .int 0], mv_W2)) rfl ?_
        refine mt_runs 1 (f' := (830, [some (.retAddr 0), some (.ref 0), some (.ref 387), some (.int 0)], [.int 1, .retAddr 0, .ref 387, .int 0], mv_W2)) rfl ?_
        refine mt_runs 1 (f' := (831, [some (.retAddr 0), some (.ref 0), some (.ref 387), some (.int 0)], [.int x1, .ref 387, .int 0], mv_W2)) rfl ?_
        refine mt_runs 1 (f' := (832, [some (.retAddr 0), some (.ref 0), some (.ref 387), some (.int 0)], [.retAddr 0, .int x1, .ref 387, .int 0], mv_W2)) rfl ?_
        refine mt_runs 1 (f' := (833, [some (.retAddr 0), some (.ref 0), some (.ref 387), some (.int 0)], [.int 0, .retAddr 0, .int x1, .ref 387, .int 0], mv_W2)) rfl ?_
        refine mt_runs 1 (f' := (834, [some (.retAddr 0), some (.ref 0), some (.ref 387), some (.int 0)], [.int 2, .int 0, .retAddr 0, .int x1, .ref 387, .int 0], mv_W2)) rfl ?_
        refine mt_runs 1 (f' := (835, [some (.retAddr 0), some (.ref 0), some (.ref 387), some (.int 0)], [.int 2, .retAddr 0, .int x1, .ref 387, .int 0], mv_W2)) rfl ?_
        refine mt_runs 1 (f' := (836, [some (.retAddr 0), some (.ref 0), some (.ref 387), some (.int 0)], [.int x2, .int x1, .ref 387, .int 0], mv_W2)) rfl ?_
        refine mu_if (tgt := 843) rfl (by decide) (fun (c24 : x2.toInt = 0) => ?_) (fun (c24 : ¬ (x2.toInt = 0)) => ?_)
        · exfalso
          omega
        · refine mt_runs 1 (f' := (840, [some (.retAddr 0), some (.ref 0), some (.ref 387), some (.int 0)], [.int 1, .int x1, .ref 387, .int 0], mv_W2)) rfl ?_
          refine mt_runs 1 (f' := (844, [some (.retAddr 0), some (.ref 0), some (.ref 387), some (.int 0)], [.int 1, .int x1, .ref 387, .int 0], mv_W2)) rfl ?_
          refine mt_call rfl (fun _ => rfl) ⟨Nat.le_of_ble_eq_true rfl, Nat.le_of_ble_eq_true rfl, rfl⟩ (Nat.le_of_ble_eq_true rfl) ?_
          refine mt_runs 3 (f' := (4, [some (.ref 387), some (.int x1), some (.int 1)], [.int 9, .int 0, .int x1], mv_W2)) rfl ?_
          refine mt_call rfl (fun _ => rfl) ⟨Nat.le_of_ble_eq_true rfl, Nat.le_of_ble_eq_true rfl, rfl⟩ (Nat.le_of_ble_eq_true rfl) ?_
          refine mt_runs 2 (f' := (2, [some (.int x1), some (.int 0), some (.int 9)], [.int 0, .int x1], mv_W2)) rfl ?_
          refine mu_icmp (tgt := 14) rfl (by decide) (fun (c25 : x1.toInt < 0) => ?_) (fun (c25 : ¬ (x1.toInt < 0)) => ?_)
          · exfalso
            omega
          · refine mt_runs 2 (f' := (7, [some (.int x1), some (.int 0), some (.int 9)], [.int 9, .int x1], mv_W2)) rfl ?_
            refine mu_icmp (tgt := 14) rfl (by decide) (fun (c26 : 9 < x1.toInt) => ?_) (fun (c26 : ¬ (9 < x1.toInt)) => ?_)
            · refine mt_runs 1 (f' := (15, [some (.int x1), some (.int 0), some (.int 9)], [.int 0], mv_W2)) rfl ?_
              refine mt_ret rfl rfl ?_
              refine mt_runs 2 (f' := (20, [some (.ref 387), some (.int x1), some (.int 1)], [.int 0], mv_W2)) rfl ?_
              refine mt_ret rfl rfl ?_
              refine mt_runs 1 (f' := (958, [some (.retAddr 0), some (.ref 0), some (.ref 387), some (.int 0)], [], mv_W2)) rfl ?_
              refine mt_runs 1 (f' := (961, [some (.retAddr 0), some (.ref 0), some (.ref 387), some (.int 6)], [], mv_W2)) rfl ?_
              refine mt_runs 1 (f' := (18, [some (.retAddr 0), some (.ref 0), some (.ref 387), some (.int 6)], [], mv_W2)) rfl ?_
              refine mt_runs 1 (f' := (19, [some (.retAddr 0), some (.ref 0), some (.ref 387), some (.int 6)], [.int 6], mv_W2)) rfl ?_
              refine mt_runs 1 (f' := (20, [some (.retAddr 0), some (.ref 0), some (.ref 387), some (.int 6)], [.retAddr 0, .int 6], mv_W2)) rfl ?_
              refine mt_runs 1 (f' := (21, [some (.retAddr 0), some (.ref 0), some (.ref 387), some (.int 6)], [.int 6, .int 6], mv_W2)) rfl ?_
              refine mt_runs 1 (f' := (23, [some (.retAddr 0), some (.ref 0), some (.ref 387), some (.int 6)], [.int 6, .int 6, .int 6], mv_W2)) rfl ?_
              refine mt_runs 1 (f' := (24, [some (.retAddr 0), some (.ref 0), some (.ref 387), some (.int 6)], [.int 0, .int 6], mv_W2)) rfl ?_
              refine mt_runs 1 (f' := (964, [some (.retAddr 0), some (.ref 0), some (.ref 387), some (.int 6)], [], mv_W2)) rfl ?_
              refine mt_runs 1 (f' := (965, [some (.retAddr 0), some (.ref 0), some (.ref 387), some (.int 6)], [.int 1], mv_W2)) rfl ?_
              refine mt_ret rfl rfl ?_
              exact ⟨rfl, Nat.le_of_ble_eq_true rfl, Nat.le_of_ble_eq_true rfl⟩
            · exfalso
              omega
      · refine mt_runs 3 (f' := (15, [some (.ref 0), some (.int x1), some (.int 1)], [.int x1, .ref 13], mv_W2)) rfl ?_
        obtain ⟨j27, hj27, ej27⟩ := mu_rng (x := x1) (m := 10) (by omega) (by omega) (by decide)
        subst ej27
        match j27, hj27 with
        | 0, _ =>
          refine mt_runs 4 (f' := (23, [some (.ref 0), some (.int 0), some (.int 1)], [.int 0], mv_W2)) rfl ?_
          refine mt_ret rfl rfl ?_
          refine mt_runs 1 (f' := (826, [some (.retAddr 0), some (.ref 0), some (.ref 387), some (.int 0)], [.ref 387, .int 0], mv_W2)) rfl ?_
          refine mt_runs 1 (f' := (827, [some (.retAddr 0), some (.ref 0), some (.ref 387), some (.int 0)], [.retAddr 0, .ref 387, .int 0], mv_W2)) rfl ?_
          refine mt_runs 1 (f' := (828, [some (.retAddr 0), some (.ref 0), some (.ref 387), some (.int 0)], [.int 0, .retAddr 0, .ref 387, .int 0], mv_W2)) rfl ?_
          refine mt_runs 1 (f' := (829, [some (.retAddr 0), some (.ref 0), some (.ref 387), some (.int 0)], [.int 1, .int 0, .retAddr 0, .ref 387, .int 0], mv_W2)) rfl ?_
          refine mt_runs 1 (f' := (830, [some (.retAddr 0), some (.ref 0), some (.ref 387), some (.int 0)], [.int 1, .retAddr 0, .ref 387, .int 0], mv_W2)) rfl ?_
          refine mt_runs 1 (f' := (831, [some (.retAddr 0), some (.ref 0), some (.ref 387), some (.int 0)], [.int 0, .ref 387, .int 0], mv_W2)) rfl ?_
          refine mt_runs 1 (f' := (832, [some (.retAddr 0), some (.ref 0), some (.ref 387), some (.int 0)], [.retAddr 0, .int 0, .ref 387, .int 0], mv_W2)) rfl ?_
          refine mt_runs 1 (f' := (833, [some (.retAddr 0), some (.ref 0), some (.ref 387), some (.int 0)], [.int 0, .retAddr 0, .int 0, .ref 387, .int 0], mv_W2)) rfl ?_
          refine mt_runs 1 (f' := (834, [some (.retAddr 0), some (.ref 0), some (.ref 387), some (.int 0)], [.int 2, .int 0, .retAddr 0, .int 0, .ref 387, .int 0], mv_W2)) rfl ?_
          refine mt_runs 1 (f' := (835, [some (.retAddr 0), some (.ref 0), some (.ref 387), some (.int 0)], [.int 2, .retAddr 0, .int 0, .ref 387, .int 0], mv_W2)) rfl ?_
          refine mt_runs 1 (f' := (836, [some (.retAddr 0), some (.ref 0), some (.ref 387), some (.int 0)], [.int x2, .int 0, .ref 387, .int 0], mv_W2)) rfl ?_
          refine mu_if (tgt := 843) rfl (by decide) (fun (c28 : x2.toInt = 0) => ?_) (fun (c28 : ¬ (x2.toInt = 0)) => ?_)
          · exfalso
            omega
          · refine mt_runs 1 (f' := (840, [some (.retAddr 0), some (.ref 0), some (.ref 387), some (.int 0)], [.int 1, .int 0, .ref 387, .int 0], mv_W2)) rfl ?_
            refine mt_runs 1 (f' := (844, [some (.retAddr 0), some (.ref 0), some (.ref 387), some (.int 0)], [.int 1, .int 0, .ref 387, .int 0], mv_W2)) rfl ?_
            refine mt_call rfl (fun _ => rfl) ⟨Nat.le_of_ble_eq_true rfl, Nat.le_of_ble_eq_true rfl, rfl⟩ (Nat.le_of_ble_eq_true rfl) ?_
            refine mt_runs 3 (f' := (4, [some (.ref 387), some (.int 0), some (.int 1)], [.int 9, .int 0, .int 0], mv_W2)) rfl ?_
            refine mt_call rfl (fun _ => rfl) ⟨Nat.le_of_ble_eq_true rfl, Nat.le_of_ble_eq_true rfl, rfl⟩ (Nat.le_of_ble_eq_true rfl) ?_
            refine mt_runs 8 (f' := (15, [some (.int 0), some (.int 0), some (.int 9)], [.int 1], mv_W2)) rfl ?_
            refine mt_ret rfl rfl ?_
            refine mt_runs 7 (f' := (20, [some (.ref 387), some (.int 0), some (.int 1)], [.int 0], mv_W2)) rfl ?_
            refine mt_ret rfl rfl ?_
            refine mt_runs 1 (f' := (958, [some (.retAddr 0), some (.ref 0), some (.ref 387), some (.int 0)], [], mv_W2)) rfl ?_
            refine mt_runs 1 (f' := (961, [some (.retAddr 0), some (.ref 0), some (.ref 387), some (.int 6)], [], mv_W2)) rfl ?_
            refine mt_runs 1 (f' := (18, [some (.retAddr 0), some (.ref 0), some (.ref 387), some (.int 6)], [], mv_W2)) rfl ?_
            refine mt_runs 1 (f' := (19, [some (.retAddr 0), some (.ref 0), some (.ref 387), some (.int 6)], [.int 6], mv_W2)) rfl ?_
            refine mt_runs 1 (f' := (20, [some (.retAddr 0), some (.ref 0), some (.ref 387), some (.int 6)], [.retAddr 0, .int 6], mv_W2)) rfl ?_
            refine mt_runs 1 (f' := (21, [some (.retAddr 0), some (.ref 0), some (.ref 387), some (.int 6)], [.int 6, .int 6], mv_W2)) rfl ?_
            refine mt_runs 1 (f' := (23, [some (.retAddr 0), some (.ref 0), some (.ref 387), some (.int 6)], [.int 6, .int 6, .int 6], mv_W2)) rfl ?_
            refine mt_runs 1 (f' := (24, [some (.retAddr 0), some (.ref 0), some (.ref 387), some (.int 6)], [.int 0, .int 6], mv_W2)) rfl ?_
            refine mt_runs 1 (f' := (964, [some (.retAddr 0), some (.ref 0), some (.ref 387), some (.int 6)], [], mv_W2)) rfl ?_
            refine mt_runs 1 (f' := (965, [some (.retAddr 0), some (.ref 0), some (.ref 387), some (.int 6)], [.int 1], mv_W2)) rfl ?_
            refine mt_ret rfl rfl ?_
            exact ⟨rfl, Nat.le_of_ble_eq_true rfl, Nat.le_of_ble_eq_true rfl⟩
        | 1, _ =>
          refine mt_runs 4 (f' := (23, [some (.ref 0), some (.int 1), some (.int 1)], [.int 0], mv_W2)) rfl ?_
          refine mt_ret rfl rfl ?_
          refine mt_runs 1 (f' := (826, [some (.retAddr 0), some (.ref 0), some (.ref 387), some (.int 0)], [.ref 387, .int 0], mv_W2)) rfl ?_
          refine mt_runs 1 (f' := (827, [some (.retAddr 0), some (.ref 0), some (.ref 387), some (.int 0)], [.retAddr 0, .ref 387, .int 0], mv_W2)) rfl ?_
          refine mt_runs 1 (f' := (828, [some (.retAddr 0), some (.ref 0), some (.ref 387), some (.int 0)], [.int 0, .retAddr 0, .ref 387, .int 0], mv_W2)) rfl ?_
          refine mt_runs 1 (f' := (829, [some (.retAddr 0), some (.ref 0), some (.ref 387), some (.int 0)], [.int 1, .int 0, .retAddr 0, .ref 387, .int 0], mv_W2)) rfl ?_
          refine mt_runs 1 (f' := (830, [some (.retAddr 0), some (.ref 0), some (.ref 387), some (.int 0)], [.int 1, .retAddr 0, .ref 387, .int 0], mv_W2)) rfl ?_
          refine mt_runs 1 (f' := (831, [some (.retAddr 0), some (.ref 0), some (.ref 387), some (.int 0)], [.int 1, .ref 387, .int 0], mv_W2)) rfl ?_
          refine mt_runs 1 (f' := (832, [some (.retAddr 0), some (.ref 0), some (.ref 387), some (.int 0)], [.retAddr 0, .int 1, .ref 387, .int 0], mv_W2)) rfl ?_
          refine mt_runs 1 (f' := (833, [some (.retAddr 0), some (.ref 0), some (.ref 387), some (.int 0)], [.int 0, .retAddr 0, .int 1, .ref 387, .int 0], mv_W2)) rfl ?_
          refine mt_runs 1 (f' := (834, [some (.retAddr 0), some (.ref 0), some (.ref 387), some (.int 0)], [.int 2, .int 0, .retAddr 0, .int 1, .ref 387, .int 0], mv_W2)) rfl ?_
          refine mt_runs 1 (f' := (835, [some (.retAddr 0), some (.ref 0), some (.ref 387), some (.int 0)], [.int 2, .retAddr 0, .int 1, .ref 387, .int 0], mv_W2)) rfl ?_
          refine mt_runs 1 (f' := (836, [some (.retAddr 0), some (.ref 0), some (.ref 387), some (.int 0)], [.int x2, .int 1, .ref 387, .int 0], mv_W2)) rfl ?_
          refine mu_if (tgt := 843) rfl (by decide) (fun (c29 : x2.toInt = 0) => ?_) (fun (c29 : ¬ (x2.toInt = 0)) => ?_)
          · exfalso
            omega
          · refine mt_runs 1 (f' := (840, [some (.retAddr 0), some (.ref 0), some (.ref 387), some (.int 0)], [.int 1, .int 1, .ref 387, .int 0], mv_W2)) rfl ?_
            refine mt_runs 1 (f' := (844, [some (.retAddr 0), some (.ref 0), some (.ref 387), some (.int 0)], [.int 1, .int 1, .ref 387, .int 0], mv_W2)) rfl ?_
            refine mt_call rfl (fun _ => rfl) ⟨Nat.le_of_ble_eq_true rfl, Nat.le_of_ble_eq_true rfl, rfl⟩ (Nat.le_of_ble_eq_true rfl) ?_
            refine mt_runs 3 (f' := (4, [some (.ref 387), some (.int 1), some (.int 1)], [.int 9, .int 0, .int 1], mv_W2)) rfl ?_
            refine mt_call rfl (fun _ => rfl) ⟨Nat.le_of_ble_eq_true rfl, Nat.le_of_ble_eq_true rfl, rfl⟩ (Nat.le_of_ble_eq_true rfl) ?_
            refine mt_runs 8 (f' := (15, [some (.int 1), some (.int 0), some (.int 9)], [.int 1], mv_W2)) rfl ?_
            refine mt_ret rfl rfl ?_
            refine mt_runs 7 (f' := (20, [some (.ref 387), some (.int 1), some (.int 1)], [.int 0], mv_W2)) rfl ?_
            refine mt_ret rfl rfl ?_
            refine mt_runs 1 (f' := (958, [some (.retAddr 0), some (.ref 0), some (.ref 387), some (.int 0)], [], mv_W2)) rfl ?_
            refine mt_runs 1 (f' := (961, [some (.retAddr 0), some (.ref 0), some (.ref 387), some (.int 6)], [], mv_W2)) rfl ?_
            refine mt_runs 1 (f' := (18, [some (.retAddr 0), some (.ref 0), some (.ref 387), some (.int 6)], [], mv_W2)) rfl ?_
            refine mt_runs 1 (f' := (19, [some (.retAddr 0), some (.ref 0), some (.ref 387), some (.int 6)], [.int 6], mv_W2)) rfl ?_
            refine mt_runs 1 (f' := (20, [some (.retAddr 0), some (.ref 0), some (.ref 387), some (.int 6)], [.retAddr 0, .int 6], mv_W2)) rfl ?_
            refine mt_runs 1 (f' := (21, [some (.retAddr 0), some (.ref 0), some (.ref 387), some (.int 6)], [.int 6, .int 6], mv_W2)) rfl ?_
            refine mt_runs 1 (f' := (23, [some (.retAddr 0), some (.ref 0), some (.ref 387), some (.int 6)], [.int 6, .int 6, .int 6], mv_W2)) rfl ?_
            refine mt_runs 1 (f' := (24, [some (.retAddr 0), some (.ref 0), some (.ref 387), some (.int 6)], [.int 0, .int 6], mv_W2)) rfl ?_
            refine mt_runs 1 (f' := (964, [some (.retAddr 0), some (.ref 0), some (.ref 387), some (.int 6)], [], mv_W2)) rfl ?_
            refine mt_runs 1 (f' := (965, [some (.retAddr 0), some (.ref 0), some (.ref 387), some (.int 6)], [.int 1], mv_W2)) rfl ?_
            refine mt_ret rfl rfl ?_
            exact ⟨rfl, Nat.le_of_ble_eq_true rfl, Nat.le_of_ble_eq_true rfl⟩
        | 2, _ =>
          refine mt_runs 4 (f' := (23, [some (.ref 0), some (.int 2), some (.int 1)], [.int 0], mv_W2)) rfl ?_
          refine mt_ret rfl rfl ?_
          refine mt_runs 1 (f' := (826, [some (.retAddr 0), some (.ref 0), some (.ref 387), some (.int 0)], [.ref 387, .int 0], mv_W2)) rfl ?_
          refine mt_runs 1 (f' := (827, [some (.retAddr 0), some (.ref 0), some (.ref 387), some (.int 0)], [.retAddr 0, .ref 387, .int 0], mv_W2)) rfl ?_
          refine mt_runs 1 (f' := (828, [some (.retAddr 0), some (.ref 0), some (.ref 387), some (.int 0)], [.int 0, .retAddr 0, .ref 387, .int 0], mv_W2)) rfl ?_
          refine mt_runs 1 (f' := (829, [some (.retAddr 0), some (.ref 0), some (.ref 387), some (.int 0)], [.int 1, .int 0, .retAddr 0, .ref 387, .int 0], mv_W2)) rfl ?_
          refine mt_runs 1 (f' := (830, [some (.retAddr 0), some (.ref 0), some (.ref 387), some (.int 0)], [.int 1, .retAddr 0, .ref 387, .int 0], mv_W2)) rfl ?_
          refine mt_runs 1 (f' := (831, [some (.retAddr 0), some (.ref 0), some (.ref 387), some (.int 0)], [.int 2, .ref 387, .int 0], mv_W2)) rfl ?_
          refine mt_runs 1 (f' := (832, [some (.retAddr 0), some (.ref 0), some (.ref 387), some (.int 0)], [.retAddr 0, .int 2, .ref 387, .int 0], mv_W2)) rfl ?_
          refine mt_runs 1 (f' := (833, [some (.retAddr 0), some (.ref 0), some (.ref 387), some (.int 0)], [.int 0, .retAddr 0, .int 2, .ref 387, .int 0], mv_W2)) rfl ?_
          refine mt_runs 1 (f' := (834, [some (.retAddr 0), some (.ref 0), some (.ref 387), some (.int 0)], [.int 2, .int 0, .retAddr 0, .int 2, .ref 387, .int 0], mv_W2)) rfl ?_
          refine mt_runs 1 (f' := (835, [some (.retAddr 0), some (.ref 0), some (.ref 387), some (.int 0)], [.int 2, .retAddr 0, .int 2, .ref 387, .int 0], mv_W2)) rfl ?_
          refine mt_runs 1 (f' := (836, [some (.retAddr 0), some (.ref 0), some (.ref 387), some (.int 0)], [.int x2, .int 2, .ref 387, .int 0], mv_W2)) rfl ?_
          refine mu_if (tgt := 843) rfl (by decide) (fun (c30 : x2.toInt = 0) => ?_) (fun (c30 : ¬ (x2.toInt = 0)) => ?_)
          · exfalso
            omega
          · refine mt_runs 1 (f' := (840, [some (.retAddr 0), some (.ref 0), some (.ref 387), some (.int 0)], [.int 1, .int 2, .ref 387, .int 0], mv_W2)) rfl ?_
            refine mt_runs 1 (f' := (844, [some (.retAddr 0), some (.ref 0), some (.ref 387), some (.int 0)], [.int 1, .int 2, .ref 387, .int 0], mv_W2)) rfl ?_
            refine mt_call rfl (fun _ => rfl) ⟨Nat.le_of_ble_eq_true rfl, Nat.le_of_ble_eq_true rfl, rfl⟩ (Nat.le_of_ble_eq_true rfl) ?_
            refine mt_runs 3 (f' := (4, [some (.ref 387), some (.int 2), some (.int 1)], [.int 9, .int 0, .int 2], mv_W2)) rfl ?_
            refine mt_call rfl (fun _ => rfl) ⟨Nat.le_of_ble_eq_true rfl, Nat.le_of_ble_eq_true rfl, rfl⟩ (Nat.le_of_ble_eq_true rfl) ?_
            refine mt_runs 8 (f' := (15, [some (.int 2), some (.int 0), some (.int 9)], [.int 1], mv_W2)) rfl ?_
            refine mt_ret rfl rfl ?_
            refine mt_runs 7 (f' := (20, [some (.ref 387), some (.int 2), some (.int 1)], [.int 0], mv_W2)) rfl ?_
            refine mt_ret rfl rfl ?_
            refine mt_runs 1 (f' := (958, [some (.retAddr 0), some (.ref 0), some (.ref 387), some (.int 0)], [], mv_W2)) rfl ?_
            refine mt_runs 1 (f' := (961, [some (.retAddr 0), some (.ref 0), some (.ref 387), some (.int 6)], [], mv_W2)) rfl ?_
            refine mt_runs 1 (f' := (18, [some (.retAddr 0), some (.ref 0), some (.ref 387), some (.int 6)], [], mv_W2)) rfl ?_
            refine mt_runs 1 (f' := (19, [some (.retAddr 0), some (.ref 0), some (.ref 387), some (.int 6)], [.int 6], mv_W2)) rfl ?_
            refine mt_runs 1 (f' := (20, [some (.retAddr 0), some (.ref 0), some (.ref 387), some (.int 6)], [.retAddr 0, .int 6], mv_W2)) rfl ?_
            refine mt_runs 1 (f' := (21, [some (.retAddr 0), some (.ref 0), some (.ref 387), some (.int 6)], [.int 6, .int 6], mv_W2)) rfl ?_
            refine mt_runs 1 (f' := (23, [some (.retAddr 0), some (.ref 0), some (.ref 387), some (.int 6)], [.int 6, .int 6, .int 6], mv_W2)) rfl ?_
            refine mt_runs 1 (f' := (24, [some (.retAddr 0), some (.ref 0), some (.ref 387), some (.int 6)], [.int 0, .int 6], mv_W2)) rfl ?_
            refine mt_runs 1 (f' := (964, [some (.retAddr 0), some (.ref 0), some (.ref 387), some (.int 6)], [], mv_W2)) rfl ?_
            refine mt_runs 1 (f' := (965, [some (.retAddr 0), some (.ref 0), some (.ref 387), some (.int 6)], [.int 1], mv_W2)) rfl ?_
            refine mt_ret rfl rfl ?_
            exact ⟨rfl, Nat.le_of_ble_eq_true rfl, Nat.le_of_ble_eq_true rfl⟩
        | 3, _ =>
          refine mt_runs 4 (f' := (23, [some (.ref 0), some (.int 3), some (.int 1)], [.int 0], mv_W2)) rfl ?_
          refine mt_ret rfl rfl ?_
          refine mt_runs 1 (f' := (826, [some (.retAddr 0), some (.ref 0), some (.ref 387), some (.int 0)], [.ref 387, .int 0], mv_W2)) rfl ?_
          refine mt_runs 1 (f' := (827, [some (.retAddr 0), some (.ref 0), some (.ref 387), some (.int 0)], [.retAddr 0, .ref 387, .int 0], mv_W2)) rfl ?_
          refine mt_runs 1 (f' := (828, [some (.retAddr 0), some (.ref 0), some (.ref 387), some (.int 0)], [.int 0, .retAddr 0, .ref 387, .int 0], mv_W2)) rfl ?_
          refine mt_runs 1 (f' := (829, [some (.retAddr 0), some (.ref 0), some (.ref 387), some (.int 0)], [.int 1, .int 0, .retAddr 0, .ref 387, .int 0], mv_W2)) rfl ?_
          refine mt_runs 1 (f' := (830, [some (.retAddr 0), some (.ref 0), some (.ref 387), some (.int 0)], [.int 1, .retAddr 0, .ref 387, .int 0], mv_W2)) rfl ?_
          refine mt_runs 1 (f' := (831, [some (.retAddr 0), some (.ref 0), some (.ref 387), some (.int 0)], [.int 3, .ref 387, .int 0], mv_W2)) rfl ?_
          refine mt_runs 1 (f' := (832, [some (.retAddr 0), some (.ref 0), some (.ref 387), some (.int 0)], [.retAddr 0, .int 3, .ref 387, .int 0], mv_W2)) rfl ?_
          refine mt_runs 1 (f' := (833, [some (.retAddr 0), some (.ref 0), some (.ref 387), some (.int 0)], [.int 0, .retAddr 0, .int 3, .ref 387, .int 0], mv_W2)) rfl ?_
          refine mt_runs 1 (f' := (834, [some (.retAddr 0), some (.ref 0), some (.ref 387), some (.int 0)], [.int 2, .int 0, .retAddr 0, .int 3, .ref 387, .int 0], mv_W2)) rfl ?_
          refine mt_runs 1 (f' := (835, [some (.retAddr 0), some (.ref 0), some (.ref 387), some (.int 0)], [.int 2, .retAddr 0, .int 3, .ref 387, .int 0], mv_W2)) rfl ?_
          refine mt_runs 1 (f' := (836, [some (.retAddr 0), some (.ref 0), some (.ref 387), some (.int 0)], [.int x2, .int 3, .ref 387, .int 0], mv_W2)) rfl ?_
          refine mu_if (tgt := 843) rfl (by decide) (fun (c31 : x2.toInt = 0) => ?_) (fun (c31 : ¬ (x2.toInt = 0)) => ?_)
          · exfalso
            omega
          · refine mt_runs 1 (f' := (840, [some (.retAddr 0), some (.ref 0), some (.ref 387), some (.int 0)], [.int 1, .int 3, .ref 387, .int 0], mv_W2)) rfl ?_
            refine mt_runs 1 (f' := (844, [some (.retAddr 0), some (.ref 0), some (.ref 387), some (.int 0)], [.int 1, .int 3, .ref 387, .int 0], mv_W2)) rfl ?_
            refine mt_call rfl (fun _ => rfl) ⟨Nat.le_of_ble_eq_true rfl, Nat.le_of_ble_eq_true rfl, rfl⟩ (Nat.le_of_ble_eq_true rfl) ?_
            refine mt_runs 3 (f' := (4, [some (.ref 387), some (.int 3), some (.int 1)], [.int 9, .int 0, .int 3], mv_W2)) rfl ?_
            refine mt_call rfl (fun _ => rfl) ⟨Nat.le_of_ble_eq_true rfl, Nat.le_of_ble_eq_true rfl, rfl⟩ (Nat.le_of_ble_eq_true rfl) ?_
            refine mt_runs 8 (f' := (15, [some (.int 3), some (.int 0), some (.int 9)], [.int 1], mv_W2)) rfl ?_
            refine mt_ret rfl rfl ?_
            refine mt_runs 7 (f' := (20, [some (.ref 387), some (.int 3), some (.int 1)], [.int 0], mv_W2)) rfl ?_
            refine mt_ret rfl rfl ?_
            refine mt_runs 1 (f' := (958, [some (.retAddr 0), some (.ref 0), some (.ref 387), some (.int 0)], [], mv_W2)) rfl ?_
            refine mt_runs 1 (f' := (961, [some (.retAddr 0), some (.ref 0), some (.ref 387), some (.int 6)], [], mv_W2)) rfl ?_
            refine mt_runs 1 (f' := (18, [some (.retAddr 0), some (.ref 0), some (.ref 387), some (.int 6)], [], mv_W2)) rfl ?_
            refine mt_runs 1 (f' := (19, [some (.retAddr 0), some (.ref 0), some (.ref 387), some (.int 6)], [.int 6], mv_W2)) rfl ?_
            refine mt_runs 1 (f' := (20, [some (.retAddr 0), some (.ref 0), some (.ref 387), some (.int 6)], [.retAddr 0, .int 6], mv_W2)) rfl ?_
            refine mt_runs 1 (f' := (21, [some (.retAddr 0), some (.ref 0), some (.ref 387), some (.int 6)], [.int 6, .int 6], mv_W2)) rfl ?_
            refine mt_runs 1 (f' := (23, [some (.retAddr 0), some (.ref 0), some (.ref 387), some (.int 6)], [.int 6, .int 6, .int 6], mv_W2)) rfl ?_
            refine mt_runs 1 (f' := (24, [some (.retAddr 0), some (.ref 0), some (.ref 387), some (.int 6)], [.int 0, .int 6], mv_W2)) rfl ?_
            refine mt_runs 1 (f' := (964, [some (.retAddr 0), some (.ref 0), some (.ref 387), some (.int 6)], [], mv_W2)) rfl ?_
            refine mt_runs 1 (f' := (965, [some (.retAddr 0), some (.ref 0), some (.ref 387), some (.int 6)], [.int 1], mv_W2)) rfl ?_
            refine mt_ret rfl rfl ?_
            exact ⟨rfl, Nat.le_of_ble_eq_true rfl, Nat.le_of_ble_eq_true rfl⟩
        | 4, _ =>
          refine mt_runs 4 (f' := (23, [some (.ref 0), some (.int 4), some (.int 1)], [.int 0], mv_W2)) rfl ?_
          refine mt_ret rfl rfl ?_
          refine mt_runs 1 (f' := (826, [some (.retAddr 0), some (.ref 0), some (.ref 387), some (.int 0)], [.ref 387, .int 0], mv_W2)) rfl ?_
          refine mt_runs 1 (f' := (827, [some (.retAddr 0), some (.ref 0), some (.ref 387), some (.int 0)], [.retAddr 0, .ref 387, .int 0], mv_W2)) rfl ?_
          refine mt_runs 1 (f' := (828, [some (.retAddr 0), some (.ref 0), some (.ref 387), some (.int 0)], [.int 0, .retAddr 0, .ref 387, .int 0], mv_W2)) rfl ?_
          refine mt_runs 1 (f' := (829, [some (.retAddr 0), some (.ref 0), some (.ref 387), some (.int 0)], [.int 1, .int 0, .retAddr 0, .ref 387, .int 0], mv_W2)) rfl ?_
          refine mt_runs 1 (f' := (830, [some (.retAddr 0), some (.ref 0), some (.ref 387), some (.int 0)], [.int 1, .retAddr 0, .ref 387, .int 0], mv_W2)) rfl ?_
          refine mt_runs 1 (f' := (831, [some (.retAddr 0), some (.ref 0), some (.ref 387), some (.int 0)], [.int 4, .ref 387, .int 0], mv_W2)) rfl ?_
          refine mt_runs 1 (f' := (832, [some (.retAddr 0), some (.ref 0), some (.ref 387), some (.int 0)], [.retAddr 0, .int 4, .ref 387, .int 0], mv_W2)) rfl ?_
          refine mt_runs 1 (f' := (833, [some (.retAddr 0), some (.ref 0), some (.ref 387), some (.int 0)], [.int 0, .retAddr 0, .int 4, .ref 387, .int 0], mv_W2)) rfl ?_
          refine mt_runs 1 (f' := (834, [some (.retAddr 0), some (.ref 0), some (.ref 387), some (.int 0)], [.int 2, .int 0, .retAddr 0, .int 4, .ref 387, .int 0], mv_W2)) rfl ?_
          refine mt_runs 1 (f' := (835, [some (.retAddr 0), some (.ref 0), some (.ref 387), some (.int 0)], [.int 2, .retAddr 0, .int 4, .ref 387, .int 0], mv_W2)) rfl ?_
          refine mt_runs 1 (f' := (836, [some (.retAddr 0), some (.ref 0), some (.ref 387), some (.int 0)], [.int x2, .int 4, .ref 387, .int 0], mv_W2)) rfl ?_
          refine mu_if (tgt := 843) rfl (by decide) (fun (c32 : x2.toInt = 0) => ?_) (fun (c32 : ¬ (x2.toInt = 0)) => ?_)
          · exfalso
            omega
          · refine mt_runs 1 (f' := (840, [some (.retAddr 0), some (.ref 0), some (.ref 387), some (.int 0)], [.int 1, .int 4, .ref 387, .int 0], mv_W2)) rfl ?_
            refine mt_runs 1 (f' := (844, [some (.retAddr 0), some (.ref 0), some (.ref 387), some (.int 0)], [.int 1, .int 4, .ref 387, .int 0], mv_W2)) rfl ?_
            refine mt_call rfl (fun _ => rfl) ⟨Nat.le_of_ble_eq_true rfl, Nat.le_of_ble_eq_true rfl, rfl⟩ (Nat.le_of_ble_eq_true rfl) ?_
            refine mt_runs 3 (f' := (4, [some (.ref 387), some (.int 4), some (.int 1)], [.int 9, .int 0, .int 4], mv_W2)) rfl ?_
            refine mt_call rfl (fun _ => rfl) ⟨Nat.le_of_ble_eq_true rfl, Nat.le_of_ble_eq_true rfl, rfl⟩ (Nat.le_of_ble_eq_true rfl) ?_
            refine mt_runs 8 (f' := (15, [some (.int 4), some (.int 0), some (.int 9)], [.int 1], mv_W2)) rfl ?_
            refine mt_ret rfl rfl ?_
            refine mt_runs 7 (f' := (20, [some (.ref 387), some (.int 4), some (.int 1)], [.int 0], mv_W2)) rfl ?_
            refine mt_ret rfl rfl ?_
            refine mt_runs 1 (f' := (958, [some (.retAddr 0), some (.ref 0), some (.ref 387), some (.int 0)], [], mv_W2)) rfl ?_
            refine mt_runs 1 (f' := (961, [some (.retAddr 0), some (.ref 0), some (.ref 387), some (.int 6)], [], mv_W2)) rfl ?_
            refine mt_runs 1 (f' := (18, [some (.retAddr 0), some (.ref 0), some (.ref 387), some (.int 6)], [], mv_W2)) rfl ?_
            refine mt_runs 1 (f' := (19, [some (.retAddr 0), some (.ref 0), some (.ref 387), some (.int 6)], [.int 6], mv_W2)) rfl ?_
            refine mt_runs 1 (f' := (20, [some (.retAddr 0), some (.ref 0), some (.ref 387), some (.int 6)], [.retAddr 0, .int 6], mv_W2)) rfl ?_
            refine mt_runs 1 (f' := (21, [some (.retAddr 0), some (.ref 0), some (.ref 387), some (.int 6)], [.int 6, .int 6], mv_W2)) rfl ?_
            refine mt_runs 1 (f' := (23, [some (.retAddr 0), some (.ref 0), some (.ref 387), some (.int 6)], [.int 6, .int 6, .int 6], mv_W2)) rfl ?_
            refine mt_runs 1 (f' := (24, [some (.retAddr 0), some (.ref 0), some (.ref 387), some (.int 6)], [.int 0, .int 6], mv_W2)) rfl ?_
            refine mt_runs 1 (f' := (964, [some (.retAddr 0), some (.ref 0), some (.ref 387), some (.int 6)], [], mv_W2)) rfl ?_
            refine mt_runs 1 (f' := (965, [some (.retAddr 0), some (.ref 0), some (.ref 387), some (.int 6)], [.int 1], mv_W2)) rfl ?_
            refine mt_ret rfl rfl ?_
            exact ⟨rfl, Nat.le_of_ble_eq_true rfl, Nat.le_of_ble_eq_true rfl⟩
        | 5, _ =>
          refine mt_runs 4 (f' := (23, [some (.ref 0), some (.int 5), some (.int 1)], [.int 0], mv_W2)) rfl ?_
          refine mt_ret rfl rfl ?_
          refine mt_runs 1 (f' := (826, [some (.retAddr 0), some (.ref 0), some (.ref 387), some (.int 0)], [.ref 387, .int 0], mv_W2)) rfl ?_
          refine mt_runs 1 (f' := (827, [some (.retAddr 0), some (.ref 0), some (.ref 387), some (.int 0)], [.retAddr 0, .ref 387, .int 0], mv_W2)) rfl ?_
          refine mt_runs 1 (f' := (828, [some (.retAddr 0), some (.ref 0), some (.ref 387), some (.int 0)], [.int 0, .retAddr 0, .ref 387, .int 0], mv_W2)) rfl ?_
          refine mt_runs 1 (f' := (829, [some (.retAddr 0), some (.ref 0), some (.ref 387), some (.int 0)], [.int 1, .int 0, .retAddr 0, .ref 387, .int 0], mv_W2)) rfl ?_
          refine mt_runs 1 (f' := (830, [some (.retAddr 0), some (.ref 0), some (.ref 387), some (.int 0)], [.int 1, .retAddr 0, .ref 387, .int 0], mv_W2)) rfl ?_
          refine mt_runs 1 (f' := (831, [some (.retAddr 0), some (.ref 0), some (.ref 387), some (.int 0)], [.int 5, .ref 387, .int 0], mv_W2)) rfl ?_
          refine mt_runs 1 (f' := (832, [some (.retAddr 0), some (.ref 0), some (.ref 387), some (.int 0)], [.retAddr 0, .int 5, .ref 387, .int 0], mv_W2)) rfl ?_
          refine mt_runs 1 (f' := (833, [some (.retAddr 0), some (.ref 0), some (.ref 387), some (.int 0)], [.int 0, .retAddr 0, .int 5, .ref 387, .int 0], mv_W2)) rfl ?_
          refine mt_runs 1 (f' := (834, [some (.retAddr 0), some (.ref 0), some (.ref 387), some (.int 0)], [.int 2, .int 0, .retAddr 0, .int 5, .ref 387, .int 0], mv_W2)) rfl ?_
          refine mt_runs 1 (f' := (835, [some (.retAddr 0), some (.ref 0), some (.ref 387), some (.int 0)], [.int 2, .retAddr 0, .int 5, .ref 387, .int 0], mv_W2)) rfl ?_
          refine mt_runs 1 (f' := (836, [some (.retAddr 0), some (.ref 0), some (.ref 387), some (.int 0)], [.int x2, .int 5, .ref 387, .int 0], mv_W2)) rfl ?_
          refine mu_if (tgt := 843) rfl (by decide) (fun (c33 : x2.toInt = 0) => ?_) (fun (c33 : ¬ (x2.toInt = 0)) => ?_)
          · exfalso
            omega
          · refine mt_runs 1 (f' := (840, [some (.retAddr 0), some (.ref 0), some (.ref 387), some (.int 0)], [.int 1, .int 5, .ref 387, .int 0], mv_W2)) rfl ?_
            refine mt_runs 1 (f' := (844, [some (.retAddr 0), some (.ref 0), some (.ref 387), some (.int 0)], [.int 1, .int 5, .ref 387, .int 0], mv_W2)) rfl ?_
            refine mt_call rfl (fun _ => rfl) ⟨Nat.le_of_ble_eq_true rfl, Nat.le_of_ble_eq_true rfl, rfl⟩ (Nat.le_of_ble_eq_true rfl) ?_
            refine mt_runs 3 (f' := (4, [some (.ref 387), some (.int 5), some (.int 1)], [.int 9, .int 0, .int 5], mv_W2)) rfl ?_
            refine mt_call rfl (fun _ => rfl) ⟨Nat.le_of_ble_eq_true rfl, Nat.le_of_ble_eq_true rfl, rfl⟩ (Nat.le_of_ble_eq_true rfl) ?_
            refine mt_runs 8 (f' := (15, [some (.int 5), some (.int 0), some (.int 9)], [.int 1], mv_W2)) rfl ?_
            refine mt_ret rfl rfl ?_
            refine mt_runs 7 (f' := (20, [some (.ref 387), some (.int 5), some (.int 1)], [.int 0], mv_W2)) rfl ?_
            refine mt_ret rfl rfl ?_
            refine mt_runs 1 (f' := (958, [some (.retAddr 0), some (.ref 0), some (.ref 387), some (.int 0)], [], mv_W2)) rfl ?_
            refine mt_runs 1 (f' := (961, [some (.retAddr 0), some (.ref 0), some (.ref 387), some (.int 6)], [], mv_W2)) rfl ?_
            refine mt_runs 1 (f' := (18, [some (.retAddr 0), some (.ref 0), some (.ref 387), some (.int 6)], [], mv_W2)) rfl ?_
            refine mt_runs 1 (f' := (19, [some (.retAddr 0), some (.ref 0), some (.ref 387), some (.int 6)], [.int 6], mv_W2)) rfl ?_
            refine mt_runs 1 (f' := (20, [some (.retAddr 0), some (.ref 0), some (.ref 387), some (.int 6)], [.retAddr 0, .int 6], mv_W2)) rfl ?_
            refine mt_runs 1 (f' := (21, [some (.retAddr 0), some (.ref 0), some (.ref 387), some (.int 6)], [.int 6, .int 6], mv_W2)) rfl ?_
            refine mt_runs 1 (f' := (23, [some (.retAddr 0), some (.ref 0), some (.ref 387), some (.int 6)], [.int 6, .int 6, .int 6], mv_W2)) rfl ?_
            refine mt_runs 1 (f' := (24, [some (.retAddr 0), some (.ref 0), some (.ref 387), some (.int 6)], [.int 0, .int 6], mv_W2)) rfl ?_
            refine mt_runs 1 (f' := (964, [some (.retAddr 0), some (.ref 0), some (.ref 387), some (.int 6)], [], mv_W2)) rfl ?_
            refine mt_runs 1 (f' := (965, [some (.retAddr 0), some (.ref 0), some (.ref 387), some (.int 6)], [.int 1], mv_W2)) rfl ?_
            refine mt_ret rfl rfl ?_
            exact ⟨rfl, Nat.le_of_ble_eq_true rfl, Nat.le_of_ble_eq_true rfl⟩
        | 6, _ =>
          refine mt_runs 4 (f' := (23, [some (.ref 0), some (.int 6), some (.int 1)], [.int 0], mv_W2)) rfl ?_
          refine mt_ret rfl rfl ?_
          refine mt_runs 1 (f' := (826, [some (.retAddr 0), some (.ref 0), some (.ref 387), some (.int 0)], [.ref 387, .int 0], mv_W2)) rfl ?_
          refine mt_runs 1 (f' := (827, [some (.retAddr 0), some (.ref 0), some (.ref 387), some (.int 0)], [.retAddr 0, .ref 387, .int 0], mv_W2)) rfl ?_
          refine mt_runs 1 (f' := (828, [some (.retAddr 0), some (.ref 0), some (.ref 387), some (.int 0)], [.int 0, .retAddr 0, .ref 387, .int 0], mv_W2)) rfl ?_
          refine mt_runs 1 (f' := (829, [some (.retAddr 0), some (.ref 0), some (.ref 387), some (.int 0)], [.int 1, .int 0, .retAddr 0, .ref 387, .int 0], mv_W2)) rfl ?_
          refine mt_runs 1 (f' := (830, [some (.retAddr 0), some (.ref 0), some (.ref 387), some (.int 0)], [.int 1, .retAddr 0, .ref 387, .int 0], mv_W2)) rfl ?_
          refine mt_runs 1 (f' := (831, [some (.retAddr 0), some (.ref 0), some (.ref 387), some (.int 0)], [.int 6, .ref 387, .int 0], mv_W2)) rfl ?_
          refine mt_runs 1 (f' := (832, [some (.retAddr 0), some (.ref 0), some (.ref 387), some (.int 0)], [.retAddr 0, .int 6, .ref 387, .int 0], mv_W2)) rfl ?_
          refine mt_runs 1 (f' := (833, [some (.retAddr 0), some (.ref 0), some (.ref 387), some (.int 0)], [.int 0, .retAddr 0, .int 6, .ref 387, .int 0], mv_W2)) rfl ?_
          refine mt_runs 1 (f' := (834, [some (.retAddr 0), some (.ref 0), some (.ref 387), some (.int 0)], [.int 2, .int 0, .retAddr 0, .int 6, .ref 387, .int 0], mv_W2)) rfl ?_
          refine mt_runs 1 (f' := (835, [some (.retAddr 0), some (.ref 0), some (.ref 387), some (.int 0)], [.int 2, .retAddr 0, .int 6, .ref 387, .int 0], mv_W2)) rfl ?_
          refine mt_runs 1 (f' := (836, [some (.retAddr 0), some (.ref 0), some (.ref 387), some (.int 0)], [.int x2, .int 6, .ref 387, .int 0], mv_W2)) rfl ?_
          refine mu_if (tgt := 843) rfl (by decide) (fun (c34 : x2.toInt = 0) => ?_) (fun (c34 : ¬ (x2.toInt = 0)) => ?_)
          · exfalso
            omega
          · refine mt_runs 1 (f' := (840, [some (.retAddr 0), some (.ref 0), some (.ref 387), some (.int 0)], [.int 1, .int 6, .ref 387, .int 0], mv_W2)) rfl ?_
            refine mt_runs 1 (f' := (844, [some (.retAddr 0), some (.ref 0), some (.ref 387), some (.int 0)], [.int 1, .int 6, .ref 387, .int 0], mv_W2)) rfl ?_
            refine mt_call rfl (fun _ => rfl) ⟨Nat.le_of_ble_eq_true rfl, Nat.le_of_ble_eq_true rfl, rfl⟩ (Nat.le_of_ble_eq_true rfl) ?_
            refine mt_runs 3 (f' := (4, [some (.ref 387), some (.int 6), some (.int 1)], [.int 9, .int 0, .int 6], mv_W2)) rfl ?_
            refine mt_call rfl (fun _ => rfl) ⟨Nat.le_of_ble_eq_true rfl, Nat.le_of_ble_eq_true rfl, rfl⟩ (Nat.le_of_ble_eq_true rfl) ?_
            refine mt_runs 8 (f' := (15, [some (.int 6), some (.int 0), some (.int 9)], [.int 1], mv_W2)) rfl ?_
            refine mt_ret rfl rfl ?_
            refine mt_runs 7 (f' := (20, [some (.ref 387), some (.int 6), some (.int 1)], [.int 0], mv_W2)) rfl ?_
            refine mt_ret rfl rfl ?_
            refine mt_runs 1 (f' := (958, [some (.retAddr 0), some (.ref 0), some (.ref 387), some (.int 0)], [], mv_W2)) rfl ?_
            refine mt_runs 1 (f' := (961, [some (.retAddr 0), some (.ref 0), some (.ref 387), some (.int 6)], [], mv_W2)) rfl ?_
            refine mt_runs 1 (f' := (18, [some (.retAddr 0), some (.ref 0), some (.ref 387), some (.int 6)], [], mv_W2)) rfl ?_
            refine mt_runs 1 (f' := (19, [some (.retAddr 0), some (.ref 0), some (.ref 387), some (.int 6)], [.int 6], mv_W2)) rfl ?_
            refine mt_runs 1 (f' := (20, [some (.retAddr 0), some (.ref 0), some (.ref 387), some (.int 6)], [.retAddr 0, .int 6], mv_W2)) rfl ?_
            refine mt_runs 1 (f' := (21, [some (.retAddr 0), some (.ref 0), some (.ref 387), some (.int 6)], [.int 6, .int 6], mv_W2)) rfl ?_
            refine mt_runs 1 (f' := (23, [some (.retAddr 0), some (.ref 0), some (.ref 387), some (.int 6)], [.int 6, .int 6, .int 6], mv_W2)) rfl ?_
            refine mt_runs 1 (f' := (24, [some (.retAddr 0), some (.ref 0), some (.ref 387), some (.int 6)], [.int 0, .int 6], mv_W2)) rfl ?_
            refine mt_runs 1 (f' := (964, [some (.retAddr 0), some (.ref 0), some (.ref 387), some (.int 6)], [], mv_W2)) rfl ?_
            refine mt_runs 1 (f' := (965, [some (.retAddr 0), some (.ref 0), some (.ref 387), some (.int 6)], [.int 1], mv_W2)) rfl ?_
            refine mt_ret rfl rfl ?_
            exact ⟨rfl, Nat.le_of_ble_eq_true rfl, Nat.le_of_ble_eq_true rfl⟩
        | 7, _ =>
          refine mt_runs 4 (f' := (23, [some (.ref 0), some (.int 7), some (.int 1)], [.int 0], mv_W2)) rfl ?_
          refine mt_ret rfl rfl ?_
          refine mt_runs 1 (f' := (826, [some (.retAddr 0), some (.ref 0), some (.ref 387), some (.int 0)], [.ref 387, .int 0], mv_W2)) rfl ?_
          refine mt_runs 1 (f' := (827, [some (.retAddr 0), some (.ref 0), some (.ref 387), some (.int 0)], [.retAddr 0, .ref 387, .int 0], mv_W2)) rfl ?_
          refine mt_runs 1 (f' := (828, [some (.retAddr 0), some (.ref 0), some (.ref 387), some (.int 0)], [.int 0, .retAddr 0, .ref 387, .int 0], mv_W2)) rfl ?_
          refine mt_runs 1 (f' := (829, [some (.retAddr 0), some (.ref 0), some (.ref 387), some (.int 0)], [.int 1, .int 0, .retAddr 0, .ref 387, .int 0], mv_W2)) rfl ?_
          refine mt_runs 1 (f' := (830, [some (.retAddr 0), some (.ref 0), some (.ref 387), some (.int 0)], [.int 1, .retAddr 0, .ref 387, .int 0], mv_W2)) rfl ?_
          refine mt_runs 1 (f' := (831, [some (.retAddr 0), some (.ref 0), some (.ref 387), some (.int 0)], [.int 7, .ref 387, .int 0], mv_W2)) rfl ?_
          refine mt_runs 1 (f' := (832, [some (.retAddr 0), some (.ref 0), some (.ref 387), some (.int 0)], [.retAddr 0, .int 7, .ref 387, .int 0], mv_W2)) rfl ?_
          refine mt_runs 1 (f' := (833, [some (.retAddr 0), some (.ref 0), some (.ref 387), some (.int 0)], [.int 0, .retAddr 0, .int 7, .ref 387, .int 0], mv_W2)) rfl ?_
          refine mt_runs 1 (f' := (834, [some (.retAddr 0), some (.ref 0), some (.ref 387), some (.int 0)], [.int 2, .int 0, .retAddr 0, .int 7, .ref 387, .int 0], mv_W2)) rfl ?_
          refine mt_runs 1 (f' := (835, [some (.retAddr 0), some (.ref 0), some (.ref 387), some (.int 0)], [.int 2, .retAddr 0, .int 7, .ref 387, .int 0], mv_W2)) rfl ?_
          refine mt_runs 1 (f' := (836, [some (.retAddr 0), some (.ref 0), some (.ref 387), some (.int 0)], [.int x2, .int 7, .ref 387, .int 0], mv_W2)) rfl ?_
          refine mu_if (tgt := 843) rfl (by decide) (fun (c35 : x2.toInt = 0) => ?_) (fun (c35 : ¬ (x2.toInt = 0)) => ?_)
          · exfalso
            omega
          · refine mt_runs 1 (f' := (840, [some (.retAddr 0), some (.ref 0), some (.ref 387), some (.int 0)], [.int 1, .int 7, .ref 387, .int 0], mv_W2)) rfl ?_
            refine mt_runs 1 (f' := (844, [some (.retAddr 0), some (.ref 0), some (.ref 387), some (.int 0)], [.int 1, .int 7, .ref 387, .int 0], mv_W2)) rfl ?_
            refine mt_call rfl (fun _ => rfl) ⟨Nat.le_of_ble_eq_true rfl, Nat.le_of_ble_eq_true rfl, rfl⟩ (Nat.le_of_ble_eq_true rfl) ?_
            refine mt_runs 3 (f' := (4, [some (.ref 387), some (.int 7), some (.int 1)], [.int 9, .int 0, .int 7], mv_W2)) rfl ?_
            refine mt_call rfl (fun _ => rfl) ⟨Nat.le_of_ble_eq_true rfl, Nat.le_of_ble_eq_true rfl, rfl⟩ (Nat.le_of_ble_eq_true rfl) ?_
            refine mt_runs 8 (f' := (15, [some (.int 7), some (.int 0), some (.int 9)], [.int 1], mv_W2)) rfl ?_
            refine mt_ret rfl rfl ?_
            refine mt_runs 7 (f' := (20, [some (.ref 387), some (.int 7), some (.int 1)], [.int 0], mv_W2)) rfl ?_
            refine mt_ret rfl rfl ?_
            refine mt_runs 1 (f' := (958, [some (.retAddr 0), some (.ref 0), some (.ref 387), some (.int 0)], [], mv_W2)) rfl ?_
            refine mt_runs 1 (f' := (961, [some (.retAddr 0), some (.ref 0), some (.ref 387), some (.int 6)], [], mv_W2)) rfl ?_
            refine mt_runs 1 (f' := (18, [some (.retAddr 0), some (.ref 0), some (.ref 387), some (.int 6)], [], mv_W2)) rfl ?_
            refine mt_runs 1 (f' := (19, [some (.retAddr 0), some (.ref 0), some (.ref 387), some (.int 6)], [.int 6], mv_W2)) rfl ?_
            refine mt_runs 1 (f' := (20, [some (.retAddr 0), some (.ref 0), some (.ref 387), some (.int 6)], [.retAddr 0, .int 6], mv_W2)) rfl ?_
            refine mt_runs 1 (f' := (21, [some (.retAddr 0), some (.ref 0), some (.ref 387), some (.int 6)], [.int 6, .int 6], mv_W2)) rfl ?_
            refine mt_runs 1 (f' := (23, [some (.retAddr 0), some (.ref 0), some (.ref 387), some (.int 6)], [.int 6, .int 6, .int 6], mv_W2)) rfl ?_
            refine mt_runs 1 (f' := (24, [some (.retAddr 0), some (.ref 0), some (.ref 387), some (.int 6)], [.int 0, .int 6], mv_W2)) rfl ?_
            refine mt_runs 1 (f' := (964, [some (.retAddr 0), some (.ref 0), some (.ref 387), some (.int 6)], [], mv_W2)) rfl ?_
            refine mt_runs 1 (f' := (965, [some (.retAddr 0), some (.ref 0), some (.ref 387), some (.int 6)], [.int 1], mv_W2)) rfl ?_
            refine mt_ret rfl rfl ?_
            exact ⟨rfl, Nat.le_of_ble_eq_true rfl, Nat.le_of_ble_eq_true rfl⟩
        | 8, _ =>
          refine mt_runs 4 (f' := (23, [some (.ref 0), some (.int 8), some (.int 1)], [.int 0], mv_W2)) rfl ?_
          refine mt_ret rfl rfl ?_
          refine mt_runs 1 (f' := (826, [some (.retAddr 0), some (.ref 0), some (.ref 387), some (.int 0)], [.ref 387, .int 0], mv_W2)) rfl ?_
          refine mt_runs 1 (f' := (827, [some (.retAddr 0), some (.ref 0), some (.ref 387), some (.int 0)], [.retAddr 0, .ref 387, .int 0], mv_W2)) rfl ?_
          refine mt_runs 1 (f' := (828, [some (.retAddr 0), some (.ref 0), some (.ref 387), some (.int 0)], [.int 0, .retAddr 0, .ref 387, .int 0], mv_W2)) rfl ?_
          refine mt_runs 1 (f' := (829, [some (.retAddr 0), some (.ref 0), some (.ref 387), some (.int 0)], [.int 1, .int 0, .retAddr 0, .ref 387, .int 0], mv_W2)) rfl ?_
          refine mt_runs 1 (f' := (830, [some (.retAddr 0), some (.ref 0), some (.ref 387), some (.int 0)], [.int 1, .retAddr 0, .ref 387, .int 0], mv_W2)) rfl ?_
          refine mt_runs 1 (f' := (831, [some (.retAddr 0), some (.ref 0), some (.ref 387), some (.int 0)], [.int 8, .ref 387, .int 0], mv_W2)) rfl ?_
          refine mt_runs 1 (f' := (832, [some (.retAddr 0), some (.ref 0), some (.ref 387), some (.int 0)], [.retAddr 0, .int 8, .ref 387, .int 0], mv_W2)) rfl ?_
          refine mt_runs 1 (f' := (833, [some (.retAddr 0), some (.ref 0), some (.ref 387), some (.int 0)], [.int 0, .retAddr 0, .int 8, .ref 387, .int 0], mv_W2)) rfl ?_
          refine mt_runs 1 (f' := (834, [some (.retAddr 0), some (.ref 0), some (.ref 387), some (.int 0)], [.int 2, .int 0, .retAddr 0, .int 8, .ref 387, .int 0], mv_W2)) rfl ?_
          refine mt_runs 1 (f' := (835, [some (.retAddr 0), some (.ref 0), some (.ref 387), some (.int 0)], [.int 2, .retAddr 0, .int 8, .ref 387, .int 0], mv_W2)) rfl ?_
          refine mt_runs 1 (f' := (836, [some (.retAddr 0), some (.ref 0), some (.ref 387), some (.int 0)], [.int x2, .int 8, .ref 387, .int 0], mv_W2)) rfl ?_
          refine mu_if (tgt := 843) rfl (by decide) (fun (c36 : x2.toInt = 0) => ?_) (fun (c36 : ¬ (x2.toInt = 0)) => ?_)
          · exfalso
            omega
          · refine mt_runs 1 (f' := (840, [some (.retAddr 0), some (.ref 0), some (.ref 387), some (.int 0)], [.int 1, .int 8, .ref 387, .int 0], mv_W2)) rfl ?_
            refine mt_runs 1 (f' := (844, [some (.retAddr 0), some (.ref 0), some (.ref 387), some (.int 0)], [.int 1, .int 8, .ref 387, .int 0], mv_W2)) rfl ?_
            refine mt_call rfl (fun _ => rfl) ⟨Nat.le_of_ble_eq_true rfl, Nat.le_of_ble_eq_true rfl, rfl⟩ (Nat.le_of_ble_eq_true rfl) ?_
            refine mt_runs 3 (f' := (4, [some (.ref 387), some (.int 8), some (.int 1)], [.int 9, .int 0, .int 8], mv_W2)) rfl ?_
            refine mt_call rfl (fun _ => rfl) ⟨Nat.le_of_ble_eq_true rfl, Nat.le_of_ble_eq_true rfl, rfl⟩ (Nat.le_of_ble_eq_true rfl) ?_
            refine mt_runs 8 (f' := (15, [some (.int 8), some (.int 0), some (.int 9)], [.int 1], mv_W2)) rfl ?_
            refine mt_ret rfl rfl ?_
            refine mt_runs 7 (f' := (20, [some (.ref 387), some (.int 8), some (.int 1)], [.int 0], mv_W2)) rfl ?_
            refine mt_ret rfl rfl ?_
            refine mt_runs 1 (f' := (958, [some (.retAddr 0), some (.ref 0), some (.ref 387), some (.int 0)], [], mv_W2)) rfl ?_
            refine mt_runs 1 (f' := (961, [some (.retAddr 0), some (.ref 0), some (.ref 387), some (.int 6)], [], mv_W2)) rfl ?_
            refine mt_runs 1 (f' := (18, [some (.retAddr 0), some (.ref 0), some (.ref 387), some (.int 6)], [], mv_W2)) rfl ?_
            refine mt_runs 1 (f' := (19, [some (.retAddr 0), some (.ref 0), some (.ref 387), some (.int 6)], [.int 6], mv_W2)) rfl ?_
            refine mt_runs 1 (f' := (20, [some (.retAddr 0), some (.ref 0), some (.ref 387), some (.int 6)], [.retAddr 0, .int 6], mv_W2)) rfl ?_
            refine mt_runs 1 (f' := (21, [some (.retAddr 0), some (.ref 0), some (.ref 387), some (.int 6)], [.int 6, .int 6], mv_W2)) rfl ?_
            refine mt_runs 1 (f' := (23, [some (.retAddr 0), some (.ref 0), some (.ref 387), some (.int 6)], [.int 6, .int 6, .int 6], mv_W2)) rfl ?_
            refine mt_runs 1 (f' := (24, [some (.retAddr 0), some (.ref 0), some (.ref 387), some (.int 6)], [.int 0, .int 6], mv_W2)) rfl ?_
            refine mt_runs 1 (f' := (964, [some (.retAddr 0), some (.ref 0), some (.ref 387), some (.int 6)], [], mv_W2)) rfl ?_
            refine mt_runs 1 (f' := (965, [some (.retAddr 0), some (.ref 0), some (.ref 387), some (.int 6)], [.int 1], mv_W2)) rfl ?_
            refine mt_ret rfl rfl ?_
            exact ⟨rfl, Nat.le_of_ble_eq_true rfl, Nat.le_of_ble_eq_true rfl⟩
        | 9, _ =>
          refine mt_runs 4 (f' := (23, [some (.ref 0), some (.int 9), some (.int 1)], [.int 0], mv_W2)) rfl ?_
          refine mt_ret rfl rfl ?_
          refine mt_runs 1 (f' := (826, [some (.retAddr 0), some (.ref 0), some (.ref 387), some (.int 0)], [.ref 387, .int 0], mv_W2)) rfl ?_
          refine mt_runs 1 (f' := (827, [some (.retAddr 0), some (.ref 0), some (.ref 387), some (.int 0)], [.retAddr 0, .ref 387, .int 0], mv_W2)) rfl ?_
          refine mt_runs 1 (f' := (828, [some (.retAddr 0), some (.ref 0), some (.ref 387), some (.int 0)], [.int 0, .retAddr 0, .ref 387, .int 0], mv_W2)) rfl ?_
          refine mt_runs 1 (f' := (829, [some (.retAddr 0), some (.ref 0), some (.ref 387), some (.int 0)], [.int 1, .int 0, .retAddr 0, .ref 387, .int 0], mv_W2)) rfl ?_
          refine mt_runs 1 (f' := (830, [some (.retAddr 0), some (.ref 0), some (.ref 387), some (.int 0)], [.int 1, .retAddr 0, .ref 387, .int 0], mv_W2)) rfl ?_
          refine mt_runs 1 (f' := (831, [some (.retAddr 0), some (.ref 0), some (.ref 387), some (.int 0)], [.int 9, .ref 387, .int 0], mv_W2)) rfl ?_
          refine mt_runs 1 (f' := (832, [some (.retAddr 0), some (.ref 0), some (.ref 387), some (.int 0)], [.retAddr 0, .int 9, .ref 387, .int 0], mv_W2)) rfl ?_
          refine mt_runs 1 (f' := (833, [some (.retAddr 0), some (.ref 0), some (.ref 387), some (.int 0)], [.int 0, .retAddr 0, .int 9, .ref 387, .int 0], mv_W2)) rfl ?_
          refine mt_runs 1 (f' := (834, [some (.retAddr 0), some (.ref 0), some (.ref 387), some (.int 0)], [.int 2, .int 0, .retAddr 0, .int 9, .ref 387, .int 0], mv_W2)) rfl ?_
          refine mt_runs 1 (f' := (835, [some (.retAddr 0), some (.ref 0), some (.ref 387), some (.int 0)], [.int 2, .retAddr 0, .int 9, .ref 387, .int 0], mv_W2)) rfl ?_
          refine mt_runs 1 (f' := (836, [some (.retAddr 0), some (.ref 0), some (.ref 387), some (.int 0)], [.int x2, .int 9, .ref 387, .int 0], mv_W2)) rfl ?_
          refine mu_if (tgt := 843) rfl (by decide) (fun (c37 : x2.toInt = 0) => ?_) (fun (c37 : ¬ (x2.toInt = 0)) => ?_)
          · exfalso
            omega
          · refine mt_runs 1 (f' := (840, [some (.retAddr 0), some (.ref 0), some (.ref 387), some (.int 0)], [.int 1, .int 9, .ref 387, .int 0], mv_W2)) rfl ?_
            refine mt_runs 1 (f' := (844, [some (.retAddr 0), some (.ref 0), some (.ref 387), some (.int 0)], [.int 1, .int 9, .ref 387, .int 0], mv_W2)) rfl ?_
            refine mt_call rfl (fun _ => rfl) ⟨Nat.le_of_ble_eq_true rfl, Nat.le_of_ble_eq_true rfl, rfl⟩ (Nat.le_of_ble_eq_true rfl) ?_
            refine mt_runs 3 (f' := (4, [some (.ref 387), some (.int 9), some (.int 1)], [.int 9, .int 0, .int 9], mv_W2)) rfl ?_
            refine mt_call rfl (fun _ => rfl) ⟨Nat.le_of_ble_eq_true rfl, Nat.le_of_ble_eq_true rfl, rfl⟩ (Nat.le_of_ble_eq_true rfl) ?_
            refine mt_runs 8 (f' := (15, [some (.int 9), some (.int 0), some (.int 9)], [.int 1], mv_W2)) rfl ?_
            refine mt_ret rfl rfl ?_
            refine mt_runs 7 (f' := (20, [some (.ref 387), some (.int 9), some (.int 1)], [.int 0], mv_W2)) rfl ?_
            refine mt_ret rfl rfl ?_
            refine mt_runs 1 (f' := (958, [some (.retAddr 0), some (.ref 0), some (.ref 387), some (.int 0)], [], mv_W2)) rfl ?_
            refine mt_runs 1 (f' := (961, [some (.retAddr 0), some (.ref 0), some (.ref 387), some (.int 6)], [], mv_W2)) rfl ?_
            refine mt_runs 1 (f' := (18, [some (.retAddr 0), some (.ref 0), some (.ref 387), some (.int 6)], [], mv_W2)) rfl ?_
            refine mt_runs 1 (f' := (19, [some (.retAddr 0), some (.ref 0), some (.ref 387), some (.int 6)], [.int 6], mv_W2)) rfl ?_
            refine mt_runs 1 (f' := (20, [some (.retAddr 0), some (.ref 0), some (.ref 387), some (.int 6)], [.retAddr 0, .int 6], mv_W2)) rfl ?_
            refine mt_runs 1 (f' := (21, [some (.retAddr 0), some (.ref 0), some (.ref 387), some (.int 6)], [.int 6, .int 6], mv_W2)) rfl ?_
            refine mt_runs 1 (f' := (23, [some (.retAddr 0), some (.ref 0), some (.ref 387), some (.int 6)], [.int 6, .int 6, .int 6], mv_W2)) rfl ?_
            refine mt_runs 1 (f' := (24, [some (.retAddr 0), some (.ref 0), some (.ref 387), some (.int 6)], [.int 0, .int 6], mv_W2)) rfl ?_
            refine mt_runs 1 (f' := (964, [some (.retAddr 0), some (.ref 0), some (.ref 387), some (.int 6)], [], mv_W2)) rfl ?_
            refine mt_runs 1 (f' := (965, [some (.retAddr 0), some (.ref 0), some (.ref 387), some (.int 6)], [.int 1], mv_W2)) rfl ?_
            refine mt_ret rfl rfl ?_
            exact ⟨rfl, Nat.le_of_ble_eq_true rfl, Nat.le_of_ble_eq_true rfl⟩
        | _ + 10, h => exact absurd h (by omega)
set_option maxRecDepth 100000 in
set_option maxHeartbeats 4000000 in
theorem mv_op24 (x0 x1 x2 x3 x4 x5 : Int32) : mu_G (mt_P (mv_xs x0 x1 x2 x3 x4 x5)) 20 301 (852, [some (.retAddr 0), some (.ref 0), some (.ref 387), some (.int 0)], [], mv_W2) mv_Q := by
  refine mt_runs 1 (f' := (853, [some (.retAddr 0), some (.ref 0), some (.ref 387), some (.int 0)], [.ref 0], mv_W2)) rfl ?_
  refine mt_runs 1 (f' := (854, [some (.retAddr 0), some (.ref 0), some (.ref 387), some (.int 0)], [.retAddr 0, .ref 0], mv_W2)) rfl ?_
  refine mt_runs 1 (f' := (855, [some (.retAddr 0), some (.ref 0), some (.ref 387), some (.int 0)], [.int 0, .retAddr 0, .ref 0], mv_W2)) rfl ?_
  refine mt_runs 1 (f' := (856, [some (.retAddr 0), some (.ref 0), some (.ref 387), some (.int 0)], [.int 1, .int 0, .retAddr 0, .ref 0], mv_W2)) rfl ?_
  refine mt_runs 1 (f' := (857, [some (.retAddr 0), some (.ref 0), some (.ref 387), some (.int 0)], [.int 1, .retAddr 0, .ref 0], mv_W2)) rfl ?_
  refine mt_runs 1 (f' := (858, [some (.retAddr 0), some (.ref 0), some (.ref 387), some (.int 0)], [.int x1, .ref 0], mv_W2)) rfl ?_
  refine mt_call rfl (fun _ => rfl) ⟨Nat.le_of_ble_eq_true rfl, Nat.le_of_ble_eq_true rfl, rfl⟩ (Nat.le_of_ble_eq_true rfl) ?_
  refine mt_runs 3 (f' := (5, [some (.ref 0), some (.int x1)], [.int x1, .ref 40], mv_W2)) rfl ?_
  refine mt_call rfl (fun _ => rfl) ⟨Nat.le_of_ble_eq_true rfl, Nat.le_of_ble_eq_true rfl, rfl⟩ (Nat.le_of_ble_eq_true rfl) ?_
  refine mt_runs 1 (f' := (1, [some (.ref 40), some (.int x1)], [.int x1], mv_W2)) rfl ?_
  refine mu_if (tgt := 19) rfl (by decide) (fun (c1 : x1.toInt < 0) => ?_) (fun (c1 : ¬ (x1.toInt < 0)) => ?_)
  · refine mt_runs 1 (f' := (20, [some (.ref 40), some (.int x1)], [.int 0], mv_W2)) rfl ?_
    refine mt_ret rfl rfl ?_
    refine mt_ret rfl rfl ?_
    refine mt_runs 1 (f' := (862, [some (.retAddr 0), some (.ref 0), some (.ref 387), some (.int 0)], [.ref 387, .int 0], mv_W2)) rfl ?_
    refine mt_runs 1 (f' := (863, [some (.retAddr 0), some (.ref 0), some (.ref 387), some (.int 0)], [.retAddr 0, .ref 387, .int 0], mv_W2)) rfl ?_
    refine mt_runs 1 (f' := (864, [some (.retAddr 0), some (.ref 0), some (.ref 387), some (.int 0)], [.int 0, .retAddr 0, .ref 387, .int 0], mv_W2)) rfl ?_
    refine mt_runs 1 (f' := (865, [some (.retAddr 0), some (.ref 0), some (.ref 387), some (.int 0)], [.int 1, .int 0, .retAddr 0, .ref 387, .int 0], mv_W2)) rfl ?_
    refine mt_runs 1 (f' := (866, [some (.retAddr 0), some (.ref 0), some (.ref 387), some (.int 0)], [.int 1, .retAddr 0, .ref 387, .int 0], mv_W2)) rfl ?_
    refine mt_runs 1 (f' := (867, [some (.retAddr 0), some (.ref 0), some (.ref 387), some (.int 0)], [.int x1, .ref 387, .int 0], mv_W2)) rfl ?_
    refine mt_call rfl (fun _ => rfl) ⟨Nat.le_of_ble_eq_true rfl, Nat.le_of_ble_eq_true rfl, rfl⟩ (Nat.le_of_ble_eq_true rfl) ?_
    refine mt_runs 6 (f' := (8, [some (.ref 387), some (.int x1)], [.int (-1), .int 0, .int x1], mv_W2)) rfl ?_
    refine mt_call rfl (fun _ => rfl) ⟨Nat.le_of_ble_eq_true rfl, Nat.le_of_ble_eq_true rfl, rfl⟩ (Nat.le_of_ble_eq_true rfl) ?_
    refine mt_runs 2 (f' := (2, [some (.int x1), some (.int 0), some (.int (-1))], [.int 0, .int x1], mv_W2)) rfl ?_
    refine mu_icmp (tgt := 14) rfl (by decide) (fun (c2 : x1.toInt < 0) => ?_) (fun (c2 : ¬ (x1.toInt < 0)) => ?_)
    · refine mt_runs 1 (f' := (15, [some (.int x1), some (.int 0), some (.int (-1))], [.int 0], mv_W2)) rfl ?_
      refine mt_ret rfl rfl ?_
      refine mt_runs 2 (f' := (23, [some (.ref 387), some (.int x1)], [.int 0], mv_W2)) rfl ?_
      refine mt_ret rfl rfl ?_
      refine mt_runs 1 (f' := (958, [some (.retAddr 0), some (.ref 0), some (.ref 387), some (.int 0)], [], mv_W2)) rfl ?_
      refine mt_runs 1 (f' := (961, [some (.retAddr 0), some (.ref 0), some (.ref 387), some (.int 6)], [], mv_W2)) rfl ?_
      refine mt_runs 1 (f' := (18, [some (.retAddr 0), some (.ref 0), some (.ref 387), some (.int 6)], [], mv_W2)) rfl ?_
      refine mt_runs 1 (f' := (19, [some (.retAddr 0), some (.ref 0), some (.ref 387), some (.int 6)], [.int 6], mv_W2)) rfl ?_
      refine mt_runs 1 (f' := (20, [some (.retAddr 0), some (.ref 0), some (.ref 387), some (.int 6)], [.retAddr 0, .int 6], mv_W2)) rfl ?_
      refine mt_runs 1 (f' := (21, [some (.retAddr 0), some (.ref 0), some (.ref 387), some (.int 6)], [.int 6, .int 6], mv_W2)) rfl ?_
      refine mt_runs 1 (f' := (23, [some (.retAddr 0), some (.ref 0), some (.ref 387), some (.int 6)], [.int 6, .int 6, .int 6], mv_W2)) rfl ?_
      refine mt_runs 1 (f' := (24, [some (.retAddr 0), some (.ref 0), some (.ref 387), some (.int 6)], [.int 0, .int 6], mv_W2)) rfl ?_
      refine mt_runs 1 (f' := (964, [some (.retAddr 0), some (.ref 0), some (.ref 387), some (.int 6)], [], mv_W2)) rfl ?_
      refine mt_runs 1 (f' := (965, [some (.retAddr 0), some (.ref 0), some (.ref 387), some (.int 6)], [.int 1], mv_W2)) rfl ?_
      refine mt_ret rfl rfl ?_
      exact ⟨rfl, Nat.le_of_ble_eq_true rfl, Nat.le_of_ble_eq_true rfl⟩
    · exfalso
      omega
  · refine mt_runs 3 (f' := (9, [some (.ref 40), some (.int x1)], [.int 0, .int x1], mv_W2)) rfl ?_
    refine mu_icmp (tgt := 19) rfl (by decide) (fun (c3 : 0 ≤ x1.toInt) => ?_) (fun (c3 : ¬ (0 ≤ x1.toInt)) => ?_)
    · refine mt_runs 1 (f' := (20, [some (.ref 40), some (.int x1)], [.int 0], mv_W2)) rfl ?_
      refine mt_ret rfl rfl ?_
      refine mt_ret rfl rfl ?_
      refine mt_runs 1 (f' := (862, [some (.retAddr 0), some (.ref 0), some (.ref 387), some (.int 0)], [.ref 387, .int 0], mv_W2)) rfl ?_
      refine mt_runs 1 (f' := (863, [some (.retAddr 0), some (.ref 0), some (.ref 387), some (.int 0)], [.retAddr 0, .ref 387, .int 0], mv_W2)) rfl ?_
      refine mt_runs 1 (f' := (864, [some (.retAddr 0), some (.ref 0), some (.ref 387), some (.int 0)], [.int 0, .retAddr 0, .ref 387, .int 0], mv_W2)) rfl ?_
      refine mt_runs 1 (f' := (865, [some (.retAddr 0), some (.ref 0), some (.ref 387), some (.int 0)], [.int 1, .int 0, .retAddr 0, .ref 387, .int 0], mv_W2)) rfl ?_
      refine mt_runs 1 (f' := (866, [some (.retAddr 0), some (.ref 0), some (.ref 387), some (.int 0)], [.int 1, .retAddr 0, .ref 387, .int 0], mv_W2)) rfl ?_
      refine mt_runs 1 (f' := (867, [some (.retAddr 0), some (.ref 0), some (.ref 387), some (.int 0)], [.int x1, .ref 387, .int 0], mv_W2)) rfl ?_
      refine mt_call rfl (fun _ => rfl) ⟨Nat.le_of_ble_eq_true rfl, Nat.le_of_ble_eq_true rfl, rfl⟩ (Nat.le_of_ble_eq_true rfl) ?_
      refine mt_runs 6 (f' := (8, [some (.ref 387), some (.int x1)], [.int (-1), .int 0, .int x1], mv_W2)) rfl ?_
      refine mt_call rfl (fun _ => rfl) ⟨Nat.le_of_ble_eq_true rfl, Nat.le_of_ble_eq_true rfl, rfl⟩ (Nat.le_of_ble_eq_true rfl) ?_
      refine mt_runs 2 (f' := (2, [some (.int x1), some (.int 0), some (.int (-1))], [.int 0, .int x1], mv_W2)) rfl ?_
      refine mu_icmp (tgt := 14) rfl (by decide) (fun (c4 : x1.toInt < 0) => ?_) (fun (c4 : ¬ (x1.toInt < 0)) => ?_)
      · exfalso
        omega
      · refine mt_runs 2 (f' := (7, [some (.int x1), some (.int 0), some (.int (-1))], [.int (-1), .int x1], mv_W2)) rfl ?_
        refine mu_icmp (tgt := 14) rfl (by decide) (fun (c5 : (-1) < x1.toInt) => ?_) (fun (c5 : ¬ ((-1) < x1.toInt)) => ?_)
        · refine mt_runs 1 (f' := (15, [some (.int x1), some (.int 0), some (.int (-1))], [.int 0], mv_W2)) rfl ?_
          refine mt_ret rfl rfl ?_
          refine mt_runs 2 (f' := (23, [some (.ref 387), some (.int x1)], [.int 0], mv_W2)) rfl ?_
          refine mt_ret rfl rfl ?_
          refine mt_runs 1 (f' := (958, [some (.retAddr 0), some (.ref 0), some (.ref 387), some (.int 0)], [], mv_W2)) rfl ?_
          refine mt_runs 1 (f' := (961, [some (.retAddr 0), some (.ref 0), some (.ref 387), some (.int 6)], [], mv_W2)) rfl ?_
          refine mt_runs 1 (f' := (18, [some (.retAddr 0), some (.ref 0), some (.ref 387), some (.int 6)], [], mv_W2)) rfl ?_
          refine mt_runs 1 (f' := (19, [some (.retAddr 0), some (.ref 0), some (.ref 387), some (.int 6)], [.int 6], mv_W2)) rfl ?_
          refine mt_runs 1 (f' := (20, [some (.retAddr 0), some (.ref 0), some (.ref 387), some (.int 6)], [.retAddr 0, .int 6], mv_W2)) rfl ?_
          refine mt_runs 1 (f' := (21, [some (.retAddr 0), some (.ref 0), some (.ref 387), some (.int 6)], [.int 6, .int 6], mv_W2)) rfl ?_
          refine mt_runs 1 (f' := (23, [some (.retAddr 0), some (.ref 0), some (.ref 387), some (.int 6)], [.int 6, .int 6, .int 6], mv_W2)) rfl ?_
          refine mt_runs 1 (f' := (24, [some (.retAddr 0), some (.ref 0), some (.ref 387), some (.int 6)], [.int 0, .int 6], mv_W2)) rfl ?_
          refine mt_runs 1 (f' := (964, [some (.retAddr 0), some (.ref 0), some (.ref 387), some (.int 6)], [], mv_W2)) rfl ?_
          refine mt_runs 1 (f' := (965, [some (.retAddr 0), some (.ref 0), some (.ref 387), some (.int 6)], [.int 1], mv_W2)) rfl ?_
          refine mt_ret rfl rfl ?_
          exact ⟨rfl, Nat.le_of_ble_eq_true rfl, Nat.le_of_ble_eq_true rfl⟩
        · exfalso
          omega
    · exfalso
      omega
set_option maxRecDepth 100000 in
set_option maxHeartbeats 4000000 in
theorem mv_op25 (x0 x1 x2 x3 x4 x5 : Int32) : mu_G (mt_P (mv_xs x0 x1 x2 x3 x4 x5)) 20 301 (875, [some (.retAddr 0), some (.ref 0), some (.ref 387), some (.int 0)], [], mv_W2) mv_Q := by
  refine mt_runs 1 (f' := (876, [some (.retAddr 0), some (.ref 0), some (.ref 387), some (.int 0)], [.ref 0], mv_W2)) rfl ?_
  refine mt_runs 1 (f' := (877, [some (.retAddr 0), some (.ref 0), some (.ref 387), some (.int 0)], [.retAddr 0, .ref 0], mv_W2)) rfl ?_
  refine mt_runs 1 (f' := (878, [some (.retAddr 0), some (.ref 0), some (.ref 387), some (.int 0)], [.int 0, .retAddr 0, .ref 0], mv_W2)) rfl ?_
  refine mt_runs 1 (f' := (879, [some (.retAddr 0), some (.ref 0), some (.ref 387), some (.int 0)], [.int 1, .int 0, .retAddr 0, .ref 0], mv_W2)) rfl ?_
  refine mt_runs 1 (f' := (880, [some (.retAddr 0), some (.ref 0), some (.ref 387), some (.int 0)], [.int 1, .retAddr 0, .ref 0], mv_W2)) rfl ?_
  refine mt_runs 1 (f' := (881, [some (.retAddr 0), some (.ref 0), some (.ref 387), some (.int 0)], [.int x1, .ref 0], mv_W2)) rfl ?_
  refine mt_call rfl (fun _ => rfl) ⟨Nat.le_of_ble_eq_true rfl, Nat.le_of_ble_eq_true rfl, rfl⟩ (Nat.le_of_ble_eq_true rfl) ?_
  refine mt_runs 1 (f' := (1, [some (.ref 0), some (.int x1)], [.int x1], mv_W2)) rfl ?_
  refine mu_if (tgt := 15) rfl (by decide) (fun (c1 : x1.toInt < 0) => ?_) (fun (c1 : ¬ (x1.toInt < 0)) => ?_)
  · refine mt_runs 2 (f' := (31, [some (.ref 0), some (.int x1)], [.int (-1)], mv_W2)) rfl ?_
    refine mt_ret rfl rfl ?_
    refine mt_runs 1 (f' := (885, [some (.retAddr 0), some (.ref 0), some (.ref 387), some (.int 0)], [.ref 387, .int (-1)], mv_W2)) rfl ?_
    refine mt_runs 1 (f' := (886, [some (.retAddr 0), some (.ref 0), some (.ref 387), some (.int 0)], [.retAddr 0, .ref 387, .int (-1)], mv_W2)) rfl ?_
    refine mt_runs 1 (f' := (887, [some (.retAddr 0), some (.ref 0), some (.ref 387), some (.int 0)], [.int 0, .retAddr 0, .ref 387, .int (-1)], mv_W2)) rfl ?_
    refine mt_runs 1 (f' := (888, [some (.retAddr 0), some (.ref 0), some (.ref 387), some (.int 0)], [.int 1, .int 0, .retAddr 0, .ref 387, .int (-1)], mv_W2)) rfl ?_
    refine mt_runs 1 (f' := (889, [some (.retAddr 0), some (.ref 0), some (.ref 387), some (.int 0)], [.int 1, .retAddr 0, .ref 387, .int (-1)], mv_W2)) rfl ?_
    refine mt_runs 1 (f' := (890, [some (.retAddr 0), some (.ref 0), some (.ref 387), some (.int 0)], [.int x1, .ref 387, .int (-1)], mv_W2)) rfl ?_
    refine mt_call rfl (fun _ => rfl) ⟨Nat.le_of_ble_eq_true rfl, Nat.le_of_ble_eq_true rfl, rfl⟩ (Nat.le_of_ble_eq_true rfl) ?_
    refine mt_runs 6 (f' := (8, [some (.ref 387), some (.int x1)], [.int (-1), .int 0, .int x1], mv_W2)) rfl ?_
    refine mt_call rfl (fun _ => rfl) ⟨Nat.le_of_ble_eq_true rfl, Nat.le_of_ble_eq_true rfl, rfl⟩ (Nat.le_of_ble_eq_true rfl) ?_
    refine mt_runs 2 (f' := (2, [some (.int x1), some (.int 0), some (.int (-1))], [.int 0, .int x1], mv_W2)) rfl ?_
    refine mu_icmp (tgt := 14) rfl (by decide) (fun (c2 : x1.toInt < 0) => ?_) (fun (c2 : ¬ (x1.toInt < 0)) => ?_)
    · refine mt_runs 1 (f' := (15, [some (.int x1), some (.int 0), some (.int (-1))], [.int 0], mv_W2)) rfl ?_
      refine mt_ret rfl rfl ?_
      refine mt_runs 2 (f' := (24, [some (.ref 387), some (.int x1)], [.int (-1)], mv_W2)) rfl ?_
      refine mt_ret rfl rfl ?_
      refine mt_runs 1 (f' := (958, [some (.retAddr 0), some (.ref 0), some (.ref 387), some (.int 0)], [], mv_W2)) rfl ?_
      refine mt_runs 1 (f' := (961, [some (.retAddr 0), some (.ref 0), some (.ref 387), some (.int 6)], [], mv_W2)) rfl ?_
      refine mt_runs 1 (f' := (18, [some (.retAddr 0), some (.ref 0), some (.ref 387), some (.int 6)], [], mv_W2)) rfl ?_
      refine mt_runs 1 (f' := (19, [some (.retAddr 0), some (.ref 0), some (.ref 387), some (.int 6)], [.int 6], mv_W2)) rfl ?_
      refine mt_runs 1 (f' := (20, [some (.retAddr 0), some (.ref 0), some (.ref 387), some (.int 6)], [.retAddr 0, .int 6], mv_W2)) rfl ?_
      refine mt_runs 1 (f' := (21, [some (.retAddr 0), some (.ref 0), some (.ref 387), some (.int 6)], [.int 6, .int 6], mv_W2)) rfl ?_
      refine mt_runs 1 (f' := (23, [some (.retAddr 0), some (.ref 0), some (.ref 387), some (.int 6)], [.int 6, .int 6, .int 6], mv_W2)) rfl ?_
      refine mt_runs 1 (f' := (24, [some (.retAddr 0), some (.ref 0), some (.ref 387), some (.int 6)], [.int 0, .int 6], mv_W2)) rfl ?_
      refine mt_runs 1 (f' := (964, [some (.retAddr 0), some (.ref 0), some (.ref 387), some (.int 6)], [], mv_W2)) rfl ?_
      refine mt_runs 1 (f' := (965, [some (.retAddr 0), some (.ref 0), some (.ref 387), some (.int 6)], [.int 1], mv_W2)) rfl ?_
      refine mt_ret rfl rfl ?_
      exact ⟨rfl, Nat.le_of_ble_eq_true rfl, Nat.le_of_ble_eq_true rfl⟩
    · exfalso
      omega
  · refine mt_runs 4 (f' := (12, [some (.ref 0), some (.int x1)], [.int 0, .int x1], mv_W2)) rfl ?_
    refine mu_icmp (tgt := 19) rfl (by decide) (fun (c3 : x1.toInt < 0) => ?_) (fun (c3 : ¬ (x1.toInt < 0)) => ?_)
    · exfalso
      omega
    · refine mt_runs 2 (f' := (31, [some (.ref 0), some (.int x1)], [.int (-1)], mv_W2)) rfl ?_
      refine mt_ret rfl rfl ?_
      refine mt_runs 1 (f' := (885, [some (.retAddr 0), some (.ref 0), some (.ref 387), some (.int 0)], [.ref 387, .int (-1)], mv_W2)) rfl ?_
      refine mt_runs 1 (f' := (886, [some (.retAddr 0), some (.ref 0), some (.ref 387), some (.int 0)], [.retAddr 0, .ref 387, .int (-1)], mv_W2)) rfl ?_
      refine mt_runs 1 (f' := (887, [some (.retAddr 0), some (.ref 0), some (.ref 387), some (.int 0)], [.int 0, .retAddr 0, .ref 387, .int (-1)], mv_W2)) rfl ?_
      refine mt_runs 1 (f' := (888, [some (.retAddr 0), some (.ref 0), some (.ref 387), some (.int 0)], [.int 1, .int 0, .retAddr 0, .ref 387, .int (-1)], mv_W2)) rfl ?_
      refine mt_runs 1 (f' := (889, [some (.retAddr 0), some (.ref 0), some (.ref 387), some (.int 0)], [.int 1, .retAddr 0, .ref 387, .int (-1)], mv_W2)) rfl ?_
      refine mt_runs 1 (f' := (890, [some (.retAddr 0), some (.ref 0), some (.ref 387), some (.int 0)], [.int x1, .ref 387, .int (-1)], mv_W2)) rfl ?_
      refine mt_call rfl (fun _ => rfl) ⟨Nat.le_of_ble_eq_true rfl, Nat.le_of_ble_eq_true rfl, rfl⟩ (Nat.le_of_ble_eq_true rfl) ?_
      refine mt_runs 6 (f' := (8, [some (.ref 387), some (.int x1)], [.int (-1), .int 0, .int x1], mv_W2)) rfl ?_
      refine mt_call rfl (fun _ => rfl) ⟨Nat.le_of_ble_eq_true rfl, Nat.le_of_ble_eq_true rfl, rfl⟩ (Nat.le_of_ble_eq_true rfl) ?_
      refine mt_runs 2 (f' := (2, [some (.int x1), some (.int 0), some (.int (-1))], [.int 0, .int x1], mv_W2)) rfl ?_
      refine mu_icmp (tgt := 14) rfl (by decide) (fun (c4 : x1.toInt < 0) => ?_) (fun (c4 : ¬ (x1.toInt < 0)) => ?_)
      · exfalso
        omega
      · refine mt_runs 2 (f' := (7, [some (.int x1), some (.int 0), some (.int (-1))], [.int (-1), .int x1], mv_W2)) rfl ?_
        refine mu_icmp (tgt := 14) rfl (by decide) (fun (c5 : (-1) < x1.toInt) => ?_) (fun (c5 : ¬ ((-1) < x1.toInt)) => ?_)
        · refine mt_runs 1 (f' := (15, [some (.int x1), some (.int 0), some (.int (-1))], [.int 0], mv_W2)) rfl ?_
          refine mt_ret rfl rfl ?_
          refine mt_runs 2 (f' := (24, [some (.ref 387), some (.int x1)], [.int (-1)], mv_W2)) rfl ?_
          refine mt_ret rfl rfl ?_
          refine mt_runs 1 (f' := (958, [some (.retAddr 0), some (.ref 0), some (.ref 387), some (.int 0)], [], mv_W2)) rfl ?_
          refine mt_runs 1 (f' := (961, [some (.retAddr 0), some (.ref 0), some (.ref 387), some (.int 6)], [], mv_W2)) rfl ?_
          refine mt_runs 1 (f' := (18, [some (.retAddr 0), some (.ref 0), some (.ref 387), some (.int 6)], [], mv_W2)) rfl ?_
          refine mt_runs 1 (f' := (19, [some (.retAddr 0), some (.ref 0), some (.ref 387), some (.int 6)], [.int 6], mv_W2)) rfl ?_
          refine mt_runs 1 (f' := (20, [some (.retAddr 0), some (.ref 0), some (.ref 387), some (.int 6)], [.retAddr 0, .int 6], mv_W2)) rfl ?_
          refine mt_runs 1 (f' := (21, [some (.retAddr 0), some (.ref 0), some (.ref 387), some (.int 6)], [.int 6, .int 6], mv_W2)) rfl ?_
          refine mt_runs 1 (f' := (23, [some (.retAddr 0), some (.ref 0), some (.ref 387), some (.int 6)], [.int 6, .int 6, .int 6], mv_W2)) rfl ?_
          refine mt_runs 1 (f' := (24, [some (.retAddr 0), some (.ref 0), some (.ref 387), some (.int 6)], [.int 0, .int 6], mv_W2)) rfl ?_
          refine mt_runs 1 (f' := (964, [some (.retAddr 0), some (.ref 0), some (.ref 387), some (.int 6)], [], mv_W2)) rfl ?_
          refine mt_runs 1 (f' := (965, [some (.retAddr 0), some (.ref 0), some (.ref 387), some (.int 6)], [.int 1], mv_W2)) rfl ?_
          refine mt_ret rfl rfl ?_
          exact ⟨rfl, Nat.le_of_ble_eq_true rfl, Nat.le_of_ble_eq_true rfl⟩
        · exfalso
          omega
set_option maxRecDepth 100000 in
set_option maxHeartbeats 4000000 in
theorem mv_op26 (x0 x1 x2 x3 x4 x5 : Int32) : mu_G (mt_P (mv_xs x0 x1 x2 x3 x4 x5)) 20 301 (898, [some (.retAddr 0), some (.ref 0), some (.ref 387), some (.int 0)], [], mv_W2) mv_Q := by
  refine mt_runs 1 (f' := (899, [some (.retAddr 0), some (.ref 0), some (.ref 387), some (.int 0)], [.ref 0], mv_W2)) rfl ?_
  refine mt_runs 1 (f' := (900, [some (.retAddr 0), some (.ref 0), some (.ref 387), some (.int 0)], [.retAddr 0, .ref 0], mv_W2)) rfl ?_
  refine mt_runs 1 (f' := (901, [some (.retAddr 0), some (.ref 0), some (.ref 387), some (.int 0)], [.int 0, .retAddr 0, .ref 0], mv_W2)) rfl ?_
  refine mt_runs 1 (f' := (902, [some (.retAddr 0), some (.ref 0), some (.ref 387), some (.int 0)], [.int 1, .int 0, .retAddr 0, .ref 0], mv_W2)) rfl ?_
  refine mt_runs 1 (f' := (903, [some (.retAddr 0), some (.ref 0), some (.ref 387), some (.int 0)], [.int 1, .retAddr 0, .ref 0], mv_W2)) rfl ?_
  refine mt_runs 1 (f' := (904, [some (.retAddr 0), some (.ref 0), some (.ref 387), some (.int 0)], [.int x1, .ref 0], mv_W2)) rfl ?_
  refine mt_call rfl (fun _ => rfl) ⟨Nat.le_of_ble_eq_true rfl, Nat.le_of_ble_eq_true rfl, rfl⟩ (Nat.le_of_ble_eq_true rfl) ?_
  refine mt_runs 1 (f' := (1, [some (.ref 0), some (.int x1)], [.int x1], mv_W2)) rfl ?_
  by_cases c1 : x1 = 0
  · subst c1
    refine mt_runs 4 (f' := (35, [some (.ref 0), some (.int 0)], [.int 0], mv_W2)) rfl ?_
    refine mt_ret rfl rfl ?_
    refine mt_runs 1 (f' := (908, [some (.retAddr 0), some (.ref 0), some (.ref 387), some (.int 0)], [.ref 387, .int 0], mv_W2)) rfl ?_
    refine mt_runs 1 (f' := (909, [some (.retAddr 0), some (.ref 0), some (.ref 387), some (.int 0)], [.retAddr 0, .ref 387, .int 0], mv_W2)) rfl ?_
    refine mt_runs 1 (f' := (910, [some (.retAddr 0), some (.ref 0), some (.ref 387), some (.int 0)], [.int 0, .retAddr 0, .ref 387, .int 0], mv_W2)) rfl ?_
    refine mt_runs 1 (f' := (911, [some (.retAddr 0), some (.ref 0), some (.ref 387), some (.int 0)], [.int 1, .int 0, .retAddr 0, .ref 387, .int 0], mv_W2)) rfl ?_
    refine mt_runs 1 (f' := (912, [some (.retAddr 0), some (.ref 0), some (.ref 387), some (.int 0)], [.int 1, .retAddr 0, .ref 387, .int 0], mv_W2)) rfl ?_
    refine mt_runs 1 (f' := (913, [some (.retAddr 0), some (.ref 0), some (.ref 387), some (.int 0)], [.int 0, .ref 387, .int 0], mv_W2)) rfl ?_
    refine mt_call rfl (fun _ => rfl) ⟨Nat.le_of_ble_eq_true rfl, Nat.le_of_ble_eq_true rfl, rfl⟩ (Nat.le_of_ble_eq_true rfl) ?_
    refine mt_runs 5 (f' := (36, [some (.ref 387), some (.int 0)], [.int 0], mv_W2)) rfl ?_
    refine mt_ret rfl rfl ?_
    refine mt_runs 1 (f' := (958, [some (.retAddr 0), some (.ref 0), some (.ref 387), some (.int 0)], [], mv_W2)) rfl ?_
    refine mt_runs 1 (f' := (961, [some (.retAddr 0), some (.ref 0), some (.ref 387), some (.int 6)], [], mv_W2)) rfl ?_
    refine mt_runs 1 (f' := (18, [some (.retAddr 0), some (.ref 0), some (.ref 387), some (.int 6)], [], mv_W2)) rfl ?_
    refine mt_runs 1 (f' := (19, [some (.retAddr 0), some (.ref 0), some (.ref 387), some (.int 6)], [.int 6], mv_W2)) rfl ?_
    refine mt_runs 1 (f' := (20, [some (.retAddr 0), some (.ref 0), some (.ref 387), some (.int 6)], [.retAddr 0, .int 6], mv_W2)) rfl ?_
    refine mt_runs 1 (f' := (21, [some (.retAddr 0), some (.ref 0), some (.ref 387), some (.int 6)], [.int 6, .int 6], mv_W2)) rfl ?_
    refine mt_runs 1 (f' := (23, [some (.retAddr 0), some (.ref 0), some (.ref 387), some (.int 6)], [.int 6, .int 6, .int 6], mv_W2)) rfl ?_
    refine mt_runs 1 (f' := (24, [some (.retAddr 0), some (.ref 0), some (.ref 387), some (.int 6)], [.int 0, .int 6], mv_W2)) rfl ?_
    refine mt_runs 1 (f' := (964, [some (.retAddr 0), some (.ref 0), some (.ref 387), some (.int 6)], [], mv_W2)) rfl ?_
    refine mt_runs 1 (f' := (965, [some (.retAddr 0), some (.ref 0), some (.ref 387), some (.int 6)], [.int 1], mv_W2)) rfl ?_
    refine mt_ret rfl rfl ?_
    exact ⟨rfl, Nat.le_of_ble_eq_true rfl, Nat.le_of_ble_eq_true rfl⟩
  have c1 : ¬ (x1.toInt = 0) := mu_nei c1
  by_cases c2 : x1 = 1
  · subst c2
    refine mt_runs 4 (f' := (43, [some (.ref 0), some (.int 1)], [.int (-1)], mv_W2)) rfl ?_
    refine mt_ret rfl rfl ?_
    refine mt_runs 1 (f' := (908, [some (.retAddr 0), some (.ref 0), some (.ref 387), some (.int 0)], [.ref 387, .int (-1)], mv_W2)) rfl ?_
    refine mt_runs 1 (f' := (909, [some (.retAddr 0), some (.ref 0), some (.ref 387), some (.int 0)], [.retAddr 0, .ref 387, .int (-1)], mv_W2)) rfl ?_
    refine mt_runs 1 (f' := (910, [some (.retAddr 0), some (.ref 0), some (.ref 387), some (.int 0)], [.int 0, .retAddr 0, .ref 387, .int (-1)], mv_W2)) rfl ?_
    refine mt_runs 1 (f' := (911, [some (.retAddr 0), some (.ref 0), some (.ref 387), some (.int 0)], [.int 1, .int 0, .retAddr 0, .ref 387, .int (-1)], mv_W2)) rfl ?_
    refine mt_runs 1 (f' := (912, [some (.retAddr 0), some (.ref 0), some (.ref 387), some (.int 0)], [.int 1, .retAddr 0, .ref 387, .int (-1)], mv_W2)) rfl ?_
    refine mt_runs 1 (f' := (913, [some (.retAddr 0), some (.ref 0), some (.ref 387), some (.int 0)], [.int 1, .ref 387, .int (-1)], mv_W2)) rfl ?_
    refine mt_call rfl (fun _ => rfl) ⟨Nat.le_of_ble_eq_true rfl, Nat.le_of_ble_eq_true rfl, rfl⟩ (Nat.le_of_ble_eq_true rfl) ?_
    refine mt_runs 8 (f' := (36, [some (.ref 387), some (.int 1)], [.int (-1)], mv_W2)) rfl ?_
    refine mt_ret rfl rfl ?_
    refine mt_runs 1 (f' := (958, [some (.retAddr 0), some (.ref 0), some (.ref 387), some (.int 0)], [], mv_W2)) rfl ?_
    refine mt_runs 1 (f' := (961, [some (.retAddr 0), some (.ref 0), some (.ref 387), some (.int 6)], [], mv_W2)) rfl ?_
    refine mt_runs 1 (f' := (18, [some (.retAddr 0), some (.ref 0), some (.ref 387), some (.int 6)], [], mv_W2)) rfl ?_
    refine mt_runs 1 (f' := (19, [some (.retAddr 0), some (.ref 0), some (.ref 387), some (.int 6)], [.int 6], mv_W2)) rfl ?_
    refine mt_runs 1 (f' := (20, [some (.retAddr 0), some (.ref 0), some (.ref 387), some (.int 6)], [.retAddr 0, .int 6], mv_W2)) rfl ?_
    refine mt_runs 1 (f' := (21, [some (.retAddr 0), some (.ref 0), some (.ref 387), some (.int 6)], [.int 6, .int 6], mv_W2)) rfl ?_
    refine mt_runs 1 (f' := (23, [some (.retAddr 0), some (.ref 0), some (.ref 387), some (.int 6)], [.int 6, .int 6, .int 6], mv_W2)) rfl ?_
    refine mt_runs 1 (f' := (24, [some (.retAddr 0), some (.ref 0), some (.ref 387), some (.int 6)], [.int 0, .int 6], mv_W2)) rfl ?_
    refine mt_runs 1 (f' := (964, [some (.retAddr 0), some (.ref 0), some (.ref 387), some (.int 6)], [], mv_W2)) rfl ?_
    refine mt_runs 1 (f' := (965, [some (.retAddr 0), some (.ref 0), some (.ref 387), some (.int 6)], [.int 1], mv_W2)) rfl ?_
    refine mt_ret rfl rfl ?_
    exact ⟨rfl, Nat.le_of_ble_eq_true rfl, Nat.le_of_ble_eq_true rfl⟩
  have c2 : ¬ (x1.toInt = 1) := mu_nei c2
  by_cases c3 : x1 = 2
  · subst c3
    refine mt_runs 4 (f' := (51, [some (.ref 0), some (.int 2)], [.int (-1)], mv_W2)) rfl ?_
    refine mt_ret rfl rfl ?_
    refine mt_runs 1 (f' := (908, [some (.retAddr 0), some (.ref 0), some (.ref 387), some (.int 0)], [.ref 387, .int (-1)], mv_W2)) rfl ?_
    refine mt_runs 1 (f' := (909, [some (.retAddr 0), some (.ref 0), some (.ref 387), some (.int 0)], [.retAddr 0, .ref 387, .int (-1)], mv_W2)) rfl ?_
    refine mt_runs 1 (f' := (910, [some (.retAddr 0), some (.ref 0), some (.ref 387), some (.int 0)], [.int 0, .retAddr 0, .ref 387, .int (-1)], mv_W2)) rfl ?_
    refine mt_runs 1 (f' := (911, [some (.retAddr 0), some (.ref 0), some (.ref 387), some (.int 0)], [.int 1, .int 0, .retAddr 0, .ref 387, .int (-1)], mv_W2)) rfl ?_
    refine mt_runs 1 (f' := (912, [some (.retAddr 0), some (.ref 0), some (.ref 387), some (.int 0)], [.int 1, .retAddr 0, .ref 387, .int (-1)], mv_W2)) rfl ?_
    refine mt_runs 1 (f' := (913, [some (.retAddr 0), some (.ref 0), some (.ref 387), some (.int 0)], [.int 2, .ref 387, .int (-1)], mv_W2)) rfl ?_
    refine mt_call rfl (fun _ => rfl) ⟨Nat.le_of_ble_eq_true rfl, Nat.le_of_ble_eq_true rfl, rfl⟩ (Nat.le_of_ble_eq_true rfl) ?_
    refine mt_runs 11 (f' := (36, [some (.ref 387), some (.int 2)], [.int (-1)], mv_W2)) rfl ?_
    refine mt_ret rfl rfl ?_
    refine mt_runs 1 (f' := (958, [some (.retAddr 0), some (.ref 0), some (.ref 387), some (.int 0)], [], mv_W2)) rfl ?_
    refine mt_runs 1 (f' := (961, [some (.retAddr 0), some (.ref 0), some (.ref 387), some (.int 6)], [], mv_W2)) rfl ?_
    refine mt_runs 1 (f' := (18, [some (.retAddr 0), some (.ref 0), some (.ref 387), some (.int 6)], [], mv_W2)) rfl ?_
    refine mt_runs 1 (f' := (19, [some (.retAddr 0), some (.ref 0), some (.ref 387), some (.int 6)], [.int 6], mv_W2)) rfl ?_
    refine mt_runs 1 (f' := (20, [some (.retAddr 0), some (.ref 0), some (.ref 387), some (.int 6)], [.retAddr 0, .int 6], mv_W2)) rfl ?_
    refine mt_runs 1 (f' := (21, [some (.retAddr 0), some (.ref 0), some (.ref 387), some (.int 6)], [.int 6, .int 6], mv_W2)) rfl ?_
    refine mt_runs 1 (f' := (23, [some (.retAddr 0), some (.ref 0), some (.ref 387), some (.int 6)], [.int 6, .int 6, .int 6], mv_W2)) rfl ?_
    refine mt_runs 1 (f' := (24, [some (.retAddr 0), some (.ref 0), some (.ref 387), some (.int 6)], [.int 0, .int 6], mv_W2)) rfl ?_
    refine mt_runs 1 (f' := (964, [some (.retAddr 0), some (.ref 0), some (.ref 387), some (.int 6)], [], mv_W2)) rfl ?_
    refine mt_runs 1 (f' := (965, [some (.retAddr 0), some (.ref 0), some (.ref 387), some (.int 6)], [.int 1], mv_W2)) rfl ?_
    refine mt_ret rfl rfl ?_
    exact ⟨rfl, Nat.le_of_ble_eq_true rfl, Nat.le_of_ble_eq_true rfl⟩
  have c3 : ¬ (x1.toInt = 2) := mu_nei c3
  refine mu_tswD (tgt := 52) rfl (by omega) (by decide) ?_
  refine mt_runs 1 (f' := (53, [some (.ref 0), some (.int x1)], [.int (-1)], mv_W2)) rfl ?_
  refine mt_ret rfl rfl ?_
  refine mt_runs 1 (f' := (908, [some (.retAddr 0), some (.ref 0), some (.ref 387), some (.int 0)], [.ref 387, .int (-1)], mv_W2)) rfl ?_
  refine mt_runs 1 (f' := (909, [some (.retAddr 0), some (.ref 0), some (.ref 387), some (.int 0)], [.retAddr 0, .ref 387, .int (-1)], mv_W2)) rfl ?_
  refine mt_runs 1 (f' := (910, [some (.retAddr 0), some (.ref 0), some (.ref 387), some (.int 0)], [.int 0, .retAddr 0, .ref 387, .int (-1)], mv_W2)) rfl ?_
  refine mt_runs 1 (f' := (911, [some (.retAddr 0), some (.ref 0), some (.ref 387), some (.int 0)], [.int 1, .int 0, .retAddr 0, .ref 387, .int (-1)], mv_W2)) rfl ?_
  refine mt_runs 1 (f' := (912, [some (.retAddr 0), some (.ref 0), some (.ref 387), some (.int 0)], [.int 1, .retAddr 0, .ref 387, .int (-1)], mv_W2)) rfl ?_
  refine mt_runs 1 (f' := (913, [some (.retAddr 0), some (.ref 0), some (.ref 387), some (.int 0)], [.int x1, .ref 387, .int (-1)], mv_W2)) rfl ?_
  refine mt_call rfl (fun _ => rfl) ⟨Nat.le_of_ble_eq_true rfl, Nat.le_of_ble_eq_true rfl, rfl⟩ (Nat.le_of_ble_eq_true rfl) ?_
  refine mt_runs 1 (f' := (1, [some (.ref 387), some (.int x1)], [.int x1], mv_W2)) rfl ?_
  refine mu_if (tgt := 11) rfl (by decide) (fun (c4 : ¬ x1.toInt = 0) => ?_) (fun (c4 : ¬ (¬ x1.toInt = 0)) => ?_)
  · refine mt_runs 2 (f' := (13, [some (.ref 387), some (.int x1)], [.int 1, .int x1], mv_W2)) rfl ?_
    refine mu_icmp (tgt := 23) rfl (by decide) (fun (c5 : ¬ x1.toInt = 1) => ?_) (fun (c5 : ¬ (¬ x1.toInt = 1)) => ?_)
    · refine mt_runs 2 (f' := (25, [some (.ref 387), some (.int x1)], [.int 2, .int x1], mv_W2)) rfl ?_
      refine mu_icmp (tgt := 35) rfl (by decide) (fun (c6 : ¬ x1.toInt = 2) => ?_) (fun (c6 : ¬ (¬ x1.toInt = 2)) => ?_)
      · refine mt_runs 1 (f' := (36, [some (.ref 387), some (.int x1)], [.int (-1)], mv_W2)) rfl ?_
        refine mt_ret rfl rfl ?_
        refine mt_runs 1 (f' := (958, [some (.retAddr 0), some (.ref 0), some (.ref 387), some (.int 0)], [], mv_W2)) rfl ?_
        refine mt_runs 1 (f' := (961, [some (.retAddr 0), some (.ref 0), some (.ref 387), some (.int 6)], [], mv_W2)) rfl ?_
        refine mt_runs 1 (f' := (18, [some (.retAddr 0), some (.ref 0), some (.ref 387), some (.int 6)], [], mv_W2)) rfl ?_
        refine mt_runs 1 (f' := (19, [some (.retAddr 0), some (.ref 0), some (.ref 387), some (.int 6)], [.int 6], mv_W2)) rfl ?_
        refine mt_runs 1 (f' := (20, [some (.retAddr 0), some (.ref 0), some (.ref 387), some (.int 6)], [.retAddr 0, .int 6], mv_W2)) rfl ?_
        refine mt_runs 1 (f' := (21, [some (.retAddr 0), some (.ref 0), some (.ref 387), some (.int 6)], [.int 6, .int 6], mv_W2)) rfl ?_
        refine mt_runs 1 (f' := (23, [some (.retAddr 0), some (.ref 0), some (.ref 387), some (.int 6)], [.int 6, .int 6, .int 6], mv_W2)) rfl ?_
        refine mt_runs 1 (f' := (24, [some (.retAddr 0), some (.ref 0), some (.ref 387), some (.int 6)], [.int 0, .int 6], mv_W2)) rfl ?_
        refine mt_runs 1 (f' := (964, [some (.retAddr 0), some (.ref 0), some (.ref 387), some (.int 6)], [], mv_W2)) rfl ?_
        refine mt_runs 1 (f' := (965, [some (.retAddr 0), some (.ref 0), some (.ref 387), some (.int 6)], [.int 1], mv_W2)) rfl ?_
        refine mt_ret rfl rfl ?_
        exact ⟨rfl, Nat.le_of_ble_eq_true rfl, Nat.le_of_ble_eq_true rfl⟩
      · exfalso
        omega
    · exfalso
      omega
  · exfalso
    omega
def mv_k10W : mmW := ((mm_ev mt_P0 100000 20 177 [.ref 0] mv_W2).getD (none, mv_W2)).2
set_option maxRecDepth 1000000 in
theorem mv_k10 : (mm_ev mt_P0 100000 20 177 [.ref 0] mv_W2).map (·.1) = some (some (.int 0)) := by decide +kernel
theorem mv_k10e (xs : List Int32) : mm_ev (mt_P xs) 100000 20 177 [.ref 0] mv_W2 = some (some (.int 0), mv_k10W) := mt_ev0 xs (mv_val mv_k10)
def mv_k11W : mmW := ((mm_ev mt_P0 100000 20 299 [.ref 387] mv_k10W).getD (none, mv_W2)).2
set_option maxRecDepth 1000000 in
theorem mv_k11 : (mm_ev mt_P0 100000 20 299 [.ref 387] mv_k10W).map (·.1) = some (some (.int 0)) := by decide +kernel
theorem mv_k11e (xs : List Int32) : mm_ev (mt_P xs) 100000 20 299 [.ref 387] mv_k10W = some (some (.int 0), mv_k11W) := mt_ev0 xs (mv_val mv_k11)
set_option maxRecDepth 1000000 in
theorem mv_k11Wc : mv_k11W.2.1 ≤ 600000 ∧ mv_k11W.2.2 ≤ 7302250 := by decide +kernel
set_option maxRecDepth 100000 in
set_option maxHeartbeats 4000000 in
theorem mv_op27 (x0 x1 x2 x3 x4 x5 : Int32) : mu_G (mt_P (mv_xs x0 x1 x2 x3 x4 x5)) 20 301 (921, [some (.retAddr 0), some (.ref 0), some (.ref 387), some (.int 0)], [], mv_W2) mv_Q := by
  refine mt_runs 1 (f' := (922, [some (.retAddr 0), some (.ref 0), some (.ref 387), some (.int 0)], [.ref 0], mv_W2)) rfl ?_
  refine mt_callE rfl (fun _ => rfl) ⟨Nat.le_of_ble_eq_true rfl, Nat.le_of_ble_eq_true rfl, rfl⟩ (mv_k10e _) ?_
  refine mt_runs 1 (f' := (926, [some (.retAddr 0), some (.ref 0), some (.ref 387), some (.int 0)], [.ref 387, .int 0], mv_k10W)) rfl ?_
  refine mt_callE rfl (fun _ => rfl) ⟨Nat.le_of_ble_eq_true rfl, Nat.le_of_ble_eq_true rfl, rfl⟩ (mv_k11e _) ?_
  refine mt_runs 1 (f' := (958, [some (.retAddr 0), some (.ref 0), some (.ref 387), some (.int 0)], [], mv_k11W)) rfl ?_
  refine mt_runs 1 (f' := (961, [some (.retAddr 0), some (.ref 0), some (.ref 387), some (.int 6)], [], mv_k11W)) rfl ?_
  refine mt_runs 1 (f' := (18, [some (.retAddr 0), some (.ref 0), some (.ref 387), some (.int 6)], [], mv_k11W)) rfl ?_
  refine mt_runs 1 (f' := (19, [some (.retAddr 0), some (.ref 0), some (.ref 387), some (.int 6)], [.int 6], mv_k11W)) rfl ?_
  refine mt_runs 1 (f' := (20, [some (.retAddr 0), some (.ref 0), some (.ref 387), some (.int 6)], [.retAddr 0, .int 6], mv_k11W)) rfl ?_
  refine mt_runs 1 (f' := (21, [some (.retAddr 0), some (.ref 0), some (.ref 387), some (.int 6)], [.int 6, .int 6], mv_k11W)) rfl ?_
  refine mt_runs 1 (f' := (23, [some (.retAddr 0), some (.ref 0), some (.ref 387), some (.int 6)], [.int 6, .int 6, .int 6], mv_k11W)) rfl ?_
  refine mt_runs 1 (f' := (24, [some (.retAddr 0), some (.ref 0), some (.ref 387), some (.int 6)], [.int 0, .int 6], mv_k11W)) rfl ?_
  refine mt_runs 1 (f' := (964, [some (.retAddr 0), some (.ref 0), some (.ref 387), some (.int 6)], [], mv_k11W)) rfl ?_
  refine mt_runs 1 (f' := (965, [some (.retAddr 0), some (.ref 0), some (.ref 387), some (.int 6)], [.int 1], mv_k11W)) rfl ?_
  refine mt_ret rfl rfl ?_
  exact ⟨rfl, mv_k11Wc⟩
set_option maxRecDepth 100000 in
set_option maxHeartbeats 4000000 in
theorem mv_op28 (x0 x1 x2 x3 x4 x5 : Int32) : mu_G (mt_P (mv_xs x0 x1 x2 x3 x4 x5)) 20 301 (934, [some (.retAddr 0), some (.ref 0), some (.ref 387), some (.int 0)], [], mv_W2) mv_Q := by
  refine mt_runs 1 (f' := (935, [some (.retAddr 0), some (.ref 0), some (.ref 387), some (.int 0)], [.ref 0], mv_W2)) rfl ?_
  refine mt_runs 1 (f' := (936, [some (.retAddr 0), some (.ref 0), some (.ref 387), some (.int 0)], [.retAddr 0, .ref 0], mv_W2)) rfl ?_
  refine mt_runs 1 (f' := (937, [some (.retAddr 0), some (.ref 0), some (.ref 387), some (.int 0)], [.int 0, .retAddr 0, .ref 0], mv_W2)) rfl ?_
  refine mt_runs 1 (f' := (938, [some (.retAddr 0), some (.ref 0), some (.ref 387), some (.int 0)], [.int 1, .int 0, .retAddr 0, .ref 0], mv_W2)) rfl ?_
  refine mt_runs 1 (f' := (939, [some (.retAddr 0), some (.ref 0), some (.ref 387), some (.int 0)], [.int 1, .retAddr 0, .ref 0], mv_W2)) rfl ?_
  refine mt_runs 1 (f' := (940, [some (.retAddr 0), some (.ref 0), some (.ref 387), some (.int 0)], [.int x1, .ref 0], mv_W2)) rfl ?_
  refine mt_call rfl (fun _ => rfl) ⟨Nat.le_of_ble_eq_true rfl, Nat.le_of_ble_eq_true rfl, rfl⟩ (Nat.le_of_ble_eq_true rfl) ?_
  refine mt_runs 9 (f' := (63, [some (.ref 0), some (.int x1), some (.long 0), none, some (.int 0)], [.long 0], mv_W2)) rfl ?_
  refine mt_ret rfl rfl ?_
  refine mt_runs 1 (f' := (944, [some (.retAddr 0), some (.ref 0), some (.ref 387), some (.int 0)], [.ref 387, .long 0], mv_W2)) rfl ?_
  refine mt_runs 1 (f' := (945, [some (.retAddr 0), some (.ref 0), some (.ref 387), some (.int 0)], [.retAddr 0, .ref 387, .long 0], mv_W2)) rfl ?_
  refine mt_runs 1 (f' := (946, [some (.retAddr 0), some (.ref 0), some (.ref 387), some (.int 0)], [.int 0, .retAddr 0, .ref 387, .long 0], mv_W2)) rfl ?_
  refine mt_runs 1 (f' := (947, [some (.retAddr 0), some (.ref 0), some (.ref 387), some (.int 0)], [.int 1, .int 0, .retAddr 0, .ref 387, .long 0], mv_W2)) rfl ?_
  refine mt_runs 1 (f' := (948, [some (.retAddr 0), some (.ref 0), some (.ref 387), some (.int 0)], [.int 1, .retAddr 0, .ref 387, .long 0], mv_W2)) rfl ?_
  refine mt_runs 1 (f' := (949, [some (.retAddr 0), some (.ref 0), some (.ref 387), some (.int 0)], [.int x1, .ref 387, .long 0], mv_W2)) rfl ?_
  refine mt_call rfl (fun _ => rfl) ⟨Nat.le_of_ble_eq_true rfl, Nat.le_of_ble_eq_true rfl, rfl⟩ (Nat.le_of_ble_eq_true rfl) ?_
  refine mt_runs 9 (f' := (51, [some (.ref 387), some (.int x1), some (.long 0), none, some (.int 0)], [.long 0], mv_W2)) rfl ?_
  refine mt_ret rfl rfl ?_
  refine mt_runs 1 (f' := (953, [some (.retAddr 0), some (.ref 0), some (.ref 387), some (.int 0)], [.int 0], mv_W2)) rfl ?_
  refine mt_runs 1 (f' := (958, [some (.retAddr 0), some (.ref 0), some (.ref 387), some (.int 0)], [], mv_W2)) rfl ?_
  refine mt_runs 1 (f' := (961, [some (.retAddr 0), some (.ref 0), some (.ref 387), some (.int 6)], [], mv_W2)) rfl ?_
  refine mt_runs 1 (f' := (18, [some (.retAddr 0), some (.ref 0), some (.ref 387), some (.int 6)], [], mv_W2)) rfl ?_
  refine mt_runs 1 (f' := (19, [some (.retAddr 0), some (.ref 0), some (.ref 387), some (.int 6)], [.int 6], mv_W2)) rfl ?_
  refine mt_runs 1 (f' := (20, [some (.retAddr 0), some (.ref 0), some (.ref 387), some (.int 6)], [.retAddr 0, .int 6], mv_W2)) rfl ?_
  refine mt_runs 1 (f' := (21, [some (.retAddr 0), some (.ref 0), some (.ref 387), some (.int 6)], [.int 6, .int 6], mv_W2)) rfl ?_
  refine mt_runs 1 (f' := (23, [some (.retAddr 0), some (.ref 0), some (.ref 387), some (.int 6)], [.int 6, .int 6, .int 6], mv_W2)) rfl ?_
  refine mt_runs 1 (f' := (24, [some (.retAddr 0), some (.ref 0), some (.ref 387), some (.int 6)], [.int 0, .int 6], mv_W2)) rfl ?_
  refine mt_runs 1 (f' := (964, [some (.retAddr 0), some (.ref 0), some (.ref 387), some (.int 6)], [], mv_W2)) rfl ?_
  refine mt_runs 1 (f' := (965, [some (.retAddr 0), some (.ref 0), some (.ref 387), some (.int 6)], [.int 1], mv_W2)) rfl ?_
  refine mt_ret rfl rfl ?_
  exact ⟨rfl, Nat.le_of_ble_eq_true rfl, Nat.le_of_ble_eq_true rfl⟩
set_option maxRecDepth 100000 in
set_option maxHeartbeats 4000000 in
theorem mv_opd (x0 x1 x2 x3 x4 x5 : Int32) : mu_G (mt_P (mv_xs x0 x1 x2 x3 x4 x5)) 20 301 (958, [some (.retAddr 0), some (.ref 0), some (.ref 387), some (.int 0)], [], mv_W2) mv_Q := by
  refine mt_runs 1 (f' := (961, [some (.retAddr 0), some (.ref 0), some (.ref 387), some (.int 6)], [], mv_W2)) rfl ?_
  refine mt_runs 1 (f' := (18, [some (.retAddr 0), some (.ref 0), some (.ref 387), some (.int 6)], [], mv_W2)) rfl ?_
  refine mt_runs 1 (f' := (19, [some (.retAddr 0), some (.ref 0), some (.ref 387), some (.int 6)], [.int 6], mv_W2)) rfl ?_
  refine mt_runs 1 (f' := (20, [some (.retAddr 0), some (.ref 0), some (.ref 387), some (.int 6)], [.retAddr 0, .int 6], mv_W2)) rfl ?_
  refine mt_runs 1 (f' := (21, [some (.retAddr 0), some (.ref 0), some (.ref 387), some (.int 6)], [.int 6, .int 6], mv_W2)) rfl ?_
  refine mt_runs 1 (f' := (23, [some (.retAddr 0), some (.ref 0), some (.ref 387), some (.int 6)], [.int 6, .int 6, .int 6], mv_W2)) rfl ?_
  refine mt_runs 1 (f' := (24, [some (.retAddr 0), some (.ref 0), some (.ref 387), some (.int 6)], [.int 0, .int 6], mv_W2)) rfl ?_
  refine mt_runs 1 (f' := (964, [some (.retAddr 0), some (.ref 0), some (.ref 387), some (.int 6)], [], mv_W2)) rfl ?_
  refine mt_runs 1 (f' := (965, [some (.retAddr 0), some (.ref 0), some (.ref 387), some (.int 6)], [.int 1], mv_W2)) rfl ?_
  refine mt_ret rfl rfl ?_
  exact ⟨rfl, Nat.le_of_ble_eq_true rfl, Nat.le_of_ble_eq_true rfl⟩
