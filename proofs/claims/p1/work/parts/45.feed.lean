/-! further: laid by wip/whole/p1gen.py -/
section MPX
variable {P : mmP} {pc : Nat} {ls : mmL} {st : List Value} {w : mmW} {k d : Nat} {Q : mmO → Prop}
theorem mu_putX {i a b t x : Nat} {vs : List Value} {v : Value} (hc : P.1 k pc = some (.putfield i, a, b, t)) (hw : w.1[x]? = some (.inr a, vs)) (hb : b < vs.length) (hf : mm_fit t v = true) (g : ∀ w' : mmW, w'.1[x]? = some (.inr a, vs.set b v) → (∀ y c, x ≠ y → w.1[y]? = some c → w'.1[y]? = some c) → w'.2 = w.2 → mu_G P d k (pc + 3, ls, st, w') Q) : mu_G P d k (pc, ls, v :: .ref x :: st, w) Q :=
  mu_put hc hw hb hf (g _ (mm_getS hw) (fun _ _ h e => mm_getN h e) rfl)
theorem mu_iastL {x : Nat} {vs : List Value} {v : Int32} {i : Int32} {z : Nat × Nat × Nat} {n m : Nat} (hc : P.1 k pc = some (.iastore, z)) (hw : w.1[x]? = some (.inl 0, vs)) (hn : i.toNatClampNeg = n) (h0 : ¬ i < 0) (hl : vs.length = m) (hm : n < m) (g : ∀ (w' : mmW) (vs' : List Value), w'.1[x]? = some (.inl 0, vs') → vs'.length = m → (∀ y c, x ≠ y → w.1[y]? = some c → w'.1[y]? = some c) → w'.2 = w.2 → mu_G P d k (pc + 1, ls, st, w') Q) : mu_G P d k (pc, ls, .int v :: .int i :: .ref x :: st, w) Q :=
  mu_iast hc hw hn h0 (hl ▸ hm) (g _ _ (mm_getS hw) (by rw [List.length_set]; exact hl) (fun _ _ h e => mm_getN h e) rfl)
theorem mm_recvF {c x : Nat} {vs as : List Value} (h : w.1[x]? = some (.inr c, vs)) : mm_recv P (c + 2) w (.ref x :: as) = true := by
  simp [mm_recv, mm_cell, h]
end MPX
set_option maxRecDepth 100000 in
theorem mv_b1 : mv_W2.1[1]? = some (.inr 1, [.ref 2, .int 0, .ref 3, .ref 4, .ref 5, .int 0, .ref 6]) := rfl
set_option maxRecDepth 100000 in
theorem mv_b2 : mv_W2.1[2]? = some (.inl 0, List.replicate 1000 (.int 0)) := rfl
set_option maxRecDepth 100000 in
theorem mv_b388 : mv_W2.1[388]? = some (.inl 0, List.replicate 1000 (.int 0)) := rfl
set_option maxRecDepth 100000 in
set_option maxHeartbeats 4000000 in
theorem mv_op0 (x0 x1 x2 x3 x4 x5 : Int32) : mu_G (mt_P (mv_xs x0 x1 x2 x3 x4 x5)) 20 301 (164, [some (.retAddr 0), some (.ref 0), some (.ref 387), some (.int 0)], [], mv_W2) mv_Q := by
  have b0 := mv_b0
  have b1 := mv_b1
  have b2 := mv_b2
  have b387 := mv_b387
  have b388 := mv_b388
  have l2 : (List.replicate 1000 (.int 0) : List Value).length = 1000 := List.length_replicate
  have l388 : (List.replicate 1000 (.int 0) : List Value).length = 1000 := List.length_replicate
  have hC : mv_W2.2 = mv_W2.2 := rfl
  refine mt_runs 26 (f' := (190, [some (.retAddr 0), some (.ref 0), some (.ref 387), some (.int 0)], [.int x5, .int x4, .int x3, .int x2, .int x1, .ref 0], _)) rfl ?_
  refine mt_call rfl (fun _ => rfl) ⟨Nat.le_of_ble_eq_true rfl, Nat.le_of_ble_eq_true rfl, mm_recvF b0⟩ (Nat.le_of_ble_eq_true rfl) ?_
  refine mt_runs 1 (f' := (1, [some (.ref 0), some (.int x1), some (.int x2), some (.int x3), some (.int x4), some (.int x5)], [.ref 0], _)) rfl ?_
  refine mu_get rfl b0 rfl ?_
  refine mu_get rfl b1 rfl ?_
  refine mt_runs 5 (f' := (19, [some (.ref 0), some (.int x1), some (.int x2), some (.int x3), some (.int x4), some (.int x5)], [.ref 0], _)) rfl ?_
  refine mu_get rfl b0 rfl ?_
  refine mt_runs 1 (f' := (23, [some (.ref 0), some (.int x1), some (.int x2), some (.int x3), some (.int x4), some (.int x5)], [.int x1, .ref 1], _)) rfl ?_
  refine mt_call rfl (fun _ => rfl) ⟨Nat.le_of_ble_eq_true rfl, Nat.le_of_ble_eq_true rfl, mm_recvF b1⟩ (Nat.le_of_ble_eq_true rfl) ?_
  refine mt_runs 5 (f' := (8, [some (.ref 1), some (.int x1), some (.int 24)], [.ref 1], _)) rfl ?_
  refine mu_get rfl b1 rfl ?_
  refine mt_runs 3 (f' := (18, [some (.ref 1), some (.int x1), some (.int 24)], [.ref 1], _)) rfl ?_
  refine mu_get rfl b1 rfl ?_
  refine mt_runs 1 (f' := (22, [some (.ref 1), some (.int x1), some (.int 24)], [.ref 1, .ref 2], _)) rfl ?_
  refine mu_get rfl b1 rfl ?_
  refine mt_runs 5 (f' := (32, [some (.ref 1), some (.int x1), some (.int 24)], [.int (((x1).toUInt32 >>> (((24) : Int32).toUInt32 &&& Int32.toUInt32 31)).toInt32 &&& (255)), .int 0, .ref 2], _)) rfl ?_
  refine mu_iastL (n := 0) (m := 1000) rfl b2 (by decide) (by decide) l2 (by decide) (fun w v hs hl hn hc => ?_)
  have b2 := hs; have l2 := hl
  have b0 := hn 0 _ (by decide) b0
  have b1 := hn 1 _ (by decide) b1
  have b387 := hn 387 _ (by decide) b387
  have b388 := hn 388 _ (by decide) b388
  have hC := hc.trans hC
  refine mt_runs 2 (f' := (35, [some (.ref 1), some (.int x1), some (.int 24)], [.ref 1, .ref 1], _)) rfl ?_
  refine mu_get rfl b1 rfl ?_
  refine mt_runs 2 (f' := (40, [some (.ref 1), some (.int x1), some (.int 24)], [.int 1, .ref 1], _)) rfl ?_
  refine mu_putX rfl b1 (Nat.le_of_ble_eq_true rfl) rfl (fun w hs hn hc => ?_)
  have b1 : w.1[1]? = some (.inr 1, [.ref 2, .int 1, .ref 3, .ref 4, .ref 5, .int 0, .ref 6]) := hs
  have b0 := hn 0 _ (by decide) b0
  have b2 := hn 2 _ (by decide) b2
  have b387 := hn 387 _ (by decide) b387
  have b388 := hn 388 _ (by decide) b388
  have hC := hc.trans hC
  refine mt_runs 5 (f' := (8, [some (.ref 1), some (.int x1), some (.int 16)], [.ref 1], _)) rfl ?_
  refine mu_get rfl b1 rfl ?_
  refine mt_runs 3 (f' := (18, [some (.ref 1), some (.int x1), some (.int 16)], [.ref 1], _)) rfl ?_
  refine mu_get rfl b1 rfl ?_
  refine mt_runs 1 (f' := (22, [some (.ref 1), some (.int x1), some (.int 16)], [.ref 1, .ref 2], _)) rfl ?_
  refine mu_get rfl b1 rfl ?_
  refine mt_runs 5 (f' := (32, [some (.ref 1), some (.int x1), some (.int 16)], [.int (((x1).toUInt32 >>> (((16) : Int32).toUInt32 &&& Int32.toUInt32 31)).toInt32 &&& (255)), .int 1, .ref 2], _)) rfl ?_
  refine mu_iastL (n := 1) (m := 1000) rfl b2 (by decide) (by decide) l2 (by decide) (fun w v hs hl hn hc => ?_)
  have b2 := hs; have l2 := hl
  have b0 := hn 0 _ (by decide) b0
  have b1 := hn 1 _ (by decide) b1
  have b387 := hn 387 _ (by decide) b387
  have b388 := hn 388 _ (by decide) b388
  have hC := hc.trans hC
  refine mt_runs 2 (f' := (35, [some (.ref 1), some (.int x1), some (.int 16)], [.ref 1, .ref 1], _)) rfl ?_
  refine mu_get rfl b1 rfl ?_
  refine mt_runs 2 (f' := (40, [some (.ref 1), some (.int x1), some (.int 16)], [.int 2, .ref 1], _)) rfl ?_
  refine mu_putX rfl b1 (Nat.le_of_ble_eq_true rfl) rfl (fun w hs hn hc => ?_)
  have b1 : w.1[1]? = some (.inr 1, [.ref 2, .int 2, .ref 3, .ref 4, .ref 5, .int 0, .ref 6]) := hs
  have b0 := hn 0 _ (by decide) b0
  have b2 := hn 2 _ (by decide) b2
  have b387 := hn 387 _ (by decide) b387
  have b388 := hn 388 _ (by decide) b388
  have hC := hc.trans hC
  refine mt_runs 5 (f' := (8, [some (.ref 1), some (.int x1), some (.int 8)], [.ref 1], _)) rfl ?_
  refine mu_get rfl b1 rfl ?_
  refine mt_runs 3 (f' := (18, [some (.ref 1), some (.int x1), some (.int 8)], [.ref 1], _)) rfl ?_
  refine mu_get rfl b1 rfl ?_
  refine mt_runs 1 (f' := (22, [some (.ref 1), some (.int x1), some (.int 8)], [.ref 1, .ref 2], _)) rfl ?_
  refine mu_get rfl b1 rfl ?_
  refine mt_runs 5 (f' := (32, [some (.ref 1), some (.int x1), some (.int 8)], [.int (((x1).toUInt32 >>> (((8) : Int32).toUInt32 &&& Int32.toUInt32 31)).toInt32 &&& (255)), .int 2, .ref 2], _)) rfl ?_
  refine mu_iastL (n := 2) (m := 1000) rfl b2 (by decide) (by decide) l2 (by decide) (fun w v hs hl hn hc => ?_)
  have b2 := hs; have l2 := hl
  have b0 := hn 0 _ (by decide) b0
  have b1 := hn 1 _ (by decide) b1
  have b387 := hn 387 _ (by decide) b387
  have b388 := hn 388 _ (by decide) b388
  have hC := hc.trans hC
  refine mt_runs 2 (f' := (35, [some (.ref 1), some (.int x1), some (.int 8)], [.ref 1, .ref 1], _)) rfl ?_
  refine mu_get rfl b1 rfl ?_
  refine mt_runs 2 (f' := (40, [some (.ref 1), some (.int x1), some (.int 8)], [.int 3, .ref 1], _)) rfl ?_
  refine mu_putX rfl b1 (Nat.le_of_ble_eq_true rfl) rfl (fun w hs hn hc => ?_)
  have b1 : w.1[1]? = some (.inr 1, [.ref 2, .int 3, .ref 3, .ref 4, .ref 5, .int 0, .ref 6]) := hs
  have b0 := hn 0 _ (by decide) b0
  have b2 := hn 2 _ (by decide) b2
  have b387 := hn 387 _ (by decide) b387
  have b388 := hn 388 _ (by decide) b388
  have hC := hc.trans hC
  refine mt_runs 5 (f' := (8, [some (.ref 1), some (.int x1), some (.int 0)], [.ref 1], _)) rfl ?_
  refine mu_get rfl b1 rfl ?_
  refine mt_runs 3 (f' := (18, [some (.ref 1), some (.int x1), some (.int 0)], [.ref 1], _)) rfl ?_
  refine mu_get rfl b1 rfl ?_
  refine mt_runs 1 (f' := (22, [some (.ref 1), some (.int x1), some (.int 0)], [.ref 1, .ref 2], _)) rfl ?_
  refine mu_get rfl b1 rfl ?_
  refine mt_runs 5 (f' := (32, [some (.ref 1), some (.int x1), some (.int 0)], [.int (((x1).toUInt32 >>> (((0) : Int32).toUInt32 &&& Int32.toUInt32 31)).toInt32 &&& (255)), .int 3, .ref 2], _)) rfl ?_
  refine mu_iastL (n := 3) (m := 1000) rfl b2 (by decide) (by decide) l2 (by decide) (fun w v hs hl hn hc => ?_)
  have b2 := hs; have l2 := hl
  have b0 := hn 0 _ (by decide) b0
  have b1 := hn 1 _ (by decide) b1
  have b387 := hn 387 _ (by decide) b387
  have b388 := hn 388 _ (by decide) b388
  have hC := hc.trans hC
  refine mt_runs 2 (f' := (35, [some (.ref 1), some (.int x1), some (.int 0)], [.ref 1, .ref 1], _)) rfl ?_
  refine mu_get rfl b1 rfl ?_
  refine mt_runs 2 (f' := (40, [some (.ref 1), some (.int x1), some (.int 0)], [.int 4, .ref 1], _)) rfl ?_
  refine mu_putX rfl b1 (Nat.le_of_ble_eq_true rfl) rfl (fun w hs hn hc => ?_)
  have b1 : w.1[1]? = some (.inr 1, [.ref 2, .int 4, .ref 3, .ref 4, .ref 5, .int 0, .ref 6]) := hs
  have b0 := hn 0 _ (by decide) b0
  have b2 := hn 2 _ (by decide) b2
  have b387 := hn 387 _ (by decide) b387
  have b388 := hn 388 _ (by decide) b388
  have hC := hc.trans hC
  refine mt_runs 4 (f' := (49, [some (.ref 1), some (.int x1), some (.int (-8))], [], _)) rfl ?_
  refine mt_ret rfl rfl ?_
  refine mt_runs 1 (f' := (27, [some (.ref 0), some (.int x1), some (.int x2), some (.int x3), some (.int x4), some (.int x5)], [.ref 0], _)) rfl ?_
  refine mu_get rfl b0 rfl ?_
  refine mt_runs 1 (f' := (31, [some (.ref 0), some (.int x1), some (.int x2), some (.int x3), some (.int x4), some (.int x5)], [.int x2, .ref 1], _)) rfl ?_
  refine mt_call rfl (fun _ => rfl) ⟨Nat.le_of_ble_eq_true rfl, Nat.le_of_ble_eq_true rfl, mm_recvF b1⟩ (Nat.le_of_ble_eq_true rfl) ?_
  refine mt_runs 5 (f' := (8, [some (.ref 1), some (.int x2), some (.int 24)], [.ref 1], _)) rfl ?_
  refine mu_get rfl b1 rfl ?_
  refine mt_runs 3 (f' := (18, [some (.ref 1), some (.int x2), some (.int 24)], [.ref 1], _)) rfl ?_
  refine mu_get rfl b1 rfl ?_
  refine mt_runs 1 (f' := (22, [some (.ref 1), some (.int x2), some (.int 24)], [.ref 1, .ref 2], _)) rfl ?_
  refine mu_get rfl b1 rfl ?_
  refine mt_runs 5 (f' := (32, [some (.ref 1), some (.int x2), some (.int 24)], [.int (((x2).toUInt32 >>> (((24) : Int32).toUInt32 &&& Int32.toUInt32 31)).toInt32 &&& (255)), .int 4, .ref 2], _)) rfl ?_
  refine mu_iastL (n := 4) (m := 1000) rfl b2 (by decide) (by decide) l2 (by decide) (fun w v hs hl hn hc => ?_)
  have b2 := hs; have l2 := hl
  have b0 := hn 0 _ (by decide) b0
  have b1 := hn 1 _ (by decide) b1
  have b387 := hn 387 _ (by decide) b387
  have b388 := hn 388 _ (by decide) b388
  have hC := hc.trans hC
  refine mt_runs 2 (f' := (35, [some (.ref 1), some (.int x2), some (.int 24)], [.ref 1, .ref 1], _)) rfl ?_
  refine mu_get rfl b1 rfl ?_
  refine mt_runs 2 (f' := (40, [some (.ref 1), some (.int x2), some (.int 24)], [.int 5, .ref 1], _)) rfl ?_
  refine mu_putX rfl b1 (Nat.le_of_ble_eq_true rfl) rfl (fun w hs hn hc => ?_)
  have b1 : w.1[1]? = some (.inr 1, [.ref 2, .int 5, .ref 3, .ref 4, .ref 5, .int 0, .ref 6]) := hs
  have b0 := hn 0 _ (by decide) b0
  have b2 := hn 2 _ (by decide) b2
  have b387 := hn 387 _ (by decide) b387
  have b388 := hn 388 _ (by decide) b388
  have hC := hc.trans hC
  refine mt_runs 5 (f' := (8, [some (.ref 1), some (.int x2), some (.int 16)], [.ref 1], _)) rfl ?_
  refine mu_get rfl b1 rfl ?_
  refine mt_runs 3 (f' := (18, [some (.ref 1), some (.int x2), some (.int 16)], [.ref 1], _)) rfl ?_
  refine mu_get rfl b1 rfl ?_
  refine mt_runs 1 (f' := (22, [some (.ref 1), some (.int x2), some (.int 16)], [.ref 1, .ref 2], _)) rfl ?_
  refine mu_get rfl b1 rfl ?_
  refine mt_runs 5 (f' := (32, [some (.ref 1), some (.int x2), some (.int 16)], [.int (((x2).toUInt32 >>> (((16) : Int32).toUInt32 &&& Int32.toUInt32 31)).toInt32 &&& (255)), .int 5, .ref 2], _)) rfl ?_
  refine mu_iastL (n := 5) (m := 1000) rfl b2 (by decide) (by decide) l2 (by decide) (fun w v hs hl hn hc => ?_)
  have b2 := hs; have l2 := hl
  have b0 := hn 0 _ (by decide) b0
  have b1 := hn 1 _ (by decide) b1
  have b387 := hn 387 _ (by decide) b387
  have b388 := hn 388 _ (by decide) b388
  have hC := hc.trans hC
  refine mt_runs 2 (f' := (35, [some (.ref 1), some (.int x2), some (.int 16)], [.ref 1, .ref 1], _)) rfl ?_
  refine mu_get rfl b1 rfl ?_
  refine mt_runs 2 (f' := (40, [some (.ref 1), some (.int x2), some (.int 16)], [.int 6, .ref 1], _)) rfl ?_
  refine mu_putX rfl b1 (Nat.le_of_ble_eq_true rfl) rfl (fun w hs hn hc => ?_)
  have b1 : w.1[1]? = some (.inr 1, [.ref 2, .int 6, .ref 3, .ref 4, .ref 5, .int 0, .ref 6]) := hs
  have b0 := hn 0 _ (by decide) b0
  have b2 := hn 2 _ (by decide) b2
  have b387 := hn 387 _ (by decide) b387
  have b388 := hn 388 _ (by decide) b388
  have hC := hc.trans hC
  refine mt_runs 5 (f' := (8, [some (.ref 1), some (.int x2), some (.int 8)], [.ref 1], _)) rfl ?_
  refine mu_get rfl b1 rfl ?_
  refine mt_runs 3 (f' := (18, [some (.ref 1), some (.int x2), some (.int 8)], [.ref 1], _)) rfl ?_
  refine mu_get rfl b1 rfl ?_
  refine mt_runs 1 (f' := (22, [some (.ref 1), some (.int x2), some (.int 8)], [.ref 1, .ref 2], _)) rfl ?_
  refine mu_get rfl b1 rfl ?_
  refine mt_runs 5 (f' := (32, [some (.ref 1), some (.int x2), some (.int 8)], [.int (((x2).toUInt32 >>> (((8) : Int32).toUInt32 &&& Int32.toUInt32 31)).toInt32 &&& (255)), .int 6, .ref 2], _)) rfl ?_
  refine mu_iastL (n := 6) (m := 1000) rfl b2 (by decide) (by decide) l2 (by decide) (fun w v hs hl hn hc => ?_)
  have b2 := hs; have l2 := hl
  have b0 := hn 0 _ (by decide) b0
  have b1 := hn 1 _ (by decide) b1
  have b387 := hn 387 _ (by decide) b387
  have b388 := hn 388 _ (by decide) b388
  have hC := hc.trans hC
  refine mt_runs 2 (f' := (35, [some (.ref 1), some (.int x2), some (.int 8)], [.ref 1, .ref 1], _)) rfl ?_
  refine mu_get rfl b1 rfl ?_
  refine mt_runs 2 (f' := (40, [some (.ref 1), some (.int x2), some (.int 8)], [.int 7, .ref 1], _)) rfl ?_
  refine mu_putX rfl b1 (Nat.le_of_ble_eq_true rfl) rfl (fun w hs hn hc => ?_)
  have b1 : w.1[1]? = some (.inr 1, [.ref 2, .int 7, .ref 3, .ref 4, .ref 5, .int 0, .ref 6]) := hs
  have b0 := hn 0 _ (by decide) b0
  have b2 := hn 2 _ (by decide) b2
  have b387 := hn 387 _ (by decide) b387
  have b388 := hn 388 _ (by decide) b388
  have hC := hc.trans hC
  refine mt_runs 5 (f' := (8, [some (.ref 1), some (.int x2), some (.int 0)], [.ref 1], _)) rfl ?_
  refine mu_get rfl b1 rfl ?_
  refine mt_runs 3 (f' := (18, [some (.ref 1), some (.int x2), some (.int 0)], [.ref 1], _)) rfl ?_
  refine mu_get rfl b1 rfl ?_
  refine mt_runs 1 (f' := (22, [some (.ref 1), some (.int x2), some (.int 0)], [.ref 1, .ref 2], _)) rfl ?_
  refine mu_get rfl b1 rfl ?_
  refine mt_runs 5 (f' := (32, [some (.ref 1), some (.int x2), some (.int 0)], [.int (((x2).toUInt32 >>> (((0) : Int32).toUInt32 &&& Int32.toUInt32 31)).toInt32 &&& (255)), .int 7, .ref 2], _)) rfl ?_
  refine mu_iastL (n := 7) (m := 1000) rfl b2 (by decide) (by decide) l2 (by decide) (fun w v hs hl hn hc => ?_)
  have b2 := hs; have l2 := hl
  have b0 := hn 0 _ (by decide) b0
  have b1 := hn 1 _ (by decide) b1
  have b387 := hn 387 _ (by decide) b387
  have b388 := hn 388 _ (by decide) b388
  have hC := hc.trans hC
  refine mt_runs 2 (f' := (35, [some (.ref 1), some (.int x2), some (.int 0)], [.ref 1, .ref 1], _)) rfl ?_
  refine mu_get rfl b1 rfl ?_
  refine mt_runs 2 (f' := (40, [some (.ref 1), some (.int x2), some (.int 0)], [.int 8, .ref 1], _)) rfl ?_
  refine mu_putX rfl b1 (Nat.le_of_ble_eq_true rfl) rfl (fun w hs hn hc => ?_)
  have b1 : w.1[1]? = some (.inr 1, [.ref 2, .int 8, .ref 3, .ref 4, .ref 5, .int 0, .ref 6]) := hs
  have b0 := hn 0 _ (by decide) b0
  have b2 := hn 2 _ (by decide) b2
  have b387 := hn 387 _ (by decide) b387
  have b388 := hn 388 _ (by decide) b388
  have hC := hc.trans hC
  refine mt_runs 4 (f' := (49, [some (.ref 1), some (.int x2), some (.int (-8))], [], _)) rfl ?_
  refine mt_ret rfl rfl ?_
  refine mt_runs 1 (f' := (35, [some (.ref 0), some (.int x1), some (.int x2), some (.int x3), some (.int x4), some (.int x5)], [.ref 0], _)) rfl ?_
  refine mu_get rfl b0 rfl ?_
  refine mt_runs 1 (f' := (39, [some (.ref 0), some (.int x1), some (.int x2), some (.int x3), some (.int x4), some (.int x5)], [.int x3, .ref 1], _)) rfl ?_
  refine mt_call rfl (fun _ => rfl) ⟨Nat.le_of_ble_eq_true rfl, Nat.le_of_ble_eq_true rfl, mm_recvF b1⟩ (Nat.le_of_ble_eq_true rfl) ?_
  refine mt_runs 5 (f' := (8, [some (.ref 1), some (.int x3), some (.int 24)], [.ref 1], _)) rfl ?_
  refine mu_get rfl b1 rfl ?_
  refine mt_runs 3 (f' := (18, [some (.ref 1), some (.int x3), some (.int 24)], [.ref 1], _)) rfl ?_
  refine mu_get rfl b1 rfl ?_
  refine mt_runs 1 (f' := (22, [some (.ref 1), some (.int x3), some (.int 24)], [.ref 1, .ref 2], _)) rfl ?_
  refine mu_get rfl b1 rfl ?_
  refine mt_runs 5 (f' := (32, [some (.ref 1), some (.int x3), some (.int 24)], [.int (((x3).toUInt32 >>> (((24) : Int32).toUInt32 &&& Int32.toUInt32 31)).toInt32 &&& (255)), .int 8, .ref 2], _)) rfl ?_
  refine mu_iastL (n := 8) (m := 1000) rfl b2 (by decide) (by decide) l2 (by decide) (fun w v hs hl hn hc => ?_)
  have b2 := hs; have l2 := hl
  have b0 := hn 0 _ (by decide) b0
  have b1 := hn 1 _ (by decide) b1
  have b387 := hn 387 _ (by decide) b387
  have b388 := hn 388 _ (by decide) b388
  have hC := hc.trans hC
  refine mt_runs 2 (f' := (35, [some (.ref 1), some (.int x3), some (.int 24)], [.ref 1, .ref 1], _)) rfl ?_
  refine mu_get rfl b1 rfl ?_
  refine mt_runs 2 (f' := (40, [some (.ref 1), some (.int x3), some (.int 24)], [.int 9, .ref 1], _)) rfl ?_
  refine mu_putX rfl b1 (Nat.le_of_ble_eq_true rfl) rfl (fun w hs hn hc => ?_)
  have b1 : w.1[1]? = some (.inr 1, [.ref 2, .int 9, .ref 3, .ref 4, .ref 5, .int 0, .ref 6]) := hs
  have b0 := hn 0 _ (by decide) b0
  have b2 := hn 2 _ (by decide) b2
  have b387 := hn 387 _ (by decide) b387
  have b388 := hn 388 _ (by decide) b388
  have hC := hc.trans hC
  refine mt_runs 5 (f' := (8, [some (.ref 1), some (.int x3), some (.int 16)], [.ref 1], _)) rfl ?_
  refine mu_get rfl b1 rfl ?_
  refine mt_runs 3 (f' := (18, [some (.ref 1), some (.int x3), some (.int 16)], [.ref 1], _)) rfl ?_
  refine mu_get rfl b1 rfl ?_
  refine mt_runs 1 (f' := (22, [some (.ref 1), some (.int x3), some (.int 16)], [.ref 1, .ref 2], _)) rfl ?_
  refine mu_get rfl b1 rfl ?_
  refine mt_runs 5 (f' := (32, [some (.ref 1), some (.int x3), some (.int 16)], [.int (((x3).toUInt32 >>> (((16) : Int32).toUInt32 &&& Int32.toUInt32 31)).toInt32 &&& (255)), .int 9, .ref 2], _)) rfl ?_
  refine mu_iastL (n := 9) (m := 1000) rfl b2 (by decide) (by decide) l2 (by decide) (fun w v hs hl hn hc => ?_)
  have b2 := hs; have l2 := hl
  have b0 := hn 0 _ (by decide) b0
  have b1 := hn 1 _ (by decide) b1
  have b387 := hn 387 _ (by decide) b387
  have b388 := hn 388 _ (by decide) b388
  have hC := hc.trans hC
  refine mt_runs 2 (f' := (35, [some (.ref 1), some (.int x3), some (.int 16)], [.ref 1, .ref 1], _)) rfl ?_
  refine mu_get rfl b1 rfl ?_
  refine mt_runs 2 (f' := (40, [some (.ref 1), some (.int x3), some (.int 16)], [.int 10, .ref 1], _)) rfl ?_
  refine mu_putX rfl b1 (Nat.le_of_ble_eq_true rfl) rfl (fun w hs hn hc => ?_)
  have b1 : w.1[1]? = some (.inr 1, [.ref 2, .int 10, .ref 3, .ref 4, .ref 5, .int 0, .ref 6]) := hs
  have b0 := hn 0 _ (by decide) b0
  have b2 := hn 2 _ (by decide) b2
  have b387 := hn 387 _ (by decide) b387
  have b388 := hn 388 _ (by decide) b388
  have hC := hc.trans hC
  refine mt_runs 5 (f' := (8, [some (.ref 1), some (.int x3), some (.int 8)], [.ref 1], _)) rfl ?_
  refine mu_get rfl b1 rfl ?_
  refine mt_runs 3 (f' := (18, [some (.ref 1), some (.int x3), some (.int 8)], [.ref 1], _)) rfl ?_
  refine mu_get rfl b1 rfl ?_
  refine mt_runs 1 (f' := (22, [some (.ref 1), some (.int x3), some (.int 8)], [.ref 1, .ref 2], _)) rfl ?_
  refine mu_get rfl b1 rfl ?_
  refine mt_runs 5 (f' := (32, [some (.ref 1), some (.int x3), some (.int 8)], [.int (((x3).toUInt32 >>> (((8) : Int32).toUInt32 &&& Int32.toUInt32 31)).toInt32 &&& (255)), .int 10, .ref 2], _)) rfl ?_
  refine mu_iastL (n := 10) (m := 1000) rfl b2 (by decide) (by decide) l2 (by decide) (fun w v hs hl hn hc => ?_)
  have b2 := hs; have l2 := hl
  have b0 := hn 0 _ (by decide) b0
  have b1 := hn 1 _ (by decide) b1
  have b387 := hn 387 _ (by decide) b387
  have b388 := hn 388 _ (by decide) b388
  have hC := hc.trans hC
  refine mt_runs 2 (f' := (35, [some (.ref 1), some (.int x3), some (.int 8)], [.ref 1, .ref 1], _)) rfl ?_
  refine mu_get rfl b1 rfl ?_
  refine mt_runs 2 (f' := (40, [some (.ref 1), some (.int x3), some (.int 8)], [.int 11, .ref 1], _)) rfl ?_
  refine mu_putX rfl b1 (Nat.le_of_ble_eq_true rfl) rfl (fun w hs hn hc => ?_)
  have b1 : w.1[1]? = some (.inr 1, [.ref 2, .int 11, .ref 3, .ref 4, .ref 5, .int 0, .ref 6]) := hs
  have b0 := hn 0 _ (by decide) b0
  have b2 := hn 2 _ (by decide) b2
  have b387 := hn 387 _ (by decide) b387
  have b388 := hn 388 _ (by decide) b388
  have hC := hc.trans hC
  refine mt_runs 5 (f' := (8, [some (.ref 1), some (.int x3), some (.int 0)], [.ref 1], _)) rfl ?_
  refine mu_get rfl b1 rfl ?_
  refine mt_runs 3 (f' := (18, [some (.ref 1), some (.int x3), some (.int 0)], [.ref 1], _)) rfl ?_
  refine mu_get rfl b1 rfl ?_
  refine mt_runs 1 (f' := (22, [some (.ref 1), some (.int x3), some (.int 0)], [.ref 1, .ref 2], _)) rfl ?_
  refine mu_get rfl b1 rfl ?_
  refine mt_runs 5 (f' := (32, [some (.ref 1), some (.int x3), some (.int 0)], [.int (((x3).toUInt32 >>> (((0) : Int32).toUInt32 &&& Int32.toUInt32 31)).toInt32 &&& (255)), .int 11, .ref 2], _)) rfl ?_
  refine mu_iastL (n := 11) (m := 1000) rfl b2 (by decide) (by decide) l2 (by decide) (fun w v hs hl hn hc => ?_)
  have b2 := hs; have l2 := hl
  have b0 := hn 0 _ (by decide) b0
  have b1 := hn 1 _ (by decide) b1
  have b387 := hn 387 _ (by decide) b387
  have b388 := hn 388 _ (by decide) b388
  have hC := hc.trans hC
  refine mt_runs 2 (f' := (35, [some (.ref 1), some (.int x3), some (.int 0)], [.ref 1, .ref 1], _)) rfl ?_
  refine mu_get rfl b1 rfl ?_
  refine mt_runs 2 (f' := (40, [some (.ref 1), some (.int x3), some (.int 0)], [.int 12, .ref 1], _)) rfl ?_
  refine mu_putX rfl b1 (Nat.le_of_ble_eq_true rfl) rfl (fun w hs hn hc => ?_)
  have b1 : w.1[1]? = some (.inr 1, [.ref 2, .int 12, .ref 3, .ref 4, .ref 5, .int 0, .ref 6]) := hs
  have b0 := hn 0 _ (by decide) b0
  have b2 := hn 2 _ (by decide) b2
  have b387 := hn 387 _ (by decide) b387
  have b388 := hn 388 _ (by decide) b388
  have hC := hc.trans hC
  refine mt_runs 4 (f' := (49, [some (.ref 1), some (.int x3), some (.int (-8))], [], _)) rfl ?_
  refine mt_ret rfl rfl ?_
  refine mt_runs 1 (f' := (43, [some (.ref 0), some (.int x1), some (.int x2), some (.int x3), some (.int x4), some (.int x5)], [.ref 0], _)) rfl ?_
  refine mu_get rfl b0 rfl ?_
  refine mt_runs 1 (f' := (48, [some (.ref 0), some (.int x1), some (.int x2), some (.int x3), some (.int x4), some (.int x5)], [.int x4, .ref 1], _)) rfl ?_
  refine mt_call rfl (fun _ => rfl) ⟨Nat.le_of_ble_eq_true rfl, Nat.le_of_ble_eq_true rfl, mm_recvF b1⟩ (Nat.le_of_ble_eq_true rfl) ?_
  refine mt_runs 5 (f' := (8, [some (.ref 1), some (.int x4), some (.int 24)], [.ref 1], _)) rfl ?_
  refine mu_get rfl b1 rfl ?_
  refine mt_runs 3 (f' := (18, [some (.ref 1), some (.int x4), some (.int 24)], [.ref 1], _)) rfl ?_
  refine mu_get rfl b1 rfl ?_
  refine mt_runs 1 (f' := (22, [some (.ref 1), some (.int x4), some (.int 24)], [.ref 1, .ref 2], _)) rfl ?_
  refine mu_get rfl b1 rfl ?_
  refine mt_runs 5 (f' := (32, [some (.ref 1), some (.int x4), some (.int 24)], [.int (((x4).toUInt32 >>> (((24) : Int32).toUInt32 &&& Int32.toUInt32 31)).toInt32 &&& (255)), .int 12, .ref 2], _)) rfl ?_
  refine mu_iastL (n := 12) (m := 1000) rfl b2 (by decide) (by decide) l2 (by decide) (fun w v hs hl hn hc => ?_)
  have b2 := hs; have l2 := hl
  have b0 := hn 0 _ (by decide) b0
  have b1 := hn 1 _ (by decide) b1
  have b387 := hn 387 _ (by decide) b387
  have b388 := hn 388 _ (by decide) b388
  have hC := hc.trans hC
  refine mt_runs 2 (f' := (35, [some (.ref 1), some (.int x4), some (.int 24)], [.ref 1, .ref 1], _)) rfl ?_
  refine mu_get rfl b1 rfl ?_
  refine mt_runs 2 (f' := (40, [some (.ref 1), some (.int x4), some (.int 24)], [.int 13, .ref 1], _)) rfl ?_
  refine mu_putX rfl b1 (Nat.le_of_ble_eq_true rfl) rfl (fun w hs hn hc => ?_)
  have b1 : w.1[1]? = some (.inr 1, [.ref 2, .int 13, .ref 3, .ref 4, .ref 5, .int 0, .ref 6]) := hs
  have b0 := hn 0 _ (by decide) b0
  have b2 := hn 2 _ (by decide) b2
  have b387 := hn 387 _ (by decide) b387
  have b388 := hn 388 _ (by decide) b388
  have hC := hc.trans hC
  refine mt_runs 5 (f' := (8, [some (.ref 1), some (.int x4), some (.int 16)], [.ref 1], _)) rfl ?_
  refine mu_get rfl b1 rfl ?_
  refine mt_runs 3 (f' := (18, [some (.ref 1), some (.int x4), some (.int 16)], [.ref 1], _)) rfl ?_
  refine mu_get rfl b1 rfl ?_
  refine mt_runs 1 (f' := (22, [some (.ref 1), some (.int x4), some (.int 16)], [.ref 1, .ref 2], _)) rfl ?_
  refine mu_get rfl b1 rfl ?_
  refine mt_runs 5 (f' := (32, [some (.ref 1), some (.int x4), some (.int 16)], [.int (((x4).toUInt32 >>> (((16) : Int32).toUInt32 &&& Int32.toUInt32 31)).toInt32 &&& (255)), .int 13, .ref 2], _)) rfl ?_
  refine mu_iastL (n := 13) (m := 1000) rfl b2 (by decide) (by decide) l2 (by decide) (fun w v hs hl hn hc => ?_)
  have b2 := hs; have l2 := hl
  have b0 := hn 0 _ (by decide) b0
  have b1 := hn 1 _ (by decide) b1
  have b387 := hn 387 _ (by decide) b387
  have b388 := hn 388 _ (by decide) b388
  have hC := hc.trans hC
  refine mt_runs 2 (f' := (35, [some (.ref 1), some (.int x4), some (.int 16)], [.ref 1, .ref 1], _)) rfl ?_
  refine mu_get rfl b1 rfl ?_
  refine mt_runs 2 (f' := (40, [some (.ref 1), some (.int x4), some (.int 16)], [.int 14, .ref 1], _)) rfl ?_
  refine mu_putX rfl b1 (Nat.le_of_ble_eq_true rfl) rfl (fun w hs hn hc => ?_)
  have b1 : w.1[1]? = some (.inr 1, [.ref 2, .int 14, .ref 3, .ref 4, .ref 5, .int 0, .ref 6]) := hs
  have b0 := hn 0 _ (by decide) b0
  have b2 := hn 2 _ (by decide) b2
  have b387 := hn 387 _ (by decide) b387
  have b388 := hn 388 _ (by decide) b388
  have hC := hc.trans hC
  refine mt_runs 5 (f' := (8, [some (.ref 1), some (.int x4), some (.int 8)], [.ref 1], _)) rfl ?_
  refine mu_get rfl b1 rfl ?_
  refine mt_runs 3 (f' := (18, [some (.ref 1), some (.int x4), some (.int 8)], [.ref 1], _)) rfl ?_
  refine mu_get rfl b1 rfl ?_
  refine mt_runs 1 (f' := (22, [some (.ref 1), some (.int x4), some (.int 8)], [.ref 1, .ref 2], _)) rfl ?_
  refine mu_get rfl b1 rfl ?_
  refine mt_runs 5 (f' := (32, [some (.ref 1), some (.int x4), some (.int 8)], [.int (((x4).toUInt32 >>> (((8) : Int32).toUInt32 &&& Int32.toUInt32 31)).toInt32 &&& (255)), .int 14, .ref 2], _)) rfl ?_
  refine mu_iastL (n := 14) (m := 1000) rfl b2 (by decide) (by decide) l2 (by decide) (fun w v hs hl hn hc => ?_)
  have b2 := hs; have l2 := hl
  have b0 := hn 0 _ (by decide) b0
  have b1 := hn 1 _ (by decide) b1
  have b387 := hn 387 _ (by decide) b387
  have b388 := hn 388 _ (by decide) b388
  have hC := hc.trans hC
  refine mt_runs 2 (f' := (35, [some (.ref 1), some (.int x4), some (.int 8)], [.ref 1, .ref 1], _)) rfl ?_
  refine mu_get rfl b1 rfl ?_
  refine mt_runs 2 (f' := (40, [some (.ref 1), some (.int x4), some (.int 8)], [.int 15, .ref 1], _)) rfl ?_
  refine mu_putX rfl b1 (Nat.le_of_ble_eq_true rfl) rfl (fun w hs hn hc => ?_)
  have b1 : w.1[1]? = some (.inr 1, [.ref 2, .int 15, .ref 3, .ref 4, .ref 5, .int 0, .ref 6]) := hs
  have b0 := hn 0 _ (by decide) b0
  have b2 := hn 2 _ (by decide) b2
  have b387 := hn 387 _ (by decide) b387
  have b388 := hn 388 _ (by decide) b388
  have hC := hc.trans hC
  refine mt_runs 5 (f' := (8, [some (.ref 1), some (.int x4), some (.int 0)], [.ref 1], _)) rfl ?_
  refine mu_get rfl b1 rfl ?_
  refine mt_runs 3 (f' := (18, [some (.ref 1), some (.int x4), some (.int 0)], [.ref 1], _)) rfl ?_
  refine mu_get rfl b1 rfl ?_
  refine mt_runs 1 (f' := (22, [some (.ref 1), some (.int x4), some (.int 0)], [.ref 1, .ref 2], _)) rfl ?_
  refine mu_get rfl b1 rfl ?_
  refine mt_runs 5 (f' := (32, [some (.ref 1), some (.int x4), some (.int 0)], [.int (((x4).toUInt32 >>> (((0) : Int32).toUInt32 &&& Int32.toUInt32 31)).toInt32 &&& (255)), .int 15, .ref 2], _)) rfl ?_
  refine mu_iastL (n := 15) (m := 1000) rfl b2 (by decide) (by decide) l2 (by decide) (fun w v hs hl hn hc => ?_)
  have b2 := hs; have l2 := hl
  have b0 := hn 0 _ (by decide) b0
  have b1 := hn 1 _ (by decide) b1
  have b387 := hn 387 _ (by decide) b387
  have b388 := hn 388 _ (by decide) b388
  have hC := hc.trans hC
  refine mt_runs 2 (f' := (35, [some (.ref 1), some (.int x4), some (.int 0)], [.ref 1, .ref 1], _)) rfl ?_
  refine mu_get rfl b1 rfl ?_
  refine mt_runs 2 (f' := (40, [some (.ref 1), some (.int x4), some (.int 0)], [.int 16, .ref 1], _)) rfl ?_
  refine mu_putX rfl b1 (Nat.le_of_ble_eq_true rfl) rfl (fun w hs hn hc => ?_)
  have b1 : w.1[1]? = some (.inr 1, [.ref 2, .int 16, .ref 3, .ref 4, .ref 5, .int 0, .ref 6]) := hs
  have b0 := hn 0 _ (by decide) b0
  have b2 := hn 2 _ (by decide) b2
  have b387 := hn 387 _ (by decide) b387
  have b388 := hn 388 _ (by decide) b388
  have hC := hc.trans hC
  refine mt_runs 4 (f' := (49, [some (.ref 1), some (.int x4), some (.int (-8))], [], _)) rfl ?_
  refine mt_ret rfl rfl ?_
  refine mt_runs 1 (f' := (52, [some (.ref 0), some (.int x1), some (.int x2), some (.int x3), some (.int x4), some (.int x5)], [.ref 0], _)) rfl ?_
  refine mu_get rfl b0 rfl ?_
  refine mt_runs 1 (f' := (57, [some (.ref 0), some (.int x1), some (.int x2), some (.int x3), some (.int x4), some (.int x5)], [.int x5, .ref 1], _)) rfl ?_
  refine mt_call rfl (fun _ => rfl) ⟨Nat.le_of_ble_eq_true rfl, Nat.le_of_ble_eq_true rfl, mm_recvF b1⟩ (Nat.le_of_ble_eq_true rfl) ?_
  refine mt_runs 5 (f' := (8, [some (.ref 1), some (.int x5), some (.int 24)], [.ref 1], _)) rfl ?_
  refine mu_get rfl b1 rfl ?_
  refine mt_runs 3 (f' := (18, [some (.ref 1), some (.int x5), some (.int 24)], [.ref 1], _)) rfl ?_
  refine mu_get rfl b1 rfl ?_
  refine mt_runs 1 (f' := (22, [some (.ref 1), some (.int x5), some (.int 24)], [.ref 1, .ref 2], _)) rfl ?_
  refine mu_get rfl b1 rfl ?_
  refine mt_runs 5 (f' := (32, [some (.ref 1), some (.int x5), some (.int 24)], [.int (((x5).toUInt32 >>> (((24) : Int32).toUInt32 &&& Int32.toUInt32 31)).toInt32 &&& (255)), .int 16, .ref 2], _)) rfl ?_
  refine mu_iastL (n := 16) (m := 1000) rfl b2 (by decide) (by decide) l2 (by decide) (fun w v hs hl hn hc => ?_)
  have b2 := hs; have l2 := hl
  have b0 := hn 0 _ (by decide) b0
  have b1 := hn 1 _ (by decide) b1
  have b387 := hn 387 _ (by decide) b387
  have b388 := hn 388 _ (by decide) b388
  have hC := hc.trans hC
  refine mt_runs 2 (f' := (35, [some (.ref 1), some (.int x5), some (.int 24)], [.ref 1, .ref 1], _)) rfl ?_
  refine mu_get rfl b1 rfl ?_
  refine mt_runs 2 (f' := (40, [some (.ref 1), some (.int x5), some (.int 24)], [.int 17, .ref 1], _)) rfl ?_
  refine mu_putX rfl b1 (Nat.le_of_ble_eq_true rfl) rfl (fun w hs hn hc => ?_)
  have b1 : w.1[1]? = some (.inr 1, [.ref 2, .int 17, .ref 3, .ref 4, .ref 5, .int 0, .ref 6]) := hs
  have b0 := hn 0 _ (by decide) b0
  have b2 := hn 2 _ (by decide) b2
  have b387 := hn 387 _ (by decide) b387
  have b388 := hn 388 _ (by decide) b388
  have hC := hc.trans hC
  refine mt_runs 5 (f' := (8, [some (.ref 1), some (.int x5), some (.int 16)], [.ref 1], _)) rfl ?_
  refine mu_get rfl b1 rfl ?_
  refine mt_runs 3 (f' := (18, [some (.ref 1), some (.int x5), some (.int 16)], [.ref 1], _)) rfl ?_
  refine mu_get rfl b1 rfl ?_
  refine mt_runs 1 (f' := (22, [some (.ref 1), some (.int x5), some (.int 16)], [.ref 1, .ref 2], _)) rfl ?_
  refine mu_get rfl b1 rfl ?_
  refine mt_runs 5 (f' := (32, [some (.ref 1), some (.int x5), some (.int 16)], [.int (((x5).toUInt32 >>> (((16) : Int32).toUInt32 &&& Int32.toUInt32 31)).toInt32 &&& (255)), .int 17, .ref 2], _)) rfl ?_
  refine mu_iastL (n := 17) (m := 1000) rfl b2 (by decide) (by decide) l2 (by decide) (fun w v hs hl hn hc => ?_)
  have b2 := hs; have l2 := hl
  have b0 := hn 0 _ (by decide) b0
  have b1 := hn 1 _ (by decide) b1
  have b387 := hn 387 _ (by decide) b387
  have b388 := hn 388 _ (by decide) b388
  have hC := hc.trans hC
  refine mt_runs 2 (f' := (35, [some (.ref 1), some (.int x5), some (.int 16)], [.ref 1, .ref 1], _)) rfl ?_
  refine mu_get rfl b1 rfl ?_
  refine mt_runs 2 (f' := (40, [some (.ref 1), some (.int x5), some (.int 16)], [.int 18, .ref 1], _)) rfl ?_
  refine mu_putX rfl b1 (Nat.le_of_ble_eq_true rfl) rfl (fun w hs hn hc => ?_)
  have b1 : w.1[1]? = some (.inr 1, [.ref 2, .int 18, .ref 3, .ref 4, .ref 5, .int 0, .ref 6]) := hs
  have b0 := hn 0 _ (by decide) b0
  have b2 := hn 2 _ (by decide) b2
  have b387 := hn 387 _ (by decide) b387
  have b388 := hn 388 _ (by decide) b388
  have hC := hc.trans hC
  refine mt_runs 5 (f' := (8, [some (.ref 1), some (.int x5), some (.int 8)], [.ref 1], _)) rfl ?_
  refine mu_get rfl b1 rfl ?_
  refine mt_runs 3 (f' := (18, [some (.ref 1), some (.int x5), some (.int 8)], [.ref 1], _)) rfl ?_
  refine mu_get rfl b1 rfl ?_
  refine mt_runs 1 (f' := (22, [some (.ref 1), some (.int x5), some (.int 8)], [.ref 1, .ref 2], _)) rfl ?_
  refine mu_get rfl b1 rfl ?_
  refine mt_runs 5 (f' := (32, [some (.ref 1), some (.int x5), some (.int 8)], [.int (((x5).toUInt32 >>> (((8) : Int32).toUInt32 &&& Int32.toUInt32 31)).toInt32 &&& (255)), .int 18, .ref 2], _)) rfl ?_
  refine mu_iastL (n := 18) (m := 1000) rfl b2 (by decide) (by decide) l2 (by decide) (fun w v hs hl hn hc => ?_)
  have b2 := hs; have l2 := hl
  have b0 := hn 0 _ (by decide) b0
  have b1 := hn 1 _ (by decide) b1
  have b387 := hn 387 _ (by decide) b387
  have b388 := hn 388 _ (by decide) b388
  have hC := hc.trans hC
  refine mt_runs 2 (f' := (35, [some (.ref 1), some (.int x5), some (.int 8)], [.ref 1, .ref 1], _)) rfl ?_
  refine mu_get rfl b1 rfl ?_
  refine mt_runs 2 (f' := (40, [some (.ref 1), some (.int x5), some (.int 8)], [.int 19, .ref 1], _)) rfl ?_
  refine mu_putX rfl b1 (Nat.le_of_ble_eq_true rfl) rfl (fun w hs hn hc => ?_)
  have b1 : w.1[1]? = some (.inr 1, [.ref 2, .int 19, .ref 3, .ref 4, .ref 5, .int 0, .ref 6]) := hs
  have b0 := hn 0 _ (by decide) b0
  have b2 := hn 2 _ (by decide) b2
  have b387 := hn 387 _ (by decide) b387
  have b388 := hn 388 _ (by decide) b388
  have hC := hc.trans hC
  refine mt_runs 5 (f' := (8, [some (.ref 1), some (.int x5), some (.int 0)], [.ref 1], _)) rfl ?_
  refine mu_get rfl b1 rfl ?_
  refine mt_runs 3 (f' := (18, [some (.ref 1), some (.int x5), some (.int 0)], [.ref 1], _)) rfl ?_
  refine mu_get rfl b1 rfl ?_
  refine mt_runs 1 (f' := (22, [some (.ref 1), some (.int x5), some (.int 0)], [.ref 1, .ref 2], _)) rfl ?_
  refine mu_get rfl b1 rfl ?_
  refine mt_runs 5 (f' := (32, [some (.ref 1), some (.int x5), some (.int 0)], [.int (((x5).toUInt32 >>> (((0) : Int32).toUInt32 &&& Int32.toUInt32 31)).toInt32 &&& (255)), .int 19, .ref 2], _)) rfl ?_
  refine mu_iastL (n := 19) (m := 1000) rfl b2 (by decide) (by decide) l2 (by decide) (fun w v hs hl hn hc => ?_)
  have b2 := hs; have l2 := hl
  have b0 := hn 0 _ (by decide) b0
  have b1 := hn 1 _ (by decide) b1
  have b387 := hn 387 _ (by decide) b387
  have b388 := hn 388 _ (by decide) b388
  have hC := hc.trans hC
  refine mt_runs 2 (f' := (35, [some (.ref 1), some (.int x5), some (.int 0)], [.ref 1, .ref 1], _)) rfl ?_
  refine mu_get rfl b1 rfl ?_
  refine mt_runs 2 (f' := (40, [some (.ref 1), some (.int x5), some (.int 0)], [.int 20, .ref 1], _)) rfl ?_
  refine mu_putX rfl b1 (Nat.le_of_ble_eq_true rfl) rfl (fun w hs hn hc => ?_)
  have b1 : w.1[1]? = some (.inr 1, [.ref 2, .int 20, .ref 3, .ref 4, .ref 5, .int 0, .ref 6]) := hs
  have b0 := hn 0 _ (by decide) b0
  have b2 := hn 2 _ (by decide) b2
  have b387 := hn 387 _ (by decide) b387
  have b388 := hn 388 _ (by decide) b388
  have hC := hc.trans hC
  refine mt_runs 4 (f' := (49, [some (.ref 1), some (.int x5), some (.int (-8))], [], _)) rfl ?_
  refine mt_ret rfl rfl ?_
  refine mt_runs 1 (f' := (61, [some (.ref 0), some (.int x1), some (.int x2), some (.int x3), some (.int x4), some (.int x5)], [.ref 0], _)) rfl ?_
  refine mu_get rfl b0 rfl ?_
  refine mu_get rfl b1 rfl ?_
  refine mt_ret rfl rfl ?_
  refine mt_runs 26 (f' := (219, [some (.retAddr 0), some (.ref 0), some (.ref 387), some (.int 0)], [.int x5, .int x4, .int x3, .int x2, .int x1, .ref 387, .int 20], _)) rfl ?_
  refine mt_call rfl (fun _ => rfl) ⟨Nat.le_of_ble_eq_true rfl, Nat.le_of_ble_eq_true rfl, mm_recvF b387⟩ (Nat.le_of_ble_eq_true rfl) ?_
  refine mt_runs 1 (f' := (1, [some (.ref 387), some (.int x1), some (.int x2), some (.int x3), some (.int x4), some (.int x5), none, none], [.ref 387], _)) rfl ?_
  refine mu_get rfl b387 rfl ?_
  refine mt_runs 16 (f' := (74, [some (.ref 387), some (.int x1), some (.int x2), some (.int x3), some (.int x4), some (.int x5), some (.int 0), some (.int x1)], [.ref 387], _)) rfl ?_
  refine mu_get rfl b387 rfl ?_
  refine mt_runs 1 (f' := (78, [some (.ref 387), some (.int x1), some (.int x2), some (.int x3), some (.int x4), some (.int x5), some (.int 0), some (.int x1)], [.ref 387, .ref 388], _)) rfl ?_
  refine mu_get rfl b387 rfl ?_
  refine mt_runs 11 (f' := (98, [some (.ref 387), some (.int x1), some (.int x2), some (.int x3), some (.int x4), some (.int x5), some (.int 0), some (.int x1)], [.int ((x1 >>> ((24) &&& 31)) &&& (255)), .int 0, .ref 388], _)) rfl ?_
  refine mu_iastL (n := 0) (m := 1000) rfl b388 (by decide) (by decide) l388 (by decide) (fun w v hs hl hn hc => ?_)
  have b388 := hs; have l388 := hl
  have b0 := hn 0 _ (by decide) b0
  have b1 := hn 1 _ (by decide) b1
  have b2 := hn 2 _ (by decide) b2
  have b387 := hn 387 _ (by decide) b387
  have hC := hc.trans hC
  refine mt_runs 2 (f' := (101, [some (.ref 387), some (.int x1), some (.int x2), some (.int x3), some (.int x4), some (.int x5), some (.int 0), some (.int x1)], [.ref 387, .ref 387], _)) rfl ?_
  refine mu_get rfl b387 rfl ?_
  refine mt_runs 2 (f' := (106, [some (.ref 387), some (.int x1), some (.int x2), some (.int x3), some (.int x4), some (.int x5), some (.int 0), some (.int x1)], [.int 1, .ref 387], _)) rfl ?_
  refine mu_putX rfl b387 (Nat.le_of_ble_eq_true rfl) rfl (fun w hs hn hc => ?_)
  have b387 : w.1[387]? = some (.inr 13, [.ref 388, .int 1, .int 0, .int 0, .int 0, .int 0, .ref 389, .int 0, .ref 390, .int 0, .long 0, .int 0, .int 0, .int 0, .int (-1), .ref 391, .int 0, .int 0, .int 0, .int 0, .int 0, .int 0, .int 0, .ref 392, .int 0, .int 0, .int 0, .int 0, .int (-1), .int (-1), .int (-1), .ref 393, .ref 394, .int 0, .ref 395, .ref 396, .ref 397, .ref 398, .ref 399, .int 0, .int 0, .int 0, .int 0, .ref 400, .ref 401, .ref 402, .ref 403, .ref 404, .ref 405, .ref 406, .ref 407, .ref 408, .int 0, .ref 409, .int 0, .int 0, .int 0, .int 0, .int 0, .int 0, .int 0, .ref 410, .ref 411, .ref 412, .ref 413, .ref 414, .int 0, .ref 415, .ref 416, .ref 417, .ref 418, .ref 419, .ref 420, .ref 421, .ref 422, .ref 423, .ref 424, .ref 425, .ref 426, .ref 427, .ref 428, .ref 429, .int 0, .int (-1), .int (-1), .ref 430, .ref 431, .ref 432, .ref 433, .ref 434, .ref 435, .ref 436, .ref 437, .ref 438, .ref 439]) := hs
  have b0 := hn 0 _ (by decide) b0
  have b1 := hn 1 _ (by decide) b1
  have b2 := hn 2 _ (by decide) b2
  have b388 := hn 388 _ (by decide) b388
  have hC := hc.trans hC
  refine mt_runs 12 (f' := (74, [some (.ref 387), some (.int x1), some (.int x2), some (.int x3), some (.int x4), some (.int x5), some (.int 1), some (.int x1)], [.ref 387], _)) rfl ?_
  refine mu_get rfl b387 rfl ?_
  refine mt_runs 1 (f' := (78, [some (.ref 387), some (.int x1), some (.int x2), some (.int x3), some (.int x4), some (.int x5), some (.int 1), some (.int x1)], [.ref 387, .ref 388], _)) rfl ?_
  refine mu_get rfl b387 rfl ?_
  refine mt_runs 11 (f' := (98, [some (.ref 387), some (.int x1), some (.int x2), some (.int x3), some (.int x4), some (.int x5), some (.int 1), some (.int x1)], [.int ((x1 >>> ((16) &&& 31)) &&& (255)), .int 1, .ref 388], _)) rfl ?_
  refine mu_iastL (n := 1) (m := 1000) rfl b388 (by decide) (by decide) l388 (by decide) (fun w v hs hl hn hc => ?_)
  have b388 := hs; have l388 := hl
  have b0 := hn 0 _ (by decide) b0
  have b1 := hn 1 _ (by decide) b1
  have b2 := hn 2 _ (by decide) b2
  have b387 := hn 387 _ (by decide) b387
  have hC := hc.trans hC
  refine mt_runs 2 (f' := (101, [some (.ref 387), some (.int x1), some (.int x2), some (.int x3), some (.int x4), some (.int x5), some (.int 1), some (.int x1)], [.ref 387, .ref 387], _)) rfl ?_
  refine mu_get rfl b387 rfl ?_
  refine mt_runs 2 (f' := (106, [some (.ref 387), some (.int x1), some (.int x2), some (.int x3), some (.int x4), some (.int x5), some (.int 1), some (.int x1)], [.int 2, .ref 387], _)) rfl ?_
  refine mu_putX rfl b387 (Nat.le_of_ble_eq_true rfl) rfl (fun w hs hn hc => ?_)
  have b387 : w.1[387]? = some (.inr 13, [.ref 388, .int 2, .int 0, .int 0, .int 0, .int 0, .ref 389, .int 0, .ref 390, .int 0, .long 0, .int 0, .int 0, .int 0, .int (-1), .ref 391, .int 0, .int 0, .int 0, .int 0, .int 0, .int 0, .int 0, .ref 392, .int 0, .int 0, .int 0, .int 0, .int (-1), .int (-1), .int (-1), .ref 393, .ref 394, .int 0, .ref 395, .ref 396, .ref 397, .ref 398, .ref 399, .int 0, .int 0, .int 0, .int 0, .ref 400, .ref 401, .ref 402, .ref 403, .ref 404, .ref 405, .ref 406, .ref 407, .ref 408, .int 0, .ref 409, .int 0, .int 0, .int 0, .int 0, .int 0, .int 0, .int 0, .ref 410, .ref 411, .ref 412, .ref 413, .ref 414, .int 0, .ref 415, .ref 416, .ref 417, .ref 418, .ref 419, .ref 420, .ref 421, .ref 422, .ref 423, .ref 424, .ref 425, .ref 426, .ref 427, .ref 428, .ref 429, .int 0, .int (-1), .int (-1), .ref 430, .ref 431, .ref 432, .ref 433, .ref 434, .ref 435, .ref 436, .ref 437, .ref 438, .ref 439]) := hs
  have b0 := hn 0 _ (by decide) b0
  have b1 := hn 1 _ (by decide) b1
  have b2 := hn 2 _ (by decide) b2
  have b388 := hn 388 _ (by decide) b388
  have hC := hc.trans hC
  refine mt_runs 12 (f' := (74, [some (.ref 387), some (.int x1), some (.int x2), some (.int x3), some (.int x4), some (.int x5), some (.int 2), some (.int x1)], [.ref 387], _)) rfl ?_
  refine mu_get rfl b387 rfl ?_
  refine mt_runs 1 (f' := (78, [some (.ref 387), some (.int x1), some (.int x2), some (.int x3), some (.int x4), some (.int x5), some (.int 2), some (.int x1)], [.ref 387, .ref 388], _)) rfl ?_
  refine mu_get rfl b387 rfl ?_
  refine mt_runs 11 (f' := (98, [some (.ref 387), some (.int x1), some (.int x2), some (.int x3), some (.int x4), some (.int x5), some (.int 2), some (.int x1)], [.int ((x1 >>> ((8) &&& 31)) &&& (255)), .int 2, .ref 388], _)) rfl ?_
  refine mu_iastL (n := 2) (m := 1000) rfl b388 (by decide) (by decide) l388 (by decide) (fun w v hs hl hn hc => ?_)
  have b388 := hs; have l388 := hl
  have b0 := hn 0 _ (by decide) b0
  have b1 := hn 1 _ (by decide) b1
  have b2 := hn 2 _ (by decide) b2
  have b387 := hn 387 _ (by decide) b387
  have hC := hc.trans hC
  refine mt_runs 2 (f' := (101, [some (.ref 387), some (.int x1), some (.int x2), some (.int x3), some (.int x4), some (.int x5), some (.int 2), some (.int x1)], [.ref 387, .ref 387], _)) rfl ?_
  refine mu_get rfl b387 rfl ?_
  refine mt_runs 2 (f' := (106, [some (.ref 387), some (.int x1), some (.int x2), some (.int x3), some (.int x4), some (.int x5), some (.int 2), some (.int x1)], [.int 3, .ref 387], _)) rfl ?_
  refine mu_putX rfl b387 (Nat.le_of_ble_eq_true rfl) rfl (fun w hs hn hc => ?_)
  have b387 : w.1[387]? = some (.inr 13, [.ref 388, .int 3, .int 0, .int 0, .int 0, .int 0, .ref 389, .int 0, .ref 390, .int 0, .long 0, .int 0, .int 0, .int 0, .int (-1), .ref 391, .int 0, .int 0, .int 0, .int 0, .int 0, .int 0, .int 0, .ref 392, .int 0, .int 0, .int 0, .int 0, .int (-1), .int (-1), .int (-1), .ref 393, .ref 394, .int 0, .ref 395, .ref 396, .ref 397, .ref 398, .ref 399, .int 0, .int 0, .int 0, .int 0, .ref 400, .ref 401, .ref 402, .ref 403, .ref 404, .ref 405, .ref 406, .ref 407, .ref 408, .int 0, .ref 409, .int 0, .int 0, .int 0, .int 0, .int 0, .int 0, .int 0, .ref 410, .ref 411, .ref 412, .ref 413, .ref 414, .int 0, .ref 415, .ref 416, .ref 417, .ref 418, .ref 419, .ref 420, .ref 421, .ref 422, .ref 423, .ref 424, .ref 425, .ref 426, .ref 427, .ref 428, .ref 429, .int 0, .int (-1), .int (-1), .ref 430, .ref 431, .ref 432, .ref 433, .ref 434, .ref 435, .ref 436, .ref 437, .ref 438, .ref 439]) := hs
  have b0 := hn 0 _ (by decide) b0
  have b1 := hn 1 _ (by decide) b1
  have b2 := hn 2 _ (by decide) b2
  have b388 := hn 388 _ (by decide) b388
  have hC := hc.trans hC
  refine mt_runs 12 (f' := (74, [some (.ref 387), some (.int x1), some (.int x2), some (.int x3), some (.int x4), some (.int x5), some (.int 3), some (.int x1)], [.ref 387], _)) rfl ?_
  refine mu_get rfl b387 rfl ?_
  refine mt_runs 1 (f' := (78, [some (.ref 387), some (.int x1), some (.int x2), some (.int x3), some (.int x4), some (.int x5), some (.int 3), some (.int x1)], [.ref 387, .ref 388], _)) rfl ?_
  refine mu_get rfl b387 rfl ?_
  refine mt_runs 11 (f' := (98, [some (.ref 387), some (.int x1), some (.int x2), some (.int x3), some (.int x4), some (.int x5), some (.int 3), some (.int x1)], [.int ((x1 >>> ((0) &&& 31)) &&& (255)), .int 3, .ref 388], _)) rfl ?_
  refine mu_iastL (n := 3) (m := 1000) rfl b388 (by decide) (by decide) l388 (by decide) (fun w v hs hl hn hc => ?_)
  have b388 := hs; have l388 := hl
  have b0 := hn 0 _ (by decide) b0
  have b1 := hn 1 _ (by decide) b1
  have b2 := hn 2 _ (by decide) b2
  have b387 := hn 387 _ (by decide) b387
  have hC := hc.trans hC
  refine mt_runs 2 (f' := (101, [some (.ref 387), some (.int x1), some (.int x2), some (.int x3), some (.int x4), some (.int x5), some (.int 3), some (.int x1)], [.ref 387, .ref 387], _)) rfl ?_
  refine mu_get rfl b387 rfl ?_
  refine mt_runs 2 (f' := (106, [some (.ref 387), some (.int x1), some (.int x2), some (.int x3), some (.int x4), some (.int x5), some (.int 3), some (.int x1)], [.int 4, .ref 387], _)) rfl ?_
  refine mu_putX rfl b387 (Nat.le_of_ble_eq_true rfl) rfl (fun w hs hn hc => ?_)
  have b387 : w.1[387]? = some (.inr 13, [.ref 388, .int 4, .int 0, .int 0, .int 0, .int 0, .ref 389, .int 0, .ref 390, .int 0, .long 0, .int 0, .int 0, .int 0, .int (-1), .ref 391, .int 0, .int 0, .int 0, .int 0, .int 0, .int 0, .int 0, .ref 392, .int 0, .int 0, .int 0, .int 0, .int (-1), .int (-1), .int (-1), .ref 393, .ref 394, .int 0, .ref 395, .ref 396, .ref 397, .ref 398, .ref 399, .int 0, .int 0, .int 0, .int 0, .ref 400, .ref 401, .ref 402, .ref 403, .ref 404, .ref 405, .ref 406, .ref 407, .ref 408, .int 0, .ref 409, .int 0, .int 0, .int 0, .int 0, .int 0, .int 0, .int 0, .ref 410, .ref 411, .ref 412, .ref 413, .ref 414, .int 0, .ref 415, .ref 416, .ref 417, .ref 418, .ref 419, .ref 420, .ref 421, .ref 422, .ref 423, .ref 424, .ref 425, .ref 426, .ref 427, .ref 428, .ref 429, .int 0, .int (-1), .int (-1), .ref 430, .ref 431, .ref 432, .ref 433, .ref 434, .ref 435, .ref 436, .ref 437, .ref 438, .ref 439]) := hs
  have b0 := hn 0 _ (by decide) b0
  have b1 := hn 1 _ (by decide) b1
  have b2 := hn 2 _ (by decide) b2
  have b388 := hn 388 _ (by decide) b388
  have hC := hc.trans hC
  refine mt_runs 15 (f' := (74, [some (.ref 387), some (.int x1), some (.int x2), some (.int x3), some (.int x4), some (.int x5), some (.int 4), some (.int x2)], [.ref 387], _)) rfl ?_
  refine mu_get rfl b387 rfl ?_
  refine mt_runs 1 (f' := (78, [some (.ref 387), some (.int x1), some (.int x2), some (.int x3), some (.int x4), some (.int x5), some (.int 4), some (.int x2)], [.ref 387, .ref 388], _)) rfl ?_
  refine mu_get rfl b387 rfl ?_
  refine mt_runs 11 (f' := (98, [some (.ref 387), some (.int x1), some (.int x2), some (.int x3), some (.int x4), some (.int x5), some (.int 4), some (.int x2)], [.int ((x2 >>> ((24) &&& 31)) &&& (255)), .int 4, .ref 388], _)) rfl ?_
  refine mu_iastL (n := 4) (m := 1000) rfl b388 (by decide) (by decide) l388 (by decide) (fun w v hs hl hn hc => ?_)
  have b388 := hs; have l388 := hl
  have b0 := hn 0 _ (by decide) b0
  have b1 := hn 1 _ (by decide) b1
  have b2 := hn 2 _ (by decide) b2
  have b387 := hn 387 _ (by decide) b387
  have hC := hc.trans hC
  refine mt_runs 2 (f' := (101, [some (.ref 387), some (.int x1), some (.int x2), some (.int x3), some (.int x4), some (.int x5), some (.int 4), some (.int x2)], [.ref 387, .ref 387], _)) rfl ?_
  refine mu_get rfl b387 rfl ?_
  refine mt_runs 2 (f' := (106, [some (.ref 387), some (.int x1), some (.int x2), some (.int x3), some (.int x4), some (.int x5), some (.int 4), some (.int x2)], [.int 5, .ref 387], _)) rfl ?_
  refine mu_putX rfl b387 (Nat.le_of_ble_eq_true rfl) rfl (fun w hs hn hc => ?_)
  have b387 : w.1[387]? = some (.inr 13, [.ref 388, .int 5, .int 0, .int 0, .int 0, .int 0, .ref 389, .int 0, .ref 390, .int 0, .long 0, .int 0, .int 0, .int 0, .int (-1), .ref 391, .int 0, .int 0, .int 0, .int 0, .int 0, .int 0, .int 0, .ref 392, .int 0, .int 0, .int 0, .int 0, .int (-1), .int (-1), .int (-1), .ref 393, .ref 394, .int 0, .ref 395, .ref 396, .ref 397, .ref 398, .ref 399, .int 0, .int 0, .int 0, .int 0, .ref 400, .ref 401, .ref 402, .ref 403, .ref 404, .ref 405, .ref 406, .ref 407, .ref 408, .int 0, .ref 409, .int 0, .int 0, .int 0, .int 0, .int 0, .int 0, .int 0, .ref 410, .ref 411, .ref 412, .ref 413, .ref 414, .int 0, .ref 415, .ref 416, .ref 417, .ref 418, .ref 419, .ref 420, .ref 421, .ref 422, .ref 423, .ref 424, .ref 425, .ref 426, .ref 427, .ref 428, .ref 429, .int 0, .int (-1), .int (-1), .ref 430, .ref 431, .ref 432, .ref 433, .ref 434, .ref 435, .ref 436, .ref 437, .ref 438, .ref 439]) := hs
  have b0 := hn 0 _ (by decide) b0
  have b1 := hn 1 _ (by decide) b1
  have b2 := hn 2 _ (by decide) b2
  have b388 := hn 388 _ (by decide) b388
  have hC := hc.trans hC
  refine mt_runs 15 (f' := (74, [some (.ref 387), some (.int x1), some (.int x2), some (.int x3), some (.int x4), some (.int x5), some (.int 5), some (.int x2)], [.ref 387], _)) rfl ?_
  refine mu_get rfl b387 rfl ?_
  refine mt_runs 1 (f' := (78, [some (.ref 387), some (.int x1), some (.int x2), some (.int x3), some (.int x4), some (.int x5), some (.int 5), some (.int x2)], [.ref 387, .ref 388], _)) rfl ?_
  refine mu_get rfl b387 rfl ?_
  refine mt_runs 11 (f' := (98, [some (.ref 387), some (.int x1), some (.int x2), some (.int x3), some (.int x4), some (.int x5), some (.int 5), some (.int x2)], [.int ((x2 >>> ((16) &&& 31)) &&& (255)), .int 5, .ref 388], _)) rfl ?_
  refine mu_iastL (n := 5) (m := 1000) rfl b388 (by decide) (by decide) l388 (by decide) (fun w v hs hl hn hc => ?_)
  have b388 := hs; have l388 := hl
  have b0 := hn 0 _ (by decide) b0
  have b1 := hn 1 _ (by decide) b1
  have b2 := hn 2 _ (by decide) b2
  have b387 := hn 387 _ (by decide) b387
  have hC := hc.trans hC
  refine mt_runs 2 (f' := (101, [some (.ref 387), some (.int x1), some (.int x2), some (.int x3), some (.int x4), some (.int x5), some (.int 5), some (.int x2)], [.ref 387, .ref 387], _)) rfl ?_
  refine mu_get rfl b387 rfl ?_
  refine mt_runs 2 (f' := (106, [some (.ref 387), some (.int x1), some (.int x2), some (.int x3), some (.int x4), some (.int x5), some (.int 5), some (.int x2)], [.int 6, .ref 387], _)) rfl ?_
  refine mu_putX rfl b387 (Nat.le_of_ble_eq_true rfl) rfl (fun w hs hn hc => ?_)
  have b387 : w.1[387]? = some (.inr 13, [.ref 388, .int 6, .int 0, .int 0, .int 0, .int 0, .ref 389, .int 0, .ref 390, .int 0, .long 0, .int 0, .int 0, .int 0, .int (-1), .ref 391, .int 0, .int 0, .int 0, .int 0, .int 0, .int 0, .int 0, .ref 392, .int 0, .int 0, .int 0, .int 0, .int (-1), .int (-1), .int (-1), .ref 393, .ref 394, .int 0, .ref 395, .ref 396, .ref 397, .ref 398, .ref 399, .int 0, .int 0, .int 0, .int 0, .ref 400, .ref 401, .ref 402, .ref 403, .ref 404, .ref 405, .ref 406, .ref 407, .ref 408, .int 0, .ref 409, .int 0, .int 0, .int 0, .int 0, .int 0, .int 0, .int 0, .ref 410, .ref 411, .ref 412, .ref 413, .ref 414, .int 0, .ref 415, .ref 416, .ref 417, .ref 418, .ref 419, .ref 420, .ref 421, .ref 422, .ref 423, .ref 424, .ref 425, .ref 426, .ref 427, .ref 428, .ref 429, .int 0, .int (-1), .int (-1), .ref 430, .ref 431, .ref 432, .ref 433, .ref 434, .ref 435, .ref 436, .ref 437, .ref 438, .ref 439]) := hs
  have b0 := hn 0 _ (by decide) b0
  have b1 := hn 1 _ (by decide) b1
  have b2 := hn 2 _ (by decide) b2
  have b388 := hn 388 _ (by decide) b388
  have hC := hc.trans hC
  refine mt_runs 15 (f' := (74, [some (.ref 387), some (.int x1), some (.int x2), some (.int x3), some (.int x4), some (.int x5), some (.int 6), some (.int x2)], [.ref 387], _)) rfl ?_
  refine mu_get rfl b387 rfl ?_
  refine mt_runs 1 (f' := (78, [some (.ref 387), some (.int x1), some (.int x2), some (.int x3), some (.int x4), some (.int x5), some (.int 6), some (.int x2)], [.ref 387, .ref 388], _)) rfl ?_
  refine mu_get rfl b387 rfl ?_
  refine mt_runs 11 (f' := (98, [some (.ref 387), some (.int x1), some (.int x2), some (.int x3), some (.int x4), some (.int x5), some (.int 6), some (.int x2)], [.int ((x2 >>> ((8) &&& 31)) &&& (255)), .int 6, .ref 388], _)) rfl ?_
  refine mu_iastL (n := 6) (m := 1000) rfl b388 (by decide) (by decide) l388 (by decide) (fun w v hs hl hn hc => ?_)
  have b388 := hs; have l388 := hl
  have b0 := hn 0 _ (by decide) b0
  have b1 := hn 1 _ (by decide) b1
  have b2 := hn 2 _ (by decide) b2
  have b387 := hn 387 _ (by decide) b387
  have hC := hc.trans hC
  refine mt_runs 2 (f' := (101, [some (.ref 387), some (.int x1), some (.int x2), some (.int x3), some (.int x4), some (.int x5), some (.int 6), some (.int x2)], [.ref 387, .ref 387], _)) rfl ?_
  refine mu_get rfl b387 rfl ?_
  refine mt_runs 2 (f' := (106, [some (.ref 387), some (.int x1), some (.int x2), some (.int x3), some (.int x4), some (.int x5), some (.int 6), some (.int x2)], [.int 7, .ref 387], _)) rfl ?_
  refine mu_putX rfl b387 (Nat.le_of_ble_eq_true rfl) rfl (fun w hs hn hc => ?_)
  have b387 : w.1[387]? = some (.inr 13, [.ref 388, .int 7, .int 0, .int 0, .int 0, .int 0, .ref 389, .int 0, .ref 390, .int 0, .long 0, .int 0, .int 0, .int 0, .int (-1), .ref 391, .int 0, .int 0, .int 0, .int 0, .int 0, .int 0, .int 0, .ref 392, .int 0, .int 0, .int 0, .int 0, .int (-1), .int (-1), .int (-1), .ref 393, .ref 394, .int 0, .ref 395, .ref 396, .ref 397, .ref 398, .ref 399, .int 0, .int 0, .int 0, .int 0, .ref 400, .ref 401, .ref 402, .ref 403, .ref 404, .ref 405, .ref 406, .ref 407, .ref 408, .int 0, .ref 409, .int 0, .int 0, .int 0, .int 0, .int 0, .int 0, .int 0, .ref 410, .ref 411, .ref 412, .ref 413, .ref 414, .int 0, .ref 415, .ref 416, .ref 417, .ref 418, .ref 419, .ref 420, .ref 421, .ref 422, .ref 423, .ref 424, .ref 425, .ref 426, .ref 427, .ref 428, .ref 429, .int 0, .int (-1), .int (-1), .ref 430, .ref 431, .ref 432, .ref 433, .ref 434, .ref 435, .ref 436, .ref 437, .ref 438, .ref 439]) := hs
  have b0 := hn 0 _ (by decide) b0
  have b1 := hn 1 _ (by decide) b1
  have b2 := hn 2 _ (by decide) b2
  have b388 := hn 388 _ (by decide) b388
  have hC := hc.trans hC
  refine mt_runs 15 (f' := (74, [some (.ref 387), some (.int x1), some (.int x2), some (.int x3), some (.int x4), some (.int x5), some (.int 7), some (.int x2)], [.ref 387], _)) rfl ?_
  refine mu_get rfl b387 rfl ?_
  refine mt_runs 1 (f' := (78, [some (.ref 387), some (.int x1), some (.int x2), some (.int x3), some (.int x4), some (.int x5), some (.int 7), some (.int x2)], [.ref 387, .ref 388], _)) rfl ?_
  refine mu_get rfl b387 rfl ?_
  refine mt_runs 11 (f' := (98, [some (.ref 387), some (.int x1), some (.int x2), some (.int x3), some (.int x4), some (.int x5), some (.int 7), some (.int x2)], [.int ((x2 >>> ((0) &&& 31)) &&& (255)), .int 7, .ref 388], _)) rfl ?_
  refine mu_iastL (n := 7) (m := 1000) rfl b388 (by decide) (by decide) l388 (by decide) (fun w v hs hl hn hc => ?_)
  have b388 := hs; have l388 := hl
  have b0 := hn 0 _ (by decide) b0
  have b1 := hn 1 _ (by decide) b1
  have b2 := hn 2 _ (by decide) b2
  have b387 := hn 387 _ (by decide) b387
  have hC := hc.trans hC
  refine mt_runs 2 (f' := (101, [some (.ref 387), some (.int x1), some (.int x2), some (.int x3), some (.int x4), some (.int x5), some (.int 7), some (.int x2)], [.ref 387, .ref 387], _)) rfl ?_
  refine mu_get rfl b387 rfl ?_
  refine mt_runs 2 (f' := (106, [some (.ref 387), some (.int x1), some (.int x2), some (.int x3), some (.int x4), some (.int x5), some (.int 7), some (.int x2)], [.int 8, .ref 387], _)) rfl ?_
  refine mu_putX rfl b387 (Nat.le_of_ble_eq_true rfl) rfl (fun w hs hn hc => ?_)
  have b387 : w.1[387]? = some (.inr 13, [.ref 388, .int 8, .int 0, .int 0, .int 0, .int 0, .ref 389, .int 0, .ref 390, .int 0, .long 0, .int 0, .int 0, .int 0, .int (-1), .ref 391, .int 0, .int 0, .int 0, .int 0, .int 0, .int 0, .int 0, .ref 392, .int 0, .int 0, .int 0, .int 0, .int (-1), .int (-1), .int (-1), .ref 393, .ref 394, .int 0, .ref 395, .ref 396, .ref 397, .ref 398, .ref 399, .int 0, .int 0, .int 0, .int 0, .ref 400, .ref 401, .ref 402, .ref 403, .ref 404, .ref 405, .ref 406, .ref 407, .ref 408, .int 0, .ref 409, .int 0, .int 0, .int 0, .int 0, .int 0, .int 0, .int 0, .ref 410, .ref 411, .ref 412, .ref 413, .ref 414, .int 0, .ref 415, .ref 416, .ref 417, .ref 418, .ref 419, .ref 420, .ref 421, .ref 422, .ref 423, .ref 424, .ref 425, .ref 426, .ref 427, .ref 428, .ref 429, .int 0, .int (-1), .int (-1), .ref 430, .ref 431, .ref 432, .ref 433, .ref 434, .ref 435, .ref 436, .ref 437, .ref 438, .ref 439]) := hs
  have b0 := hn 0 _ (by decide) b0
  have b1 := hn 1 _ (by decide) b1
  have b2 := hn 2 _ (by decide) b2
  have b388 := hn 388 _ (by decide) b388
  have hC := hc.trans hC
  refine mt_runs 18 (f' := (74, [some (.ref 387), some (.int x1), some (.int x2), some (.int x3), some (.int x4), some (.int x5), some (.int 8), some (.int x3)], [.ref 387], _)) rfl ?_
  refine mu_get rfl b387 rfl ?_
  refine mt_runs 1 (f' := (78, [some (.ref 387), some (.int x1), some (.int x2), some (.int x3), some (.int x4), some (.int x5), some (.int 8), some (.int x3)], [.ref 387, .ref 388], _)) rfl ?_
  refine mu_get rfl b387 rfl ?_
  refine mt_runs 11 (f' := (98, [some (.ref 387), some (.int x1), some (.int x2), some (.int x3), some (.int x4), some (.int x5), some (.int 8), some (.int x3)], [.int ((x3 >>> ((24) &&& 31)) &&& (255)), .int 8, .ref 388], _)) rfl ?_
  refine mu_iastL (n := 8) (m := 1000) rfl b388 (by decide) (by decide) l388 (by decide) (fun w v hs hl hn hc => ?_)
  have b388 := hs; have l388 := hl
  have b0 := hn 0 _ (by decide) b0
  have b1 := hn 1 _ (by decide) b1
  have b2 := hn 2 _ (by decide) b2
  have b387 := hn 387 _ (by decide) b387
  have hC := hc.trans hC
  refine mt_runs 2 (f' := (101, [some (.ref 387), some (.int x1), some (.int x2), some (.int x3), some (.int x4), some (.int x5), some (.int 8), some (.int x3)], [.ref 387, .ref 387], _)) rfl ?_
  refine mu_get rfl b387 rfl ?_
  refine mt_runs 2 (f' := (106, [some (.ref 387), some (.int x1), some (.int x2), some (.int x3), some (.int x4), some (.int x5), some (.int 8), some (.int x3)], [.int 9, .ref 387], _)) rfl ?_
  refine mu_putX rfl b387 (Nat.le_of_ble_eq_true rfl) rfl (fun w hs hn hc => ?_)
  have b387 : w.1[387]? = some (.inr 13, [.ref 388, .int 9, .int 0, .int 0, .int 0, .int 0, .ref 389, .int 0, .ref 390, .int 0, .long 0, .int 0, .int 0, .int 0, .int (-1), .ref 391, .int 0, .int 0, .int 0, .int 0, .int 0, .int 0, .int 0, .ref 392, .int 0, .int 0, .int 0, .int 0, .int (-1), .int (-1), .int (-1), .ref 393, .ref 394, .int 0, .ref 395, .ref 396, .ref 397, .ref 398, .ref 399, .int 0, .int 0, .int 0, .int 0, .ref 400, .ref 401, .ref 402, .ref 403, .ref 404, .ref 405, .ref 406, .ref 407, .ref 408, .int 0, .ref 409, .int 0, .int 0, .int 0, .int 0, .int 0, .int 0, .int 0, .ref 410, .ref 411, .ref 412, .ref 413, .ref 414, .int 0, .ref 415, .ref 416, .ref 417, .ref 418, .ref 419, .ref 420, .ref 421, .ref 422, .ref 423, .ref 424, .ref 425, .ref 426, .ref 427, .ref 428, .ref 429, .int 0, .int (-1), .int (-1), .ref 430, .ref 431, .ref 432, .ref 433, .ref 434, .ref 435, .ref 436, .ref 437, .ref 438, .ref 439]) := hs
  have b0 := hn 0 _ (by decide) b0
  have b1 := hn 1 _ (by decide) b1
  have b2 := hn 2 _ (by decide) b2
  have b388 := hn 388 _ (by decide) b388
  have hC := hc.trans hC
  refine mt_runs 18 (f' := (74, [some (.ref 387), some (.int x1), some (.int x2), some (.int x3), some (.int x4), some (.int x5), some (.int 9), some (.int x3)], [.ref 387], _)) rfl ?_
  refine mu_get rfl b387 rfl ?_
  refine mt_runs 1 (f' := (78, [some (.ref 387), some (.int x1), some (.int x2), some (.int x3), some (.int x4), some (.int x5), some (.int 9), some (.int x3)], [.ref 387, .ref 388], _)) rfl ?_
  refine mu_get rfl b387 rfl ?_
  refine mt_runs 11 (f' := (98, [some (.ref 387), some (.int x1), some (.int x2), some (.int x3), some (.int x4), some (.int x5), some (.int 9), some (.int x3)], [.int ((x3 >>> ((16) &&& 31)) &&& (255)), .int 9, .ref 388], _)) rfl ?_
  refine mu_iastL (n := 9) (m := 1000) rfl b388 (by decide) (by decide) l388 (by decide) (fun w v hs hl hn hc => ?_)
  have b388 := hs; have l388 := hl
  have b0 := hn 0 _ (by decide) b0
  have b1 := hn 1 _ (by decide) b1
  have b2 := hn 2 _ (by decide) b2
  have b387 := hn 387 _ (by decide) b387
  have hC := hc.trans hC
  refine mt_runs 2 (f' := (101, [some (.ref 387), some (.int x1), some (.int x2), some (.int x3), some (.int x4), some (.int x5), some (.int 9), some (.int x3)], [.ref 387, .ref 387], _)) rfl ?_
  refine mu_get rfl b387 rfl ?_
  refine mt_runs 2 (f' := (106, [some (.ref 387), some (.int x1), some (.int x2), some (.int x3), some (.int x4), some (.int x5), some (.int 9), some (.int x3)], [.int 10, .ref 387], _)) rfl ?_
  refine mu_putX rfl b387 (Nat.le_of_ble_eq_true rfl) rfl (fun w hs hn hc => ?_)
  have b387 : w.1[387]? = some (.inr 13, [.ref 388, .int 10, .int 0, .int 0, .int 0, .int 0, .ref 389, .int 0, .ref 390, .int 0, .long 0, .int 0, .int 0, .int 0, .int (-1), .ref 391, .int 0, .int 0, .int 0, .int 0, .int 0, .int 0, .int 0, .ref 392, .int 0, .int 0, .int 0, .int 0, .int (-1), .int (-1), .int (-1), .ref 393, .ref 394, .int 0, .ref 395, .ref 396, .ref 397, .ref 398, .ref 399, .int 0, .int 0, .int 0, .int 0, .ref 400, .ref 401, .ref 402, .ref 403, .ref 404, .ref 405, .ref 406, .ref 407, .ref 408, .int 0, .ref 409, .int 0, .int 0, .int 0, .int 0, .int 0, .int 0, .int 0, .ref 410, .ref 411, .ref 412, .ref 413, .ref 414, .int 0, .ref 415, .ref 416, .ref 417, .ref 418, .ref 419, .ref 420, .ref 421, .ref 422, .ref 423, .ref 424, .ref 425, .ref 426, .ref 427, .ref 428, .ref 429, .int 0, .int (-1), .int (-1), .ref 430, .ref 431, .ref 432, .ref 433, .ref 434, .ref 435, .ref 436, .ref 437, .ref 438, .ref 439]) := hs
  have b0 := hn 0 _ (by decide) b0
  have b1 := hn 1 _ (by decide) b1
  have b2 := hn 2 _ (by decide) b2
  have b388 := hn 388 _ (by decide) b388
  have hC := hc.trans hC
  refine mt_runs 18 (f' := (74, [some (.ref 387), some (.int x1), some (.int x2), some (.int x3), some (.int x4), some (.int x5), some (.int 10), some (.int x3)], [.ref 387], _)) rfl ?_
  refine mu_get rfl b387 rfl ?_
  refine mt_runs 1 (f' := (78, [some (.ref 387), some (.int x1), some (.int x2), some (.int x3), some (.int x4), some (.int x5), some (.int 10), some (.int x3)], [.ref 387, .ref 388], _)) rfl ?_
  refine mu_get rfl b387 rfl ?_
  refine mt_runs 11 (f' := (98, [some (.ref 387), some (.int x1), some (.int x2), some (.int x3), some (.int x4), some (.int x5), some (.int 10), some (.int x3)], [.int ((x3 >>> ((8) &&& 31)) &&& (255)), .int 10, .ref 388], _)) rfl ?_
  refine mu_iastL (n := 10) (m := 1000) rfl b388 (by decide) (by decide) l388 (by decide) (fun w v hs hl hn hc => ?_)
  have b388 := hs; have l388 := hl
  have b0 := hn 0 _ (by decide) b0
  have b1 := hn 1 _ (by decide) b1
  have b2 := hn 2 _ (by decide) b2
  have b387 := hn 387 _ (by decide) b387
  have hC := hc.trans hC
  refine mt_runs 2 (f' := (101, [some (.ref 387), some (.int x1), some (.int x2), some (.int x3), some (.int x4), some (.int x5), some (.int 10), some (.int x3)], [.ref 387, .ref 387], _)) rfl ?_
  refine mu_get rfl b387 rfl ?_
  refine mt_runs 2 (f' := (106, [some (.ref 387), some (.int x1), some (.int x2), some (.int x3), some (.int x4), some (.int x5), some (.int 10), some (.int x3)], [.int 11, .ref 387], _)) rfl ?_
  refine mu_putX rfl b387 (Nat.le_of_ble_eq_true rfl) rfl (fun w hs hn hc => ?_)
  have b387 : w.1[387]? = some (.inr 13, [.ref 388, .int 11, .int 0, .int 0, .int 0, .int 0, .ref 389, .int 0, .ref 390, .int 0, .long 0, .int 0, .int 0, .int 0, .int (-1), .ref 391, .int 0, .int 0, .int 0, .int 0, .int 0, .int 0, .int 0, .ref 392, .int 0, .int 0, .int 0, .int 0, .int (-1), .int (-1), .int (-1), .ref 393, .ref 394, .int 0, .ref 395, .ref 396, .ref 397, .ref 398, .ref 399, .int 0, .int 0, .int 0, .int 0, .ref 400, .ref 401, .ref 402, .ref 403, .ref 404, .ref 405, .ref 406, .ref 407, .ref 408, .int 0, .ref 409, .int 0, .int 0, .int 0, .int 0, .int 0, .int 0, .int 0, .ref 410, .ref 411, .ref 412, .ref 413, .ref 414, .int 0, .ref 415, .ref 416, .ref 417, .ref 418, .ref 419, .ref 420, .ref 421, .ref 422, .ref 423, .ref 424, .ref 425, .ref 426, .ref 427, .ref 428, .ref 429, .int 0, .int (-1), .int (-1), .ref 430, .ref 431, .ref 432, .ref 433, .ref 434, .ref 435, .ref 436, .ref 437, .ref 438, .ref 439]) := hs
  have b0 := hn 0 _ (by decide) b0
  have b1 := hn 1 _ (by decide) b1
  have b2 := hn 2 _ (by decide) b2
  have b388 := hn 388 _ (by decide) b388
  have hC := hc.trans hC
  refine mt_runs 18 (f' := (74, [some (.ref 387), some (.int x1), some (.int x2), some (.int x3), some (.int x4), some (.int x5), some (.int 11), some (.int x3)], [.ref 387], _)) rfl ?_
  refine mu_get rfl b387 rfl ?_
  refine mt_runs 1 (f' := (78, [some (.ref 387), some (.int x1), some (.int x2), some (.int x3), some (.int x4), some (.int x5), some (.int 11), some (.int x3)], [.ref 387, .ref 388], _)) rfl ?_
  refine mu_get rfl b387 rfl ?_
  refine mt_runs 11 (f' := (98, [some (.ref 387), some (.int x1), some (.int x2), some (.int x3), some (.int x4), some (.int x5), some (.int 11), some (.int x3)], [.int ((x3 >>> ((0) &&& 31)) &&& (255)), .int 11, .ref 388], _)) rfl ?_
  refine mu_iastL (n := 11) (m := 1000) rfl b388 (by decide) (by decide) l388 (by decide) (fun w v hs hl hn hc => ?_)
  have b388 := hs; have l388 := hl
  have b0 := hn 0 _ (by decide) b0
  have b1 := hn 1 _ (by decide) b1
  have b2 := hn 2 _ (by decide) b2
  have b387 := hn 387 _ (by decide) b387
  have hC := hc.trans hC
  refine mt_runs 2 (f' := (101, [some (.ref 387), some (.int x1), some (.int x2), some (.int x3), some (.int x4), some (.int x5), some (.int 11), some (.int x3)], [.ref 387, .ref 387], _)) rfl ?_
  refine mu_get rfl b387 rfl ?_
  refine mt_runs 2 (f' := (106, [some (.ref 387), some (.int x1), some (.int x2), some (.int x3), some (.int x4), some (.int x5), some (.int 11), some (.int x3)], [.int 12, .ref 387], _)) rfl ?_
  refine mu_putX rfl b387 (Nat.le_of_ble_eq_true rfl) rfl (fun w hs hn hc => ?_)
  have b387 : w.1[387]? = some (.inr 13, [.ref 388, .int 12, .int 0, .int 0, .int 0, .int 0, .ref 389, .int 0, .ref 390, .int 0, .long 0, .int 0, .int 0, .int 0, .int (-1), .ref 391, .int 0, .int 0, .int 0, .int 0, .int 0, .int 0, .int 0, .ref 392, .int 0, .int 0, .int 0, .int 0, .int (-1), .int (-1), .int (-1), .ref 393, .ref 394, .int 0, .ref 395, .ref 396, .ref 397, .ref 398, .ref 399, .int 0, .int 0, .int 0, .int 0, .ref 400, .ref 401, .ref 402, .ref 403, .ref 404, .ref 405, .ref 406, .ref 407, .ref 408, .int 0, .ref 409, .int 0, .int 0, .int 0, .int 0, .int 0, .int 0, .int 0, .ref 410, .ref 411, .ref 412, .ref 413, .ref 414, .int 0, .ref 415, .ref 416, .ref 417, .ref 418, .ref 419, .ref 420, .ref 421, .ref 422, .ref 423, .ref 424, .ref 425, .ref 426, .ref 427, .ref 428, .ref 429, .int 0, .int (-1), .int (-1), .ref 430, .ref 431, .ref 432, .ref 433, .ref 434, .ref 435, .ref 436, .ref 437, .ref 438, .ref 439]) := hs
  have b0 := hn 0 _ (by decide) b0
  have b1 := hn 1 _ (by decide) b1
  have b2 := hn 2 _ (by decide) b2
  have b388 := hn 388 _ (by decide) b388
  have hC := hc.trans hC
  refine mt_runs 21 (f' := (74, [some (.ref 387), some (.int x1), some (.int x2), some (.int x3), some (.int x4), some (.int x5), some (.int 12), some (.int x4)], [.ref 387], _)) rfl ?_
  refine mu_get rfl b387 rfl ?_
  refine mt_runs 1 (f' := (78, [some (.ref 387), some (.int x1), some (.int x2), some (.int x3), some (.int x4), some (.int x5), some (.int 12), some (.int x4)], [.ref 387, .ref 388], _)) rfl ?_
  refine mu_get rfl b387 rfl ?_
  refine mt_runs 11 (f' := (98, [some (.ref 387), some (.int x1), some (.int x2), some (.int x3), some (.int x4), some (.int x5), some (.int 12), some (.int x4)], [.int ((x4 >>> ((24) &&& 31)) &&& (255)), .int 12, .ref 388], _)) rfl ?_
  refine mu_iastL (n := 12) (m := 1000) rfl b388 (by decide) (by decide) l388 (by decide) (fun w v hs hl hn hc => ?_)
  have b388 := hs; have l388 := hl
  have b0 := hn 0 _ (by decide) b0
  have b1 := hn 1 _ (by decide) b1
  have b2 := hn 2 _ (by decide) b2
  have b387 := hn 387 _ (by decide) b387
  have hC := hc.trans hC
  refine mt_runs 2 (f' := (101, [some (.ref 387), some (.int x1), some (.int x2), some (.int x3), some (.int x4), some (.int x5), some (.int 12), some (.int x4)], [.ref 387, .ref 387], _)) rfl ?_
  refine mu_get rfl b387 rfl ?_
  refine mt_runs 2 (f' := (106, [some (.ref 387), some (.int x1), some (.int x2), some (.int x3), some (.int x4), some (.int x5), some (.int 12), some (.int x4)], [.int 13, .ref 387], _)) rfl ?_
  refine mu_putX rfl b387 (Nat.le_of_ble_eq_true rfl) rfl (fun w hs hn hc => ?_)
  have b387 : w.1[387]? = some (.inr 13, [.ref 388, .int 13, .int 0, .int 0, .int 0, .int 0, .ref 389, .int 0, .ref 390, .int 0, .long 0, .int 0, .int 0, .int 0, .int (-1), .ref 391, .int 0, .int 0, .int 0, .int 0, .int 0, .int 0, .int 0, .ref 392, .int 0, .int 0, .int 0, .int 0, .int (-1), .int (-1), .int (-1), .ref 393, .ref 394, .int 0, .ref 395, .ref 396, .ref 397, .ref 398, .ref 399, .int 0, .int 0, .int 0, .int 0, .ref 400, .ref 401, .ref 402, .ref 403, .ref 404, .ref 405, .ref 406, .ref 407, .ref 408, .int 0, .ref 409, .int 0, .int 0, .int 0, .int 0, .int 0, .int 0, .int 0, .ref 410, .ref 411, .ref 412, .ref 413, .ref 414, .int 0, .ref 415, .ref 416, .ref 417, .ref 418, .ref 419, .ref 420, .ref 421, .ref 422, .ref 423, .ref 424, .ref 425, .ref 426, .ref 427, .ref 428, .ref 429, .int 0, .int (-1), .int (-1), .ref 430, .ref 431, .ref 432, .ref 433, .ref 434, .ref 435, .ref 436, .ref 437, .ref 438, .ref 439]) := hs
  have b0 := hn 0 _ (by decide) b0
  have b1 := hn 1 _ (by decide) b1
  have b2 := hn 2 _ (by decide) b2
  have b388 := hn 388 _ (by decide) b388
  have hC := hc.trans hC
  refine mt_runs 21 (f' := (74, [some (.ref 387), some (.int x1), some (.int x2), some (.int x3), some (.int x4), some (.int x5), some (.int 13), some (.int x4)], [.ref 387], _)) rfl ?_
  refine mu_get rfl b387 rfl ?_
  refine mt_runs 1 (f' := (78, [some (.ref 387), some (.int x1), some (.int x2), some (.int x3), some (.int x4), some (.int x5), some (.int 13), some (.int x4)], [.ref 387, .ref 388], _)) rfl ?_
  refine mu_get rfl b387 rfl ?_
  refine mt_runs 11 (f' := (98, [some (.ref 387), some (.int x1), some (.int x2), some (.int x3), some (.int x4), some (.int x5), some (.int 13), some (.int x4)], [.int ((x4 >>> ((16) &&& 31)) &&& (255)), .int 13, .ref 388], _)) rfl ?_
  refine mu_iastL (n := 13) (m := 1000) rfl b388 (by decide) (by decide) l388 (by decide) (fun w v hs hl hn hc => ?_)
  have b388 := hs; have l388 := hl
  have b0 := hn 0 _ (by decide) b0
  have b1 := hn 1 _ (by decide) b1
  have b2 := hn 2 _ (by decide) b2
  have b387 := hn 387 _ (by decide) b387
  have hC := hc.trans hC
  refine mt_runs 2 (f' := (101, [some (.ref 387), some (.int x1), some (.int x2), some (.int x3), some (.int x4), some (.int x5), some (.int 13), some (.int x4)], [.ref 387, .ref 387], _)) rfl ?_
  refine mu_get rfl b387 rfl ?_
  refine mt_runs 2 (f' := (106, [some (.ref 387), some (.int x1), some (.int x2), some (.int x3), some (.int x4), some (.int x5), some (.int 13), some (.int x4)], [.int 14, .ref 387], _)) rfl ?_
  refine mu_putX rfl b387 (Nat.le_of_ble_eq_true rfl) rfl (fun w hs hn hc => ?_)
  have b387 : w.1[387]? = some (.inr 13, [.ref 388, .int 14, .int 0, .int 0, .int 0, .int 0, .ref 389, .int 0, .ref 390, .int 0, .long 0, .int 0, .int 0, .int 0, .int (-1), .ref 391, .int 0, .int 0, .int 0, .int 0, .int 0, .int 0, .int 0, .ref 392, .int 0, .int 0, .int 0, .int 0, .int (-1), .int (-1), .int (-1), .ref 393, .ref 394, .int 0, .ref 395, .ref 396, .ref 397, .ref 398, .ref 399, .int 0, .int 0, .int 0, .int 0, .ref 400, .ref 401, .ref 402, .ref 403, .ref 404, .ref 405, .ref 406, .ref 407, .ref 408, .int 0, .ref 409, .int 0, .int 0, .int 0, .int 0, .int 0, .int 0, .int 0, .ref 410, .ref 411, .ref 412, .ref 413, .ref 414, .int 0, .ref 415, .ref 416, .ref 417, .ref 418, .ref 419, .ref 420, .ref 421, .ref 422, .ref 423, .ref 424, .ref 425, .ref 426, .ref 427, .ref 428, .ref 429, .int 0, .int (-1), .int (-1), .ref 430, .ref 431, .ref 432, .ref 433, .ref 434, .ref 435, .ref 436, .ref 437, .ref 438, .ref 439]) := hs
  have b0 := hn 0 _ (by decide) b0
  have b1 := hn 1 _ (by decide) b1
  have b2 := hn 2 _ (by decide) b2
  have b388 := hn 388 _ (by decide) b388
  have hC := hc.trans hC
  refine mt_runs 21 (f' := (74, [some (.ref 387), some (.int x1), some (.int x2), some (.int x3), some (.int x4), some (.int x5), some (.int 14), some (.int x4)], [.ref 387], _)) rfl ?_
  refine mu_get rfl b387 rfl ?_
  refine mt_runs 1 (f' := (78, [some (.ref 387), some (.int x1), some (.int x2), some (.int x3), some (.int x4), some (.int x5), some (.int 14), some (.int x4)], [.ref 387, .ref 388], _)) rfl ?_
  refine mu_get rfl b387 rfl ?_
  refine mt_runs 11 (f' := (98, [some (.ref 387), some (.int x1), some (.int x2), some (.int x3), some (.int x4), some (.int x5), some (.int 14), some (.int x4)], [.int ((x4 >>> ((8) &&& 31)) &&& (255)), .int 14, .ref 388], _)) rfl ?_
  refine mu_iastL (n := 14) (m := 1000) rfl b388 (by decide) (by decide) l388 (by decide) (fun w v hs hl hn hc => ?_)
  have b388 := hs; have l388 := hl
  have b0 := hn 0 _ (by decide) b0
  have b1 := hn 1 _ (by decide) b1
  have b2 := hn 2 _ (by decide) b2
  have b387 := hn 387 _ (by decide) b387
  have hC := hc.trans hC
  refine mt_runs 2 (f' := (101, [some (.ref 387), some (.int x1), some (.int x2), some (.int x3), some (.int x4), some (.int x5), some (.int 14), some (.int x4)], [.ref 387, .ref 387], _)) rfl ?_
  refine mu_get rfl b387 rfl ?_
  refine mt_runs 2 (f' := (106, [some (.ref 387), some (.int x1), some (.int x2), some (.int x3), some (.int x4), some (.int x5), some (.int 14), some (.int x4)], [.int 15, .ref 387], _)) rfl ?_
  refine mu_putX rfl b387 (Nat.le_of_ble_eq_true rfl) rfl (fun w hs hn hc => ?_)
  have b387 : w.1[387]? = some (.inr 13, [.ref 388, .int 15, .int 0, .int 0, .int 0, .int 0, .ref 389, .int 0, .ref 390, .int 0, .long 0, .int 0, .int 0, .int 0, .int (-1), .ref 391, .int 0, .int 0, .int 0, .int 0, .int 0, .int 0, .int 0, .ref 392, .int 0, .int 0, .int 0, .int 0, .int (-1), .int (-1), .int (-1), .ref 393, .ref 394, .int 0, .ref 395, .ref 396, .ref 397, .ref 398, .ref 399, .int 0, .int 0, .int 0, .int 0, .ref 400, .ref 401, .ref 402, .ref 403, .ref 404, .ref 405, .ref 406, .ref 407, .ref 408, .int 0, .ref 409, .int 0, .int 0, .int 0, .int 0, .int 0, .int 0, .int 0, .ref 410, .ref 411, .ref 412, .ref 413, .ref 414, .int 0, .ref 415, .ref 416, .ref 417, .ref 418, .ref 419, .ref 420, .ref 421, .ref 422, .ref 423, .ref 424, .ref 425, .ref 426, .ref 427, .ref 428, .ref 429, .int 0, .int (-1), .int (-1), .ref 430, .ref 431, .ref 432, .ref 433, .ref 434, .ref 435, .ref 436, .ref 437, .ref 438, .ref 439]) := hs
  have b0 := hn 0 _ (by decide) b0
  have b1 := hn 1 _ (by decide) b1
  have b2 := hn 2 _ (by decide) b2
  have b388 := hn 388 _ (by decide) b388
  have hC := hc.trans hC
  refine mt_runs 21 (f' := (74, [some (.ref 387), some (.int x1), some (.int x2), some (.int x3), some (.int x4), some (.int x5), some (.int 15), some (.int x4)], [.ref 387], _)) rfl ?_
  refine mu_get rfl b387 rfl ?_
  refine mt_runs 1 (f' := (78, [some (.ref 387), some (.int x1), some (.int x2), some (.int x3), some (.int x4), some (.int x5), some (.int 15), some (.int x4)], [.ref 387, .ref 388], _)) rfl ?_
  refine mu_get rfl b387 rfl ?_
  refine mt_runs 11 (f' := (98, [some (.ref 387), some (.int x1), some (.int x2), some (.int x3), some (.int x4), some (.int x5), some (.int 15), some (.int x4)], [.int ((x4 >>> ((0) &&& 31)) &&& (255)), .int 15, .ref 388], _)) rfl ?_
  refine mu_iastL (n := 15) (m := 1000) rfl b388 (by decide) (by decide) l388 (by decide) (fun w v hs hl hn hc => ?_)
  have b388 := hs; have l388 := hl
  have b0 := hn 0 _ (by decide) b0
  have b1 := hn 1 _ (by decide) b1
  have b2 := hn 2 _ (by decide) b2
  have b387 := hn 387 _ (by decide) b387
  have hC := hc.trans hC
  refine mt_runs 2 (f' := (101, [some (.ref 387), some (.int x1), some (.int x2), some (.int x3), some (.int x4), some (.int x5), some (.int 15), some (.int x4)], [.ref 387, .ref 387], _)) rfl ?_
  refine mu_get rfl b387 rfl ?_
  refine mt_runs 2 (f' := (106, [some (.ref 387), some (.int x1), some (.int x2), some (.int x3), some (.int x4), some (.int x5), some (.int 15), some (.int x4)], [.int 16, .ref 387], _)) rfl ?_
  refine mu_putX rfl b387 (Nat.le_of_ble_eq_true rfl) rfl (fun w hs hn hc => ?_)
  have b387 : w.1[387]? = some (.inr 13, [.ref 388, .int 16, .int 0, .int 0, .int 0, .int 0, .ref 389, .int 0, .ref 390, .int 0, .long 0, .int 0, .int 0, .int 0, .int (-1), .ref 391, .int 0, .int 0, .int 0, .int 0, .int 0, .int 0, .int 0, .ref 392, .int 0, .int 0, .int 0, .int 0, .int (-1), .int (-1), .int (-1), .ref 393, .ref 394, .int 0, .ref 395, .ref 396, .ref 397, .ref 398, .ref 399, .int 0, .int 0, .int 0, .int 0, .ref 400, .ref 401, .ref 402, .ref 403, .ref 404, .ref 405, .ref 406, .ref 407, .ref 408, .int 0, .ref 409, .int 0, .int 0, .int 0, .int 0, .int 0, .int 0, .int 0, .ref 410, .ref 411, .ref 412, .ref 413, .ref 414, .int 0, .ref 415, .ref 416, .ref 417, .ref 418, .ref 419, .ref 420, .ref 421, .ref 422, .ref 423, .ref 424, .ref 425, .ref 426, .ref 427, .ref 428, .ref 429, .int 0, .int (-1), .int (-1), .ref 430, .ref 431, .ref 432, .ref 433, .ref 434, .ref 435, .ref 436, .ref 437, .ref 438, .ref 439]) := hs
  have b0 := hn 0 _ (by decide) b0
  have b1 := hn 1 _ (by decide) b1
  have b2 := hn 2 _ (by decide) b2
  have b388 := hn 388 _ (by decide) b388
  have hC := hc.trans hC
  refine mt_runs 20 (f' := (74, [some (.ref 387), some (.int x1), some (.int x2), some (.int x3), some (.int x4), some (.int x5), some (.int 16), some (.int x5)], [.ref 387], _)) rfl ?_
  refine mu_get rfl b387 rfl ?_
  refine mt_runs 1 (f' := (78, [some (.ref 387), some (.int x1), some (.int x2), some (.int x3), some (.int x4), some (.int x5), some (.int 16), some (.int x5)], [.ref 387, .ref 388], _)) rfl ?_
  refine mu_get rfl b387 rfl ?_
  refine mt_runs 11 (f' := (98, [some (.ref 387), some (.int x1), some (.int x2), some (.int x3), some (.int x4), some (.int x5), some (.int 16), some (.int x5)], [.int ((x5 >>> ((24) &&& 31)) &&& (255)), .int 16, .ref 388], _)) rfl ?_
  refine mu_iastL (n := 16) (m := 1000) rfl b388 (by decide) (by decide) l388 (by decide) (fun w v hs hl hn hc => ?_)
  have b388 := hs; have l388 := hl
  have b0 := hn 0 _ (by decide) b0
  have b1 := hn 1 _ (by decide) b1
  have b2 := hn 2 _ (by decide) b2
  have b387 := hn 387 _ (by decide) b387
  have hC := hc.trans hC
  refine mt_runs 2 (f' := (101, [some (.ref 387), some (.int x1), some (.int x2), some (.int x3), some (.int x4), some (.int x5), some (.int 16), some (.int x5)], [.ref 387, .ref 387], _)) rfl ?_
  refine mu_get rfl b387 rfl ?_
  refine mt_runs 2 (f' := (106, [some (.ref 387), some (.int x1), some (.int x2), some (.int x3), some (.int x4), some (.int x5), some (.int 16), some (.int x5)], [.int 17, .ref 387], _)) rfl ?_
  refine mu_putX rfl b387 (Nat.le_of_ble_eq_true rfl) rfl (fun w hs hn hc => ?_)
  have b387 : w.1[387]? = some (.inr 13, [.ref 388, .int 17, .int 0, .int 0, .int 0, .int 0, .ref 389, .int 0, .ref 390, .int 0, .long 0, .int 0, .int 0, .int 0, .int (-1), .ref 391, .int 0, .int 0, .int 0, .int 0, .int 0, .int 0, .int 0, .ref 392, .int 0, .int 0, .int 0, .int 0, .int (-1), .int (-1), .int (-1), .ref 393, .ref 394, .int 0, .ref 395, .ref 396, .ref 397, .ref 398, .ref 399, .int 0, .int 0, .int 0, .int 0, .ref 400, .ref 401, .ref 402, .ref 403, .ref 404, .ref 405, .ref 406, .ref 407, .ref 408, .int 0, .ref 409, .int 0, .int 0, .int 0, .int 0, .int 0, .int 0, .int 0, .ref 410, .ref 411, .ref 412, .ref 413, .ref 414, .int 0, .ref 415, .ref 416, .ref 417, .ref 418, .ref 419, .ref 420, .ref 421, .ref 422, .ref 423, .ref 424, .ref 425, .ref 426, .ref 427, .ref 428, .ref 429, .int 0, .int (-1), .int (-1), .ref 430, .ref 431, .ref 432, .ref 433, .ref 434, .ref 435, .ref 436, .ref 437, .ref 438, .ref 439]) := hs
  have b0 := hn 0 _ (by decide) b0
  have b1 := hn 1 _ (by decide) b1
  have b2 := hn 2 _ (by decide) b2
  have b388 := hn 388 _ (by decide) b388
  have hC := hc.trans hC
  refine mt_runs 20 (f' := (74, [some (.ref 387), some (.int x1), some (.int x2), some (.int x3), some (.int x4), some (.int x5), some (.int 17), some (.int x5)], [.ref 387], _)) rfl ?_
  refine mu_get rfl b387 rfl ?_
  refine mt_runs 1 (f' := (78, [some (.ref 387), some (.int x1), some (.int x2), some (.int x3), some (.int x4), some (.int x5), some (.int 17), some (.int x5)], [.ref 387, .ref 388], _)) rfl ?_
  refine mu_get rfl b387 rfl ?_
  refine mt_runs 11 (f' := (98, [some (.ref 387), some (.int x1), some (.int x2), some (.int x3), some (.int x4), some (.int x5), some (.int 17), some (.int x5)], [.int ((x5 >>> ((16) &&& 31)) &&& (255)), .int 17, .ref 388], _)) rfl ?_
  refine mu_iastL (n := 17) (m := 1000) rfl b388 (by decide) (by decide) l388 (by decide) (fun w v hs hl hn hc => ?_)
  have b388 := hs; have l388 := hl
  have b0 := hn 0 _ (by decide) b0
  have b1 := hn 1 _ (by decide) b1
  have b2 := hn 2 _ (by decide) b2
  have b387 := hn 387 _ (by decide) b387
  have hC := hc.trans hC
  refine mt_runs 2 (f' := (101, [some (.ref 387), some (.int x1), some (.int x2), some (.int x3), some (.int x4), some (.int x5), some (.int 17), some (.int x5)], [.ref 387, .ref 387], _)) rfl ?_
  refine mu_get rfl b387 rfl ?_
  refine mt_runs 2 (f' := (106, [some (.ref 387), some (.int x1), some (.int x2), some (.int x3), some (.int x4), some (.int x5), some (.int 17), some (.int x5)], [.int 18, .ref 387], _)) rfl ?_
  refine mu_putX rfl b387 (Nat.le_of_ble_eq_true rfl) rfl (fun w hs hn hc => ?_)
  have b387 : w.1[387]? = some (.inr 13, [.ref 388, .int 18, .int 0, .int 0, .int 0, .int 0, .ref 389, .int 0, .ref 390, .int 0, .long 0, .int 0, .int 0, .int 0, .int (-1), .ref 391, .int 0, .int 0, .int 0, .int 0, .int 0, .int 0, .int 0, .ref 392, .int 0, .int 0, .int 0, .int 0, .int (-1), .int (-1), .int (-1), .ref 393, .ref 394, .int 0, .ref 395, .ref 396, .ref 397, .ref 398, .ref 399, .int 0, .int 0, .int 0, .int 0, .ref 400, .ref 401, .ref 402, .ref 403, .ref 404, .ref 405, .ref 406, .ref 407, .ref 408, .int 0, .ref 409, .int 0, .int 0, .int 0, .int 0, .int 0, .int 0, .int 0, .ref 410, .ref 411, .ref 412, .ref 413, .ref 414, .int 0, .ref 415, .ref 416, .ref 417, .ref 418, .ref 419, .ref 420, .ref 421, .ref 422, .ref 423, .ref 424, .ref 425, .ref 426, .ref 427, .ref 428, .ref 429, .int 0, .int (-1), .int (-1), .ref 430, .ref 431, .ref 432, .ref 433, .ref 434, .ref 435, .ref 436, .ref 437, .ref 438, .ref 439]) := hs
  have b0 := hn 0 _ (by decide) b0
  have b1 := hn 1 _ (by decide) b1
  have b2 := hn 2 _ (by decide) b2
  have b388 := hn 388 _ (by decide) b388
  have hC := hc.trans hC
  refine mt_runs 20 (f' := (74, [some (.ref 387), some (.int x1), some (.int x2), some (.int x3), some (.int x4), some (.int x5), some (.int 18), some (.int x5)], [.ref 387], _)) rfl ?_
  refine mu_get rfl b387 rfl ?_
  refine mt_runs 1 (f' := (78, [some (.ref 387), some (.int x1), some (.int x2), some (.int x3), some (.int x4), some (.int x5), some (.int 18), some (.int x5)], [.ref 387, .ref 388], _)) rfl ?_
  refine mu_get rfl b387 rfl ?_
  refine mt_runs 11 (f' := (98, [some (.ref 387), some (.int x1), some (.int x2), some (.int x3), some (.int x4), some (.int x5), some (.int 18), some (.int x5)], [.int ((x5 >>> ((8) &&& 31)) &&& (255)), .int 18, .ref 388], _)) rfl ?_
  refine mu_iastL (n := 18) (m := 1000) rfl b388 (by decide) (by decide) l388 (by decide) (fun w v hs hl hn hc => ?_)
  have b388 := hs; have l388 := hl
  have b0 := hn 0 _ (by decide) b0
  have b1 := hn 1 _ (by decide) b1
  have b2 := hn 2 _ (by decide) b2
  have b387 := hn 387 _ (by decide) b387
  have hC := hc.trans hC
  refine mt_runs 2 (f' := (101, [some (.ref 387), some (.int x1), some (.int x2), some (.int x3), some (.int x4), some (.int x5), some (.int 18), some (.int x5)], [.ref 387, .ref 387], _)) rfl ?_
  refine mu_get rfl b387 rfl ?_
  refine mt_runs 2 (f' := (106, [some (.ref 387), some (.int x1), some (.int x2), some (.int x3), some (.int x4), some (.int x5), some (.int 18), some (.int x5)], [.int 19, .ref 387], _)) rfl ?_
  refine mu_putX rfl b387 (Nat.le_of_ble_eq_true rfl) rfl (fun w hs hn hc => ?_)
  have b387 : w.1[387]? = some (.inr 13, [.ref 388, .int 19, .int 0, .int 0, .int 0, .int 0, .ref 389, .int 0, .ref 390, .int 0, .long 0, .int 0, .int 0, .int 0, .int (-1), .ref 391, .int 0, .int 0, .int 0, .int 0, .int 0, .int 0, .int 0, .ref 392, .int 0, .int 0, .int 0, .int 0, .int (-1), .int (-1), .int (-1), .ref 393, .ref 394, .int 0, .ref 395, .ref 396, .ref 397, .ref 398, .ref 399, .int 0, .int 0, .int 0, .int 0, .ref 400, .ref 401, .ref 402, .ref 403, .ref 404, .ref 405, .ref 406, .ref 407, .ref 408, .int 0, .ref 409, .int 0, .int 0, .int 0, .int 0, .int 0, .int 0, .int 0, .ref 410, .ref 411, .ref 412, .ref 413, .ref 414, .int 0, .ref 415, .ref 416, .ref 417, .ref 418, .ref 419, .ref 420, .ref 421, .ref 422, .ref 423, .ref 424, .ref 425, .ref 426, .ref 427, .ref 428, .ref 429, .int 0, .int (-1), .int (-1), .ref 430, .ref 431, .ref 432, .ref 433, .ref 434, .ref 435, .ref 436, .ref 437, .ref 438, .ref 439]) := hs
  have b0 := hn 0 _ (by decide) b0
  have b1 := hn 1 _ (by decide) b1
  have b2 := hn 2 _ (by decide) b2
  have b388 := hn 388 _ (by decide) b388
  have hC := hc.trans hC
  refine mt_runs 20 (f' := (74, [some (.ref 387), some (.int x1), some (.int x2), some (.int x3), some (.int x4), some (.int x5), some (.int 19), some (.int x5)], [.ref 387], _)) rfl ?_
  refine mu_get rfl b387 rfl ?_
  refine mt_runs 1 (f' := (78, [some (.ref 387), some (.int x1), some (.int x2), some (.int x3), some (.int x4), some (.int x5), some (.int 19), some (.int x5)], [.ref 387, .ref 388], _)) rfl ?_
  refine mu_get rfl b387 rfl ?_
  refine mt_runs 11 (f' := (98, [some (.ref 387), some (.int x1), some (.int x2), some (.int x3), some (.int x4), some (.int x5), some (.int 19), some (.int x5)], [.int ((x5 >>> ((0) &&& 31)) &&& (255)), .int 19, .ref 388], _)) rfl ?_
  refine mu_iastL (n := 19) (m := 1000) rfl b388 (by decide) (by decide) l388 (by decide) (fun w v hs hl hn hc => ?_)
  have b388 := hs; have l388 := hl
  have b0 := hn 0 _ (by decide) b0
  have b1 := hn 1 _ (by decide) b1
  have b2 := hn 2 _ (by decide) b2
  have b387 := hn 387 _ (by decide) b387
  have hC := hc.trans hC
  refine mt_runs 2 (f' := (101, [some (.ref 387), some (.int x1), some (.int x2), some (.int x3), some (.int x4), some (.int x5), some (.int 19), some (.int x5)], [.ref 387, .ref 387], _)) rfl ?_
  refine mu_get rfl b387 rfl ?_
  refine mt_runs 2 (f' := (106, [some (.ref 387), some (.int x1), some (.int x2), some (.int x3), some (.int x4), some (.int x5), some (.int 19), some (.int x5)], [.int 20, .ref 387], _)) rfl ?_
  refine mu_putX rfl b387 (Nat.le_of_ble_eq_true rfl) rfl (fun w hs hn hc => ?_)
  have b387 : w.1[387]? = some (.inr 13, [.ref 388, .int 20, .int 0, .int 0, .int 0, .int 0, .ref 389, .int 0, .ref 390, .int 0, .long 0, .int 0, .int 0, .int 0, .int (-1), .ref 391, .int 0, .int 0, .int 0, .int 0, .int 0, .int 0, .int 0, .ref 392, .int 0, .int 0, .int 0, .int 0, .int (-1), .int (-1), .int (-1), .ref 393, .ref 394, .int 0, .ref 395, .ref 396, .ref 397, .ref 398, .ref 399, .int 0, .int 0, .int 0, .int 0, .ref 400, .ref 401, .ref 402, .ref 403, .ref 404, .ref 405, .ref 406, .ref 407, .ref 408, .int 0, .ref 409, .int 0, .int 0, .int 0, .int 0, .int 0, .int 0, .int 0, .ref 410, .ref 411, .ref 412, .ref 413, .ref 414, .int 0, .ref 415, .ref 416, .ref 417, .ref 418, .ref 419, .ref 420, .ref 421, .ref 422, .ref 423, .ref 424, .ref 425, .ref 426, .ref 427, .ref 428, .ref 429, .int 0, .int (-1), .int (-1), .ref 430, .ref 431, .ref 432, .ref 433, .ref 434, .ref 435, .ref 436, .ref 437, .ref 438, .ref 439]) := hs
  have b0 := hn 0 _ (by decide) b0
  have b1 := hn 1 _ (by decide) b1
  have b2 := hn 2 _ (by decide) b2
  have b388 := hn 388 _ (by decide) b388
  have hC := hc.trans hC
  refine mt_runs 6 (f' := (116, [some (.ref 387), some (.int x1), some (.int x2), some (.int x3), some (.int x4), some (.int x5), some (.int 20), some (.int x5)], [.ref 387], _)) rfl ?_
  refine mu_get rfl b387 rfl ?_
  refine mt_ret rfl rfl ?_
  refine mt_runs 1 (f' := (958, [some (.retAddr 0), some (.ref 0), some (.ref 387), some (.int 0)], [], _)) rfl ?_
  exact mv_tail _ _ _ _ _ _ _ (by rw [hC]; exact Nat.le_of_ble_eq_true rfl) (by rw [hC]; exact Nat.le_of_ble_eq_true rfl)
