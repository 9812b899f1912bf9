/-! fields, one row each: laid by wip/whole/shallow.py -/
section FLD
variable {d k pc : Nat} {ls : mmL} {st : List hV} {w : mmW} {h h' : hS} {Q : mmO → Prop} {i t : Nat}
theorem gd_3_0 {x : Nat} {v : Nat} (hc : mt_code k pc = some (.getfield i, 3, 0, t)) (A : Abs h w) (e : gR h x 8 0 = some v) (g : hK d k (pc + 3) ls (vR v :: st) w Q) : hK d k pc ls (vR x :: st) w Q :=
  hg_gR hc A (gR_e e).1 (by decide) rfl (gR_e e).2.symm g
theorem gd_3_1 {x : Nat} {v : Int} (hc : mt_code k pc = some (.getfield i, 3, 1, t)) (A : Abs h w) (e : gI h x 8 1 = some v) (g : rg v → hK d k (pc + 3) ls (vI v :: st) w Q) : hK d k pc ls (vR x :: st) w Q :=
  hg_gI hc A (gI_e e).1 (by decide) rfl (gI_e e).2.symm g
theorem gd_3_2 {x : Nat} {v : Int} (hc : mt_code k pc = some (.getfield i, 3, 2, t)) (A : Abs h w) (e : gI h x 8 2 = some v) (g : rg v → hK d k (pc + 3) ls (vI v :: st) w Q) : hK d k pc ls (vR x :: st) w Q :=
  hg_gI hc A (gI_e e).1 (by decide) rfl (gI_e e).2.symm g
theorem gd_5_0 {x : Nat} {v : Nat} (hc : mt_code k pc = some (.getfield i, 5, 0, t)) (A : Abs h w) (e : gR h x 12 0 = some v) (g : hK d k (pc + 3) ls (vR v :: st) w Q) : hK d k pc ls (vR x :: st) w Q :=
  hg_gR hc A (gR_e e).1 (by decide) rfl (gR_e e).2.symm g
theorem gd_5_1 {x : Nat} {v : Nat} (hc : mt_code k pc = some (.getfield i, 5, 1, t)) (A : Abs h w) (e : gR h x 12 1 = some v) (g : hK d k (pc + 3) ls (vR v :: st) w Q) : hK d k pc ls (vR x :: st) w Q :=
  hg_gR hc A (gR_e e).1 (by decide) rfl (gR_e e).2.symm g
theorem gd_5_2 {x : Nat} {v : Int} (hc : mt_code k pc = some (.getfield i, 5, 2, t)) (A : Abs h w) (e : gI h x 12 2 = some v) (g : rg v → hK d k (pc + 3) ls (vI v :: st) w Q) : hK d k pc ls (vR x :: st) w Q :=
  hg_gI hc A (gI_e e).1 (by decide) rfl (gI_e e).2.symm g
theorem gd_5_3 {x : Nat} {v : Nat} (hc : mt_code k pc = some (.getfield i, 5, 3, t)) (A : Abs h w) (e : gR h x 12 3 = some v) (g : hK d k (pc + 3) ls (vR v :: st) w Q) : hK d k pc ls (vR x :: st) w Q :=
  hg_gR hc A (gR_e e).1 (by decide) rfl (gR_e e).2.symm g
theorem gd_5_4 {x : Nat} {v : Int} (hc : mt_code k pc = some (.getfield i, 5, 4, t)) (A : Abs h w) (e : gI h x 12 4 = some v) (g : rg v → hK d k (pc + 3) ls (vI v :: st) w Q) : hK d k pc ls (vR x :: st) w Q :=
  hg_gI hc A (gI_e e).1 (by decide) rfl (gI_e e).2.symm g
theorem gd_5_5 {x : Nat} {v : Int} (hc : mt_code k pc = some (.getfield i, 5, 5, t)) (A : Abs h w) (e : gI h x 12 5 = some v) (g : rg v → hK d k (pc + 3) ls (vI v :: st) w Q) : hK d k pc ls (vR x :: st) w Q :=
  hg_gI hc A (gI_e e).1 (by decide) rfl (gI_e e).2.symm g
theorem gd_5_6 {x : Nat} {v : Int} (hc : mt_code k pc = some (.getfield i, 5, 6, t)) (A : Abs h w) (e : gI h x 12 6 = some v) (g : rg v → hK d k (pc + 3) ls (vI v :: st) w Q) : hK d k pc ls (vR x :: st) w Q :=
  hg_gI hc A (gI_e e).1 (by decide) rfl (gI_e e).2.symm g
theorem gd_7_0 {x : Nat} {v : Int} (hc : mt_code k pc = some (.getfield i, 7, 0, t)) (A : Abs h w) (e : gI h x 16 0 = some v) (g : rg v → hK d k (pc + 3) ls (vI v :: st) w Q) : hK d k pc ls (vR x :: st) w Q :=
  hg_gI hc A (gI_e e).1 (by decide) rfl (gI_e e).2.symm g
theorem gd_7_1 {x : Nat} {v : Int} (hc : mt_code k pc = some (.getfield i, 7, 1, t)) (A : Abs h w) (e : gI h x 16 1 = some v) (g : rg v → hK d k (pc + 3) ls (vI v :: st) w Q) : hK d k pc ls (vR x :: st) w Q :=
  hg_gI hc A (gI_e e).1 (by decide) rfl (gI_e e).2.symm g
theorem gd_7_2 {x : Nat} {v : Nat} (hc : mt_code k pc = some (.getfield i, 7, 2, t)) (A : Abs h w) (e : gR h x 16 2 = some v) (g : hK d k (pc + 3) ls (vR v :: st) w Q) : hK d k pc ls (vR x :: st) w Q :=
  hg_gR hc A (gR_e e).1 (by decide) rfl (gR_e e).2.symm g
theorem gd_7_3 {x : Nat} {v : Nat} (hc : mt_code k pc = some (.getfield i, 7, 3, t)) (A : Abs h w) (e : gR h x 16 3 = some v) (g : hK d k (pc + 3) ls (vR v :: st) w Q) : hK d k pc ls (vR x :: st) w Q :=
  hg_gR hc A (gR_e e).1 (by decide) rfl (gR_e e).2.symm g
theorem gd_7_4 {x : Nat} {v : Nat} (hc : mt_code k pc = some (.getfield i, 7, 4, t)) (A : Abs h w) (e : gR h x 16 4 = some v) (g : hK d k (pc + 3) ls (vR v :: st) w Q) : hK d k pc ls (vR x :: st) w Q :=
  hg_gR hc A (gR_e e).1 (by decide) rfl (gR_e e).2.symm g
theorem gd_7_5 {x : Nat} {v : Nat} (hc : mt_code k pc = some (.getfield i, 7, 5, t)) (A : Abs h w) (e : gR h x 16 5 = some v) (g : hK d k (pc + 3) ls (vR v :: st) w Q) : hK d k pc ls (vR x :: st) w Q :=
  hg_gR hc A (gR_e e).1 (by decide) rfl (gR_e e).2.symm g
theorem gd_8_0 {x : Nat} {v : Nat} (hc : mt_code k pc = some (.getfield i, 8, 0, t)) (A : Abs h w) (e : gR h x 18 0 = some v) (g : hK d k (pc + 3) ls (vR v :: st) w Q) : hK d k pc ls (vR x :: st) w Q :=
  hg_gR hc A (gR_e e).1 (by decide) rfl (gR_e e).2.symm g
theorem gd_8_1 {x : Nat} {v : Int} (hc : mt_code k pc = some (.getfield i, 8, 1, t)) (A : Abs h w) (e : gI h x 18 1 = some v) (g : rg v → hK d k (pc + 3) ls (vI v :: st) w Q) : hK d k pc ls (vR x :: st) w Q :=
  hg_gI hc A (gI_e e).1 (by decide) rfl (gI_e e).2.symm g
theorem gd_9_0 {x : Nat} {v : Nat} (hc : mt_code k pc = some (.getfield i, 9, 0, t)) (A : Abs h w) (e : gR h x 20 0 = some v) (g : hK d k (pc + 3) ls (vR v :: st) w Q) : hK d k pc ls (vR x :: st) w Q :=
  hg_gR hc A (gR_e e).1 (by decide) rfl (gR_e e).2.symm g
theorem gd_9_1 {x : Nat} {v : Int} (hc : mt_code k pc = some (.getfield i, 9, 1, t)) (A : Abs h w) (e : gI h x 20 1 = some v) (g : rg v → hK d k (pc + 3) ls (vI v :: st) w Q) : hK d k pc ls (vR x :: st) w Q :=
  hg_gI hc A (gI_e e).1 (by decide) rfl (gI_e e).2.symm g
theorem gd_9_2 {x : Nat} {v : Int} (hc : mt_code k pc = some (.getfield i, 9, 2, t)) (A : Abs h w) (e : gI h x 20 2 = some v) (g : rg v → hK d k (pc + 3) ls (vI v :: st) w Q) : hK d k pc ls (vR x :: st) w Q :=
  hg_gI hc A (gI_e e).1 (by decide) rfl (gI_e e).2.symm g
theorem gd_9_3 {x : Nat} {v : Int} (hc : mt_code k pc = some (.getfield i, 9, 3, t)) (A : Abs h w) (e : gI h x 20 3 = some v) (g : rg v → hK d k (pc + 3) ls (vI v :: st) w Q) : hK d k pc ls (vR x :: st) w Q :=
  hg_gI hc A (gI_e e).1 (by decide) rfl (gI_e e).2.symm g
theorem gd_9_4 {x : Nat} {v : Int} (hc : mt_code k pc = some (.getfield i, 9, 4, t)) (A : Abs h w) (e : gI h x 20 4 = some v) (g : rg v → hK d k (pc + 3) ls (vI v :: st) w Q) : hK d k pc ls (vR x :: st) w Q :=
  hg_gI hc A (gI_e e).1 (by decide) rfl (gI_e e).2.symm g
theorem gd_9_5 {x : Nat} {v : Int} (hc : mt_code k pc = some (.getfield i, 9, 5, t)) (A : Abs h w) (e : gI h x 20 5 = some v) (g : rg v → hK d k (pc + 3) ls (vI v :: st) w Q) : hK d k pc ls (vR x :: st) w Q :=
  hg_gI hc A (gI_e e).1 (by decide) rfl (gI_e e).2.symm g
theorem gd_9_6 {x : Nat} {v : Int} (hc : mt_code k pc = some (.getfield i, 9, 6, t)) (A : Abs h w) (e : gI h x 20 6 = some v) (g : rg v → hK d k (pc + 3) ls (vI v :: st) w Q) : hK d k pc ls (vR x :: st) w Q :=
  hg_gI hc A (gI_e e).1 (by decide) rfl (gI_e e).2.symm g
theorem gd_10_0 {x : Nat} {v : Int} (hc : mt_code k pc = some (.getfield i, 10, 0, t)) (A : Abs h w) (e : gI h x 22 0 = some v) (g : rg v → hK d k (pc + 3) ls (vI v :: st) w Q) : hK d k pc ls (vR x :: st) w Q :=
  hg_gI hc A (gI_e e).1 (by decide) rfl (gI_e e).2.symm g
theorem gd_10_1 {x : Nat} {v : Int} (hc : mt_code k pc = some (.getfield i, 10, 1, t)) (A : Abs h w) (e : gI h x 22 1 = some v) (g : rg v → hK d k (pc + 3) ls (vI v :: st) w Q) : hK d k pc ls (vR x :: st) w Q :=
  hg_gI hc A (gI_e e).1 (by decide) rfl (gI_e e).2.symm g
theorem gd_10_2 {x : Nat} {v : Int} (hc : mt_code k pc = some (.getfield i, 10, 2, t)) (A : Abs h w) (e : gI h x 22 2 = some v) (g : rg v → hK d k (pc + 3) ls (vI v :: st) w Q) : hK d k pc ls (vR x :: st) w Q :=
  hg_gI hc A (gI_e e).1 (by decide) rfl (gI_e e).2.symm g
theorem gd_10_3 {x : Nat} {v : Int} (hc : mt_code k pc = some (.getfield i, 10, 3, t)) (A : Abs h w) (e : gI h x 22 3 = some v) (g : rg v → hK d k (pc + 3) ls (vI v :: st) w Q) : hK d k pc ls (vR x :: st) w Q :=
  hg_gI hc A (gI_e e).1 (by decide) rfl (gI_e e).2.symm g
theorem gd_10_4 {x : Nat} {v : Int} (hc : mt_code k pc = some (.getfield i, 10, 4, t)) (A : Abs h w) (e : gI h x 22 4 = some v) (g : rg v → hK d k (pc + 3) ls (vI v :: st) w Q) : hK d k pc ls (vR x :: st) w Q :=
  hg_gI hc A (gI_e e).1 (by decide) rfl (gI_e e).2.symm g
theorem gd_10_5 {x : Nat} {v : Nat} (hc : mt_code k pc = some (.getfield i, 10, 5, t)) (A : Abs h w) (e : gR h x 22 5 = some v) (g : hK d k (pc + 3) ls (vR v :: st) w Q) : hK d k pc ls (vR x :: st) w Q :=
  hg_gR hc A (gR_e e).1 (by decide) rfl (gR_e e).2.symm g
theorem gd_11_0 {x : Nat} {v : Int} (hc : mt_code k pc = some (.getfield i, 11, 0, t)) (A : Abs h w) (e : gI h x 24 0 = some v) (g : rg v → hK d k (pc + 3) ls (vI v :: st) w Q) : hK d k pc ls (vR x :: st) w Q :=
  hg_gI hc A (gI_e e).1 (by decide) rfl (gI_e e).2.symm g
theorem gd_11_1 {x : Nat} {v : Nat} (hc : mt_code k pc = some (.getfield i, 11, 1, t)) (A : Abs h w) (e : gR h x 24 1 = some v) (g : hK d k (pc + 3) ls (vR v :: st) w Q) : hK d k pc ls (vR x :: st) w Q :=
  hg_gR hc A (gR_e e).1 (by decide) rfl (gR_e e).2.symm g
theorem gd_11_2 {x : Nat} {v : Int} (hc : mt_code k pc = some (.getfield i, 11, 2, t)) (A : Abs h w) (e : gI h x 24 2 = some v) (g : rg v → hK d k (pc + 3) ls (vI v :: st) w Q) : hK d k pc ls (vR x :: st) w Q :=
  hg_gI hc A (gI_e e).1 (by decide) rfl (gI_e e).2.symm g
theorem gd_11_3 {x : Nat} {v : Int} (hc : mt_code k pc = some (.getfield i, 11, 3, t)) (A : Abs h w) (e : gI h x 24 3 = some v) (g : rg v → hK d k (pc + 3) ls (vI v :: st) w Q) : hK d k pc ls (vR x :: st) w Q :=
  hg_gI hc A (gI_e e).1 (by decide) rfl (gI_e e).2.symm g
theorem gd_11_4 {x : Nat} {v : Int} (hc : mt_code k pc = some (.getfield i, 11, 4, t)) (A : Abs h w) (e : gI h x 24 4 = some v) (g : rg v → hK d k (pc + 3) ls (vI v :: st) w Q) : hK d k pc ls (vR x :: st) w Q :=
  hg_gI hc A (gI_e e).1 (by decide) rfl (gI_e e).2.symm g
theorem gd_11_5 {x : Nat} {v : Nat} (hc : mt_code k pc = some (.getfield i, 11, 5, t)) (A : Abs h w) (e : gR h x 24 5 = some v) (g : hK d k (pc + 3) ls (vR v :: st) w Q) : hK d k pc ls (vR x :: st) w Q :=
  hg_gR hc A (gR_e e).1 (by decide) rfl (gR_e e).2.symm g
theorem gd_11_6 {x : Nat} {v : Nat} (hc : mt_code k pc = some (.getfield i, 11, 6, t)) (A : Abs h w) (e : gR h x 24 6 = some v) (g : hK d k (pc + 3) ls (vR v :: st) w Q) : hK d k pc ls (vR x :: st) w Q :=
  hg_gR hc A (gR_e e).1 (by decide) rfl (gR_e e).2.symm g
theorem gd_11_7 {x : Nat} {v : Nat} (hc : mt_code k pc = some (.getfield i, 11, 7, t)) (A : Abs h w) (e : gR h x 24 7 = some v) (g : hK d k (pc + 3) ls (vR v :: st) w Q) : hK d k pc ls (vR x :: st) w Q :=
  hg_gR hc A (gR_e e).1 (by decide) rfl (gR_e e).2.symm g
theorem gd_11_8 {x : Nat} {v : Int} (hc : mt_code k pc = some (.getfield i, 11, 8, t)) (A : Abs h w) (e : gI h x 24 8 = some v) (g : rg v → hK d k (pc + 3) ls (vI v :: st) w Q) : hK d k pc ls (vR x :: st) w Q :=
  hg_gI hc A (gI_e e).1 (by decide) rfl (gI_e e).2.symm g
theorem gd_11_9 {x : Nat} {v : Nat} (hc : mt_code k pc = some (.getfield i, 11, 9, t)) (A : Abs h w) (e : gR h x 24 9 = some v) (g : hK d k (pc + 3) ls (vR v :: st) w Q) : hK d k pc ls (vR x :: st) w Q :=
  hg_gR hc A (gR_e e).1 (by decide) rfl (gR_e e).2.symm g
theorem gd_11_10 {x : Nat} {v : Nat} (hc : mt_code k pc = some (.getfield i, 11, 10, t)) (A : Abs h w) (e : gR h x 24 10 = some v) (g : hK d k (pc + 3) ls (vR v :: st) w Q) : hK d k pc ls (vR x :: st) w Q :=
  hg_gR hc A (gR_e e).1 (by decide) rfl (gR_e e).2.symm g
theorem gd_11_11 {x : Nat} {v : Int} (hc : mt_code k pc = some (.getfield i, 11, 11, t)) (A : Abs h w) (e : gI h x 24 11 = some v) (g : rg v → hK d k (pc + 3) ls (vI v :: st) w Q) : hK d k pc ls (vR x :: st) w Q :=
  hg_gI hc A (gI_e e).1 (by decide) rfl (gI_e e).2.symm g
theorem gd_11_12 {x : Nat} {v : Nat} (hc : mt_code k pc = some (.getfield i, 11, 12, t)) (A : Abs h w) (e : gR h x 24 12 = some v) (g : hK d k (pc + 3) ls (vR v :: st) w Q) : hK d k pc ls (vR x :: st) w Q :=
  hg_gR hc A (gR_e e).1 (by decide) rfl (gR_e e).2.symm g
theorem gd_11_13 {x : Nat} {v : Nat} (hc : mt_code k pc = some (.getfield i, 11, 13, t)) (A : Abs h w) (e : gR h x 24 13 = some v) (g : hK d k (pc + 3) ls (vR v :: st) w Q) : hK d k pc ls (vR x :: st) w Q :=
  hg_gR hc A (gR_e e).1 (by decide) rfl (gR_e e).2.symm g
theorem gd_11_14 {x : Nat} {v : Nat} (hc : mt_code k pc = some (.getfield i, 11, 14, t)) (A : Abs h w) (e : gR h x 24 14 = some v) (g : hK d k (pc + 3) ls (vR v :: st) w Q) : hK d k pc ls (vR x :: st) w Q :=
  hg_gR hc A (gR_e e).1 (by decide) rfl (gR_e e).2.symm g
theorem gd_11_15 {x : Nat} {v : Nat} (hc : mt_code k pc = some (.getfield i, 11, 15, t)) (A : Abs h w) (e : gR h x 24 15 = some v) (g : hK d k (pc + 3) ls (vR v :: st) w Q) : hK d k pc ls (vR x :: st) w Q :=
  hg_gR hc A (gR_e e).1 (by decide) rfl (gR_e e).2.symm g
theorem gd_11_16 {x : Nat} {v : Nat} (hc : mt_code k pc = some (.getfield i, 11, 16, t)) (A : Abs h w) (e : gR h x 24 16 = some v) (g : hK d k (pc + 3) ls (vR v :: st) w Q) : hK d k pc ls (vR x :: st) w Q :=
  hg_gR hc A (gR_e e).1 (by decide) rfl (gR_e e).2.symm g
theorem gd_11_17 {x : Nat} {v : Nat} (hc : mt_code k pc = some (.getfield i, 11, 17, t)) (A : Abs h w) (e : gR h x 24 17 = some v) (g : hK d k (pc + 3) ls (vR v :: st) w Q) : hK d k pc ls (vR x :: st) w Q :=
  hg_gR hc A (gR_e e).1 (by decide) rfl (gR_e e).2.symm g
theorem gd_11_18 {x : Nat} {v : Nat} (hc : mt_code k pc = some (.getfield i, 11, 18, t)) (A : Abs h w) (e : gR h x 24 18 = some v) (g : hK d k (pc + 3) ls (vR v :: st) w Q) : hK d k pc ls (vR x :: st) w Q :=
  hg_gR hc A (gR_e e).1 (by decide) rfl (gR_e e).2.symm g
theorem gd_12_0 {x : Nat} {v : Nat} (hc : mt_code k pc = some (.getfield i, 12, 0, t)) (A : Abs h w) (e : gR h x 26 0 = some v) (g : hK d k (pc + 3) ls (vR v :: st) w Q) : hK d k pc ls (vR x :: st) w Q :=
  hg_gR hc A (gR_e e).1 (by decide) rfl (gR_e e).2.symm g
theorem gd_12_1 {x : Nat} {v : Int} (hc : mt_code k pc = some (.getfield i, 12, 1, t)) (A : Abs h w) (e : gI h x 26 1 = some v) (g : rg v → hK d k (pc + 3) ls (vI v :: st) w Q) : hK d k pc ls (vR x :: st) w Q :=
  hg_gI hc A (gI_e e).1 (by decide) rfl (gI_e e).2.symm g
theorem gd_1000_0 {x : Nat} {v : Int} (hc : mt_code k pc = some (.getfield i, 1000, 0, t)) (A : Abs h w) (e : gI h x 2002 0 = some v) (g : rg v → hK d k (pc + 3) ls (vI v :: st) w Q) : hK d k pc ls (vR x :: st) w Q :=
  hg_gI hc A (gI_e e).1 (by decide) rfl (gI_e e).2.symm g
theorem gd_1000_1 {x : Nat} {v : Nat} (hc : mt_code k pc = some (.getfield i, 1000, 1, t)) (A : Abs h w) (e : gR h x 2002 1 = some v) (g : hK d k (pc + 3) ls (vR v :: st) w Q) : hK d k pc ls (vR x :: st) w Q :=
  hg_gR hc A (gR_e e).1 (by decide) rfl (gR_e e).2.symm g
theorem gs_8_0 (hc : mt_code k pc = some (.getfield i, 0, 0, t)) (A : Abs h w) (g : hK d k (pc + 3) ls (vR 9 :: st) w Q) : hK d k pc ls (vR 8 :: st) w Q :=
  hg_gR hc A (Abs_ks A (i := 0) rfl).1 (by decide) rfl (Abs_kf A (i := 0) rfl) g
theorem gs_8_1 (hc : mt_code k pc = some (.getfield i, 0, 1, t)) (A : Abs h w) (g : hK d k (pc + 3) ls (vR 15 :: st) w Q) : hK d k pc ls (vR 8 :: st) w Q :=
  hg_gR hc A (Abs_ks A (i := 0) rfl).1 (by decide) rfl (Abs_kf A (i := 1) rfl) g
theorem gs_8_2 (hc : mt_code k pc = some (.getfield i, 0, 2, t)) (A : Abs h w) (g : hK d k (pc + 3) ls (vR 19 :: st) w Q) : hK d k pc ls (vR 8 :: st) w Q :=
  hg_gR hc A (Abs_ks A (i := 0) rfl).1 (by decide) rfl (Abs_kf A (i := 2) rfl) g
theorem gs_8_3 (hc : mt_code k pc = some (.getfield i, 0, 3, t)) (A : Abs h w) (g : hK d k (pc + 3) ls (vR 20 :: st) w Q) : hK d k pc ls (vR 8 :: st) w Q :=
  hg_gR hc A (Abs_ks A (i := 0) rfl).1 (by decide) rfl (Abs_kf A (i := 3) rfl) g
theorem gs_8_4 (hc : mt_code k pc = some (.getfield i, 0, 4, t)) (A : Abs h w) (g : hK d k (pc + 3) ls (vR 21 :: st) w Q) : hK d k pc ls (vR 8 :: st) w Q :=
  hg_gR hc A (Abs_ks A (i := 0) rfl).1 (by decide) rfl (Abs_kf A (i := 4) rfl) g
theorem gs_8_5 (hc : mt_code k pc = some (.getfield i, 0, 5, t)) (A : Abs h w) (g : hK d k (pc + 3) ls (vR 22 :: st) w Q) : hK d k pc ls (vR 8 :: st) w Q :=
  hg_gR hc A (Abs_ks A (i := 0) rfl).1 (by decide) rfl (Abs_kf A (i := 5) rfl) g
theorem gs_8_6 (hc : mt_code k pc = some (.getfield i, 0, 6, t)) (A : Abs h w) (g : hK d k (pc + 3) ls (vR 48 :: st) w Q) : hK d k pc ls (vR 8 :: st) w Q :=
  hg_gR hc A (Abs_ks A (i := 0) rfl).1 (by decide) rfl (Abs_kf A (i := 6) rfl) g
theorem gs_8_7 (hc : mt_code k pc = some (.getfield i, 0, 7, t)) (A : Abs h w) (g : hK d k (pc + 3) ls (vR (hR h 8 7) :: st) w Q) : hK d k pc ls (vR 8 :: st) w Q :=
  hg_gR hc A (Abs_ks A (i := 0) rfl).1 (by decide) rfl rfl g
theorem gs_8_8 (hc : mt_code k pc = some (.getfield i, 0, 8, t)) (A : Abs h w) (g : hK d k (pc + 3) ls (vI (hI h 8 8) :: st) w Q) : hK d k pc ls (vR 8 :: st) w Q :=
  hg_gI hc A (Abs_ks A (i := 0) rfl).1 (by decide) rfl rfl (fun _ => g)
theorem gs_8_9 (hc : mt_code k pc = some (.getfield i, 0, 9, t)) (A : Abs h w) (g : hK d k (pc + 3) ls (vI (hI h 8 9) :: st) w Q) : hK d k pc ls (vR 8 :: st) w Q :=
  hg_gI hc A (Abs_ks A (i := 0) rfl).1 (by decide) rfl rfl (fun _ => g)
theorem gs_8_10 (hc : mt_code k pc = some (.getfield i, 0, 10, t)) (A : Abs h w) (g : hK d k (pc + 3) ls (vI (hI h 8 10) :: st) w Q) : hK d k pc ls (vR 8 :: st) w Q :=
  hg_gI hc A (Abs_ks A (i := 0) rfl).1 (by decide) rfl rfl (fun _ => g)
theorem gs_8_11 (hc : mt_code k pc = some (.getfield i, 0, 11, t)) (A : Abs h w) (g : hK d k (pc + 3) ls (vI (hI h 8 11) :: st) w Q) : hK d k pc ls (vR 8 :: st) w Q :=
  hg_gI hc A (Abs_ks A (i := 0) rfl).1 (by decide) rfl rfl (fun _ => g)
theorem gs_8_12 (hc : mt_code k pc = some (.getfield i, 0, 12, t)) (A : Abs h w) (g : hK d k (pc + 3) ls (vI (hI h 8 12) :: st) w Q) : hK d k pc ls (vR 8 :: st) w Q :=
  hg_gI hc A (Abs_ks A (i := 0) rfl).1 (by decide) rfl rfl (fun _ => g)
theorem gs_8_13 (hc : mt_code k pc = some (.getfield i, 0, 13, t)) (A : Abs h w) (g : hK d k (pc + 3) ls (vI (hI h 8 13) :: st) w Q) : hK d k pc ls (vR 8 :: st) w Q :=
  hg_gI hc A (Abs_ks A (i := 0) rfl).1 (by decide) rfl rfl (fun _ => g)
theorem gs_9_0 (hc : mt_code k pc = some (.getfield i, 1, 0, t)) (A : Abs h w) (g : hK d k (pc + 3) ls (vR 10 :: st) w Q) : hK d k pc ls (vR 9 :: st) w Q :=
  hg_gR hc A (Abs_ks A (i := 1) rfl).1 (by decide) rfl (Abs_kf A (i := 7) rfl) g
theorem gs_9_1 (hc : mt_code k pc = some (.getfield i, 1, 1, t)) (A : Abs h w) (g : hK d k (pc + 3) ls (vI (hI h 9 1) :: st) w Q) : hK d k pc ls (vR 9 :: st) w Q :=
  hg_gI hc A (Abs_ks A (i := 1) rfl).1 (by decide) rfl rfl (fun _ => g)
theorem gs_9_2 (hc : mt_code k pc = some (.getfield i, 1, 2, t)) (A : Abs h w) (g : hK d k (pc + 3) ls (vR 11 :: st) w Q) : hK d k pc ls (vR 9 :: st) w Q :=
  hg_gR hc A (Abs_ks A (i := 1) rfl).1 (by decide) rfl (Abs_kf A (i := 8) rfl) g
theorem gs_9_3 (hc : mt_code k pc = some (.getfield i, 1, 3, t)) (A : Abs h w) (g : hK d k (pc + 3) ls (vR 12 :: st) w Q) : hK d k pc ls (vR 9 :: st) w Q :=
  hg_gR hc A (Abs_ks A (i := 1) rfl).1 (by decide) rfl (Abs_kf A (i := 9) rfl) g
theorem gs_9_4 (hc : mt_code k pc = some (.getfield i, 1, 4, t)) (A : Abs h w) (g : hK d k (pc + 3) ls (vR 13 :: st) w Q) : hK d k pc ls (vR 9 :: st) w Q :=
  hg_gR hc A (Abs_ks A (i := 1) rfl).1 (by decide) rfl (Abs_kf A (i := 10) rfl) g
theorem gs_9_5 (hc : mt_code k pc = some (.getfield i, 1, 5, t)) (A : Abs h w) (g : hK d k (pc + 3) ls (vI (hI h 9 5) :: st) w Q) : hK d k pc ls (vR 9 :: st) w Q :=
  hg_gI hc A (Abs_ks A (i := 1) rfl).1 (by decide) rfl rfl (fun _ => g)
theorem gs_9_6 (hc : mt_code k pc = some (.getfield i, 1, 6, t)) (A : Abs h w) (g : hK d k (pc + 3) ls (vR 14 :: st) w Q) : hK d k pc ls (vR 9 :: st) w Q :=
  hg_gR hc A (Abs_ks A (i := 1) rfl).1 (by decide) rfl (Abs_kf A (i := 11) rfl) g
theorem gs_15_0 (hc : mt_code k pc = some (.getfield i, 2, 0, t)) (A : Abs h w) (g : hK d k (pc + 3) ls (vR 9 :: st) w Q) : hK d k pc ls (vR 15 :: st) w Q :=
  hg_gR hc A (Abs_ks A (i := 7) rfl).1 (by decide) rfl (Abs_kf A (i := 12) rfl) g
theorem gs_15_1 (hc : mt_code k pc = some (.getfield i, 2, 1, t)) (A : Abs h w) (g : hK d k (pc + 3) ls (vR 16 :: st) w Q) : hK d k pc ls (vR 15 :: st) w Q :=
  hg_gR hc A (Abs_ks A (i := 7) rfl).1 (by decide) rfl (Abs_kf A (i := 13) rfl) g
theorem gs_15_2 (hc : mt_code k pc = some (.getfield i, 2, 2, t)) (A : Abs h w) (g : hK d k (pc + 3) ls (vI (hI h 15 2) :: st) w Q) : hK d k pc ls (vR 15 :: st) w Q :=
  hg_gI hc A (Abs_ks A (i := 7) rfl).1 (by decide) rfl rfl (fun _ => g)
theorem gs_15_3 (hc : mt_code k pc = some (.getfield i, 2, 3, t)) (A : Abs h w) (g : hK d k (pc + 3) ls (vI (hI h 15 3) :: st) w Q) : hK d k pc ls (vR 15 :: st) w Q :=
  hg_gI hc A (Abs_ks A (i := 7) rfl).1 (by decide) rfl rfl (fun _ => g)
theorem gs_15_4 (hc : mt_code k pc = some (.getfield i, 2, 4, t)) (A : Abs h w) (g : hK d k (pc + 3) ls (vI (hI h 15 4) :: st) w Q) : hK d k pc ls (vR 15 :: st) w Q :=
  hg_gI hc A (Abs_ks A (i := 7) rfl).1 (by decide) rfl rfl (fun _ => g)
theorem gs_15_5 (hc : mt_code k pc = some (.getfield i, 2, 5, t)) (A : Abs h w) (g : hK d k (pc + 3) ls (vI (hI h 15 5) :: st) w Q) : hK d k pc ls (vR 15 :: st) w Q :=
  hg_gI hc A (Abs_ks A (i := 7) rfl).1 (by decide) rfl rfl (fun _ => g)
theorem gs_15_6 (hc : mt_code k pc = some (.getfield i, 2, 6, t)) (A : Abs h w) (g : hK d k (pc + 3) ls (vR 17 :: st) w Q) : hK d k pc ls (vR 15 :: st) w Q :=
  hg_gR hc A (Abs_ks A (i := 7) rfl).1 (by decide) rfl (Abs_kf A (i := 14) rfl) g
theorem gs_15_7 (hc : mt_code k pc = some (.getfield i, 2, 7, t)) (A : Abs h w) (g : hK d k (pc + 3) ls (vI (hI h 15 7) :: st) w Q) : hK d k pc ls (vR 15 :: st) w Q :=
  hg_gI hc A (Abs_ks A (i := 7) rfl).1 (by decide) rfl rfl (fun _ => g)
theorem gs_15_8 (hc : mt_code k pc = some (.getfield i, 2, 8, t)) (A : Abs h w) (g : hK d k (pc + 3) ls (vI (hI h 15 8) :: st) w Q) : hK d k pc ls (vR 15 :: st) w Q :=
  hg_gI hc A (Abs_ks A (i := 7) rfl).1 (by decide) rfl rfl (fun _ => g)
theorem gs_15_9 (hc : mt_code k pc = some (.getfield i, 2, 9, t)) (A : Abs h w) (g : hK d k (pc + 3) ls (vI (hI h 15 9) :: st) w Q) : hK d k pc ls (vR 15 :: st) w Q :=
  hg_gI hc A (Abs_ks A (i := 7) rfl).1 (by decide) rfl rfl (fun _ => g)
theorem gs_15_10 (hc : mt_code k pc = some (.getfield i, 2, 10, t)) (A : Abs h w) (g : hK d k (pc + 3) ls (vI (hI h 15 10) :: st) w Q) : hK d k pc ls (vR 15 :: st) w Q :=
  hg_gI hc A (Abs_ks A (i := 7) rfl).1 (by decide) rfl rfl (fun _ => g)
theorem gs_15_11 (hc : mt_code k pc = some (.getfield i, 2, 11, t)) (A : Abs h w) (g : hK d k (pc + 3) ls (vR (hR h 15 11) :: st) w Q) : hK d k pc ls (vR 15 :: st) w Q :=
  hg_gR hc A (Abs_ks A (i := 7) rfl).1 (by decide) rfl rfl g
theorem gs_15_12 (hc : mt_code k pc = some (.getfield i, 2, 12, t)) (A : Abs h w) (g : hK d k (pc + 3) ls (vR (hR h 15 12) :: st) w Q) : hK d k pc ls (vR 15 :: st) w Q :=
  hg_gR hc A (Abs_ks A (i := 7) rfl).1 (by decide) rfl rfl g
theorem gs_22_0 (hc : mt_code k pc = some (.getfield i, 4, 0, t)) (A : Abs h w) (g : hK d k (pc + 3) ls (vR 19 :: st) w Q) : hK d k pc ls (vR 22 :: st) w Q :=
  hg_gR hc A (Abs_ks A (i := 13) rfl).1 (by decide) rfl (Abs_kf A (i := 15) rfl) g
theorem gs_22_1 (hc : mt_code k pc = some (.getfield i, 4, 1, t)) (A : Abs h w) (g : hK d k (pc + 3) ls (vR 23 :: st) w Q) : hK d k pc ls (vR 22 :: st) w Q :=
  hg_gR hc A (Abs_ks A (i := 13) rfl).1 (by decide) rfl (Abs_kf A (i := 16) rfl) g
theorem gs_22_2 (hc : mt_code k pc = some (.getfield i, 4, 2, t)) (A : Abs h w) (g : hK d k (pc + 3) ls (vR 24 :: st) w Q) : hK d k pc ls (vR 22 :: st) w Q :=
  hg_gR hc A (Abs_ks A (i := 13) rfl).1 (by decide) rfl (Abs_kf A (i := 17) rfl) g
theorem gs_22_3 (hc : mt_code k pc = some (.getfield i, 4, 3, t)) (A : Abs h w) (g : hK d k (pc + 3) ls (vI (hI h 22 3) :: st) w Q) : hK d k pc ls (vR 22 :: st) w Q :=
  hg_gI hc A (Abs_ks A (i := 13) rfl).1 (by decide) rfl rfl (fun _ => g)
theorem gs_22_4 (hc : mt_code k pc = some (.getfield i, 4, 4, t)) (A : Abs h w) (g : hK d k (pc + 3) ls (vR 25 :: st) w Q) : hK d k pc ls (vR 22 :: st) w Q :=
  hg_gR hc A (Abs_ks A (i := 13) rfl).1 (by decide) rfl (Abs_kf A (i := 18) rfl) g
theorem gs_22_5 (hc : mt_code k pc = some (.getfield i, 4, 5, t)) (A : Abs h w) (g : hK d k (pc + 3) ls (vI (hI h 22 5) :: st) w Q) : hK d k pc ls (vR 22 :: st) w Q :=
  hg_gI hc A (Abs_ks A (i := 13) rfl).1 (by decide) rfl rfl (fun _ => g)
theorem gs_22_6 (hc : mt_code k pc = some (.getfield i, 4, 6, t)) (A : Abs h w) (g : hK d k (pc + 3) ls (vI (hI h 22 6) :: st) w Q) : hK d k pc ls (vR 22 :: st) w Q :=
  hg_gI hc A (Abs_ks A (i := 13) rfl).1 (by decide) rfl rfl (fun _ => g)
theorem gs_22_7 (hc : mt_code k pc = some (.getfield i, 4, 7, t)) (A : Abs h w) (g : hK d k (pc + 3) ls (vI (hI h 22 7) :: st) w Q) : hK d k pc ls (vR 22 :: st) w Q :=
  hg_gI hc A (Abs_ks A (i := 13) rfl).1 (by decide) rfl rfl (fun _ => g)
theorem gs_22_8 (hc : mt_code k pc = some (.getfield i, 4, 8, t)) (A : Abs h w) (g : hK d k (pc + 3) ls (vI (hI h 22 8) :: st) w Q) : hK d k pc ls (vR 22 :: st) w Q :=
  hg_gI hc A (Abs_ks A (i := 13) rfl).1 (by decide) rfl rfl (fun _ => g)
theorem gs_22_9 (hc : mt_code k pc = some (.getfield i, 4, 9, t)) (A : Abs h w) (g : hK d k (pc + 3) ls (vI (hI h 22 9) :: st) w Q) : hK d k pc ls (vR 22 :: st) w Q :=
  hg_gI hc A (Abs_ks A (i := 13) rfl).1 (by decide) rfl rfl (fun _ => g)
theorem gs_22_10 (hc : mt_code k pc = some (.getfield i, 4, 10, t)) (A : Abs h w) (g : hK d k (pc + 3) ls (vI (hI h 22 10) :: st) w Q) : hK d k pc ls (vR 22 :: st) w Q :=
  hg_gI hc A (Abs_ks A (i := 13) rfl).1 (by decide) rfl rfl (fun _ => g)
theorem gs_22_11 (hc : mt_code k pc = some (.getfield i, 4, 11, t)) (A : Abs h w) (g : hK d k (pc + 3) ls (vI (hI h 22 11) :: st) w Q) : hK d k pc ls (vR 22 :: st) w Q :=
  hg_gI hc A (Abs_ks A (i := 13) rfl).1 (by decide) rfl rfl (fun _ => g)
theorem gs_22_12 (hc : mt_code k pc = some (.getfield i, 4, 12, t)) (A : Abs h w) (g : hK d k (pc + 3) ls (vR 26 :: st) w Q) : hK d k pc ls (vR 22 :: st) w Q :=
  hg_gR hc A (Abs_ks A (i := 13) rfl).1 (by decide) rfl (Abs_kf A (i := 19) rfl) g
theorem gs_22_13 (hc : mt_code k pc = some (.getfield i, 4, 13, t)) (A : Abs h w) (g : hK d k (pc + 3) ls (vI (hI h 22 13) :: st) w Q) : hK d k pc ls (vR 22 :: st) w Q :=
  hg_gI hc A (Abs_ks A (i := 13) rfl).1 (by decide) rfl rfl (fun _ => g)
theorem gs_48_0 (hc : mt_code k pc = some (.getfield i, 6, 0, t)) (A : Abs h w) (g : hK d k (pc + 3) ls (vR 19 :: st) w Q) : hK d k pc ls (vR 48 :: st) w Q :=
  hg_gR hc A (Abs_ks A (i := 18) rfl).1 (by decide) rfl (Abs_kf A (i := 20) rfl) g
theorem gs_48_1 (hc : mt_code k pc = some (.getfield i, 6, 1, t)) (A : Abs h w) (g : hK d k (pc + 3) ls (vR 22 :: st) w Q) : hK d k pc ls (vR 48 :: st) w Q :=
  hg_gR hc A (Abs_ks A (i := 18) rfl).1 (by decide) rfl (Abs_kf A (i := 21) rfl) g
theorem gs_48_2 (hc : mt_code k pc = some (.getfield i, 6, 2, t)) (A : Abs h w) (g : hK d k (pc + 3) ls (vR 49 :: st) w Q) : hK d k pc ls (vR 48 :: st) w Q :=
  hg_gR hc A (Abs_ks A (i := 18) rfl).1 (by decide) rfl (Abs_kf A (i := 22) rfl) g
theorem gs_48_3 (hc : mt_code k pc = some (.getfield i, 6, 3, t)) (A : Abs h w) (g : hK d k (pc + 3) ls (vR 50 :: st) w Q) : hK d k pc ls (vR 48 :: st) w Q :=
  hg_gR hc A (Abs_ks A (i := 18) rfl).1 (by decide) rfl (Abs_kf A (i := 23) rfl) g
theorem gs_48_4 (hc : mt_code k pc = some (.getfield i, 6, 4, t)) (A : Abs h w) (g : hK d k (pc + 3) ls (vI (hI h 48 4) :: st) w Q) : hK d k pc ls (vR 48 :: st) w Q :=
  hg_gI hc A (Abs_ks A (i := 18) rfl).1 (by decide) rfl rfl (fun _ => g)
theorem gs_48_5 (hc : mt_code k pc = some (.getfield i, 6, 5, t)) (A : Abs h w) (g : hK d k (pc + 3) ls (vR (hR h 48 5) :: st) w Q) : hK d k pc ls (vR 48 :: st) w Q :=
  hg_gR hc A (Abs_ks A (i := 18) rfl).1 (by decide) rfl rfl g
theorem gs_48_6 (hc : mt_code k pc = some (.getfield i, 6, 6, t)) (A : Abs h w) (g : hK d k (pc + 3) ls (vI (hI h 48 6) :: st) w Q) : hK d k pc ls (vR 48 :: st) w Q :=
  hg_gI hc A (Abs_ks A (i := 18) rfl).1 (by decide) rfl rfl (fun _ => g)
theorem gs_48_7 (hc : mt_code k pc = some (.getfield i, 6, 7, t)) (A : Abs h w) (g : hK d k (pc + 3) ls (vR (hR h 48 7) :: st) w Q) : hK d k pc ls (vR 48 :: st) w Q :=
  hg_gR hc A (Abs_ks A (i := 18) rfl).1 (by decide) rfl rfl g
theorem gs_48_8 (hc : mt_code k pc = some (.getfield i, 6, 8, t)) (A : Abs h w) (g : hK d k (pc + 3) ls (vR (hR h 48 8) :: st) w Q) : hK d k pc ls (vR 48 :: st) w Q :=
  hg_gR hc A (Abs_ks A (i := 18) rfl).1 (by decide) rfl rfl g
theorem gs_48_9 (hc : mt_code k pc = some (.getfield i, 6, 9, t)) (A : Abs h w) (g : hK d k (pc + 3) ls (vI (hI h 48 9) :: st) w Q) : hK d k pc ls (vR 48 :: st) w Q :=
  hg_gI hc A (Abs_ks A (i := 18) rfl).1 (by decide) rfl rfl (fun _ => g)
theorem gs_48_10 (hc : mt_code k pc = some (.getfield i, 6, 10, t)) (A : Abs h w) (g : hK d k (pc + 3) ls (vI (hI h 48 10) :: st) w Q) : hK d k pc ls (vR 48 :: st) w Q :=
  hg_gI hc A (Abs_ks A (i := 18) rfl).1 (by decide) rfl rfl (fun _ => g)
theorem gs_48_11 (hc : mt_code k pc = some (.getfield i, 6, 11, t)) (A : Abs h w) (g : hK d k (pc + 3) ls (vI (hI h 48 11) :: st) w Q) : hK d k pc ls (vR 48 :: st) w Q :=
  hg_gI hc A (Abs_ks A (i := 18) rfl).1 (by decide) rfl rfl (fun _ => g)
theorem gs_48_12 (hc : mt_code k pc = some (.getfield i, 6, 12, t)) (A : Abs h w) (g : hK d k (pc + 3) ls (vI (hI h 48 12) :: st) w Q) : hK d k pc ls (vR 48 :: st) w Q :=
  hg_gI hc A (Abs_ks A (i := 18) rfl).1 (by decide) rfl rfl (fun _ => g)
theorem gs_48_13 (hc : mt_code k pc = some (.getfield i, 6, 13, t)) (A : Abs h w) (g : hK d k (pc + 3) ls (vR 51 :: st) w Q) : hK d k pc ls (vR 48 :: st) w Q :=
  hg_gR hc A (Abs_ks A (i := 18) rfl).1 (by decide) rfl (Abs_kf A (i := 24) rfl) g
theorem gs_48_14 (hc : mt_code k pc = some (.getfield i, 6, 14, t)) (A : Abs h w) (g : hK d k (pc + 3) ls (vR 52 :: st) w Q) : hK d k pc ls (vR 48 :: st) w Q :=
  hg_gR hc A (Abs_ks A (i := 18) rfl).1 (by decide) rfl (Abs_kf A (i := 25) rfl) g
theorem gs_395_0 (hc : mt_code k pc = some (.getfield i, 13, 0, t)) (A : Abs h w) (g : hK d k (pc + 3) ls (vR 396 :: st) w Q) : hK d k pc ls (vR 395 :: st) w Q :=
  hg_gR hc A (Abs_ks A (i := 23) rfl).1 (by decide) rfl (Abs_kf A (i := 26) rfl) g
theorem gs_395_1 (hc : mt_code k pc = some (.getfield i, 13, 1, t)) (A : Abs h w) (g : hK d k (pc + 3) ls (vI (hI h 395 1) :: st) w Q) : hK d k pc ls (vR 395 :: st) w Q :=
  hg_gI hc A (Abs_ks A (i := 23) rfl).1 (by decide) rfl rfl (fun _ => g)
theorem gs_395_2 (hc : mt_code k pc = some (.getfield i, 13, 2, t)) (A : Abs h w) (g : hK d k (pc + 3) ls (vI (hI h 395 2) :: st) w Q) : hK d k pc ls (vR 395 :: st) w Q :=
  hg_gI hc A (Abs_ks A (i := 23) rfl).1 (by decide) rfl rfl (fun _ => g)
theorem gs_395_3 (hc : mt_code k pc = some (.getfield i, 13, 3, t)) (A : Abs h w) (g : hK d k (pc + 3) ls (vI (hI h 395 3) :: st) w Q) : hK d k pc ls (vR 395 :: st) w Q :=
  hg_gI hc A (Abs_ks A (i := 23) rfl).1 (by decide) rfl rfl (fun _ => g)
theorem gs_395_4 (hc : mt_code k pc = some (.getfield i, 13, 4, t)) (A : Abs h w) (g : hK d k (pc + 3) ls (vI (hI h 395 4) :: st) w Q) : hK d k pc ls (vR 395 :: st) w Q :=
  hg_gI hc A (Abs_ks A (i := 23) rfl).1 (by decide) rfl rfl (fun _ => g)
theorem gs_395_5 (hc : mt_code k pc = some (.getfield i, 13, 5, t)) (A : Abs h w) (g : hK d k (pc + 3) ls (vI (hI h 395 5) :: st) w Q) : hK d k pc ls (vR 395 :: st) w Q :=
  hg_gI hc A (Abs_ks A (i := 23) rfl).1 (by decide) rfl rfl (fun _ => g)
theorem gs_395_6 (hc : mt_code k pc = some (.getfield i, 13, 6, t)) (A : Abs h w) (g : hK d k (pc + 3) ls (vR 397 :: st) w Q) : hK d k pc ls (vR 395 :: st) w Q :=
  hg_gR hc A (Abs_ks A (i := 23) rfl).1 (by decide) rfl (Abs_kf A (i := 27) rfl) g
theorem gs_395_7 (hc : mt_code k pc = some (.getfield i, 13, 7, t)) (A : Abs h w) (g : hK d k (pc + 3) ls (vI (hI h 395 7) :: st) w Q) : hK d k pc ls (vR 395 :: st) w Q :=
  hg_gI hc A (Abs_ks A (i := 23) rfl).1 (by decide) rfl rfl (fun _ => g)
theorem gs_395_8 (hc : mt_code k pc = some (.getfield i, 13, 8, t)) (A : Abs h w) (g : hK d k (pc + 3) ls (vR 398 :: st) w Q) : hK d k pc ls (vR 395 :: st) w Q :=
  hg_gR hc A (Abs_ks A (i := 23) rfl).1 (by decide) rfl (Abs_kf A (i := 28) rfl) g
theorem gs_395_9 (hc : mt_code k pc = some (.getfield i, 13, 9, t)) (A : Abs h w) (g : hK d k (pc + 3) ls (vI (hI h 395 9) :: st) w Q) : hK d k pc ls (vR 395 :: st) w Q :=
  hg_gI hc A (Abs_ks A (i := 23) rfl).1 (by decide) rfl rfl (fun _ => g)
theorem gs_395_10 (hc : mt_code k pc = some (.getfield i, 13, 10, t)) (A : Abs h w) (g : hK d k (pc + 3) ls (vJ (hJ h 395 10) :: st) w Q) : hK d k pc ls (vR 395 :: st) w Q :=
  hg_gJ hc A (Abs_ks A (i := 23) rfl).1 (by decide) rfl rfl g
theorem gs_395_11 (hc : mt_code k pc = some (.getfield i, 13, 11, t)) (A : Abs h w) (g : hK d k (pc + 3) ls (vI (hI h 395 11) :: st) w Q) : hK d k pc ls (vR 395 :: st) w Q :=
  hg_gI hc A (Abs_ks A (i := 23) rfl).1 (by decide) rfl rfl (fun _ => g)
theorem gs_395_12 (hc : mt_code k pc = some (.getfield i, 13, 12, t)) (A : Abs h w) (g : hK d k (pc + 3) ls (vI (hI h 395 12) :: st) w Q) : hK d k pc ls (vR 395 :: st) w Q :=
  hg_gI hc A (Abs_ks A (i := 23) rfl).1 (by decide) rfl rfl (fun _ => g)
theorem gs_395_13 (hc : mt_code k pc = some (.getfield i, 13, 13, t)) (A : Abs h w) (g : hK d k (pc + 3) ls (vI (hI h 395 13) :: st) w Q) : hK d k pc ls (vR 395 :: st) w Q :=
  hg_gI hc A (Abs_ks A (i := 23) rfl).1 (by decide) rfl rfl (fun _ => g)
theorem gs_395_14 (hc : mt_code k pc = some (.getfield i, 13, 14, t)) (A : Abs h w) (g : hK d k (pc + 3) ls (vI (hI h 395 14) :: st) w Q) : hK d k pc ls (vR 395 :: st) w Q :=
  hg_gI hc A (Abs_ks A (i := 23) rfl).1 (by decide) rfl rfl (fun _ => g)
theorem gs_395_15 (hc : mt_code k pc = some (.getfield i, 13, 15, t)) (A : Abs h w) (g : hK d k (pc + 3) ls (vR 399 :: st) w Q) : hK d k pc ls (vR 395 :: st) w Q :=
  hg_gR hc A (Abs_ks A (i := 23) rfl).1 (by decide) rfl (Abs_kf A (i := 29) rfl) g
theorem gs_395_16 (hc : mt_code k pc = some (.getfield i, 13, 16, t)) (A : Abs h w) (g : hK d k (pc + 3) ls (vI (hI h 395 16) :: st) w Q) : hK d k pc ls (vR 395 :: st) w Q :=
  hg_gI hc A (Abs_ks A (i := 23) rfl).1 (by decide) rfl rfl (fun _ => g)
theorem gs_395_17 (hc : mt_code k pc = some (.getfield i, 13, 17, t)) (A : Abs h w) (g : hK d k (pc + 3) ls (vI (hI h 395 17) :: st) w Q) : hK d k pc ls (vR 395 :: st) w Q :=
  hg_gI hc A (Abs_ks A (i := 23) rfl).1 (by decide) rfl rfl (fun _ => g)
theorem gs_395_18 (hc : mt_code k pc = some (.getfield i, 13, 18, t)) (A : Abs h w) (g : hK d k (pc + 3) ls (vI (hI h 395 18) :: st) w Q) : hK d k pc ls (vR 395 :: st) w Q :=
  hg_gI hc A (Abs_ks A (i := 23) rfl).1 (by decide) rfl rfl (fun _ => g)
theorem gs_395_19 (hc : mt_code k pc = some (.getfield i, 13, 19, t)) (A : Abs h w) (g : hK d k (pc + 3) ls (vI (hI h 395 19) :: st) w Q) : hK d k pc ls (vR 395 :: st) w Q :=
  hg_gI hc A (Abs_ks A (i := 23) rfl).1 (by decide) rfl rfl (fun _ => g)
theorem gs_395_20 (hc : mt_code k pc = some (.getfield i, 13, 20, t)) (A : Abs h w) (g : hK d k (pc + 3) ls (vI (hI h 395 20) :: st) w Q) : hK d k pc ls (vR 395 :: st) w Q :=
  hg_gI hc A (Abs_ks A (i := 23) rfl).1 (by decide) rfl rfl (fun _ => g)
theorem gs_395_21 (hc : mt_code k pc = some (.getfield i, 13, 21, t)) (A : Abs h w) (g : hK d k (pc + 3) ls (vI (hI h 395 21) :: st) w Q) : hK d k pc ls (vR 395 :: st) w Q :=
  hg_gI hc A (Abs_ks A (i := 23) rfl).1 (by decide) rfl rfl (fun _ => g)
theorem gs_395_22 (hc : mt_code k pc = some (.getfield i, 13, 22, t)) (A : Abs h w) (g : hK d k (pc + 3) ls (vI (hI h 395 22) :: st) w Q) : hK d k pc ls (vR 395 :: st) w Q :=
  hg_gI hc A (Abs_ks A (i := 23) rfl).1 (by decide) rfl rfl (fun _ => g)
theorem gs_395_23 (hc : mt_code k pc = some (.getfield i, 13, 23, t)) (A : Abs h w) (g : hK d k (pc + 3) ls (vR 400 :: st) w Q) : hK d k pc ls (vR 395 :: st) w Q :=
  hg_gR hc A (Abs_ks A (i := 23) rfl).1 (by decide) rfl (Abs_kf A (i := 30) rfl) g
theorem gs_395_24 (hc : mt_code k pc = some (.getfield i, 13, 24, t)) (A : Abs h w) (g : hK d k (pc + 3) ls (vI (hI h 395 24) :: st) w Q) : hK d k pc ls (vR 395 :: st) w Q :=
  hg_gI hc A (Abs_ks A (i := 23) rfl).1 (by decide) rfl rfl (fun _ => g)
theorem gs_395_25 (hc : mt_code k pc = some (.getfield i, 13, 25, t)) (A : Abs h w) (g : hK d k (pc + 3) ls (vI (hI h 395 25) :: st) w Q) : hK d k pc ls (vR 395 :: st) w Q :=
  hg_gI hc A (Abs_ks A (i := 23) rfl).1 (by decide) rfl rfl (fun _ => g)
theorem gs_395_26 (hc : mt_code k pc = some (.getfield i, 13, 26, t)) (A : Abs h w) (g : hK d k (pc + 3) ls (vI (hI h 395 26) :: st) w Q) : hK d k pc ls (vR 395 :: st) w Q :=
  hg_gI hc A (Abs_ks A (i := 23) rfl).1 (by decide) rfl rfl (fun _ => g)
theorem gs_395_27 (hc : mt_code k pc = some (.getfield i, 13, 27, t)) (A : Abs h w) (g : hK d k (pc + 3) ls (vI (hI h 395 27) :: st) w Q) : hK d k pc ls (vR 395 :: st) w Q :=
  hg_gI hc A (Abs_ks A (i := 23) rfl).1 (by decide) rfl rfl (fun _ => g)
theorem gs_395_28 (hc : mt_code k pc = some (.getfield i, 13, 28, t)) (A : Abs h w) (g : hK d k (pc + 3) ls (vI (hI h 395 28) :: st) w Q) : hK d k pc ls (vR 395 :: st) w Q :=
  hg_gI hc A (Abs_ks A (i := 23) rfl).1 (by decide) rfl rfl (fun _ => g)
theorem gs_395_29 (hc : mt_code k pc = some (.getfield i, 13, 29, t)) (A : Abs h w) (g : hK d k (pc + 3) ls (vI (hI h 395 29) :: st) w Q) : hK d k pc ls (vR 395 :: st) w Q :=
  hg_gI hc A (Abs_ks A (i := 23) rfl).1 (by decide) rfl rfl (fun _ => g)
theorem gs_395_30 (hc : mt_code k pc = some (.getfield i, 13, 30, t)) (A : Abs h w) (g : hK d k (pc + 3) ls (vI (hI h 395 30) :: st) w Q) : hK d k pc ls (vR 395 :: st) w Q :=
  hg_gI hc A (Abs_ks A (i := 23) rfl).1 (by decide) rfl rfl (fun _ => g)
theorem gs_395_31 (hc : mt_code k pc = some (.getfield i, 13, 31, t)) (A : Abs h w) (g : hK d k (pc + 3) ls (vR 401 :: st) w Q) : hK d k pc ls (vR 395 :: st) w Q :=
  hg_gR hc A (Abs_ks A (i := 23) rfl).1 (by decide) rfl (Abs_kf A (i := 31) rfl) g
theorem gs_395_32 (hc : mt_code k pc = some (.getfield i, 13, 32, t)) (A : Abs h w) (g : hK d k (pc + 3) ls (vR 402 :: st) w Q) : hK d k pc ls (vR 395 :: st) w Q :=
  hg_gR hc A (Abs_ks A (i := 23) rfl).1 (by decide) rfl (Abs_kf A (i := 32) rfl) g
theorem gs_395_33 (hc : mt_code k pc = some (.getfield i, 13, 33, t)) (A : Abs h w) (g : hK d k (pc + 3) ls (vI (hI h 395 33) :: st) w Q) : hK d k pc ls (vR 395 :: st) w Q :=
  hg_gI hc A (Abs_ks A (i := 23) rfl).1 (by decide) rfl rfl (fun _ => g)
theorem gs_395_34 (hc : mt_code k pc = some (.getfield i, 13, 34, t)) (A : Abs h w) (g : hK d k (pc + 3) ls (vR 403 :: st) w Q) : hK d k pc ls (vR 395 :: st) w Q :=
  hg_gR hc A (Abs_ks A (i := 23) rfl).1 (by decide) rfl (Abs_kf A (i := 33) rfl) g
theorem gs_395_35 (hc : mt_code k pc = some (.getfield i, 13, 35, t)) (A : Abs h w) (g : hK d k (pc + 3) ls (vR 404 :: st) w Q) : hK d k pc ls (vR 395 :: st) w Q :=
  hg_gR hc A (Abs_ks A (i := 23) rfl).1 (by decide) rfl (Abs_kf A (i := 34) rfl) g
theorem gs_395_36 (hc : mt_code k pc = some (.getfield i, 13, 36, t)) (A : Abs h w) (g : hK d k (pc + 3) ls (vR 405 :: st) w Q) : hK d k pc ls (vR 395 :: st) w Q :=
  hg_gR hc A (Abs_ks A (i := 23) rfl).1 (by decide) rfl (Abs_kf A (i := 35) rfl) g
theorem gs_395_37 (hc : mt_code k pc = some (.getfield i, 13, 37, t)) (A : Abs h w) (g : hK d k (pc + 3) ls (vR 406 :: st) w Q) : hK d k pc ls (vR 395 :: st) w Q :=
  hg_gR hc A (Abs_ks A (i := 23) rfl).1 (by decide) rfl (Abs_kf A (i := 36) rfl) g
theorem gs_395_38 (hc : mt_code k pc = some (.getfield i, 13, 38, t)) (A : Abs h w) (g : hK d k (pc + 3) ls (vR 407 :: st) w Q) : hK d k pc ls (vR 395 :: st) w Q :=
  hg_gR hc A (Abs_ks A (i := 23) rfl).1 (by decide) rfl (Abs_kf A (i := 37) rfl) g
theorem gs_395_39 (hc : mt_code k pc = some (.getfield i, 13, 39, t)) (A : Abs h w) (g : hK d k (pc + 3) ls (vI (hI h 395 39) :: st) w Q) : hK d k pc ls (vR 395 :: st) w Q :=
  hg_gI hc A (Abs_ks A (i := 23) rfl).1 (by decide) rfl rfl (fun _ => g)
theorem gs_395_40 (hc : mt_code k pc = some (.getfield i, 13, 40, t)) (A : Abs h w) (g : hK d k (pc + 3) ls (vI (hI h 395 40) :: st) w Q) : hK d k pc ls (vR 395 :: st) w Q :=
  hg_gI hc A (Abs_ks A (i := 23) rfl).1 (by decide) rfl rfl (fun _ => g)
theorem gs_395_41 (hc : mt_code k pc = some (.getfield i, 13, 41, t)) (A : Abs h w) (g : hK d k (pc + 3) ls (vI (hI h 395 41) :: st) w Q) : hK d k pc ls (vR 395 :: st) w Q :=
  hg_gI hc A (Abs_ks A (i := 23) rfl).1 (by decide) rfl rfl (fun _ => g)
theorem gs_395_42 (hc : mt_code k pc = some (.getfield i, 13, 42, t)) (A : Abs h w) (g : hK d k (pc + 3) ls (vI (hI h 395 42) :: st) w Q) : hK d k pc ls (vR 395 :: st) w Q :=
  hg_gI hc A (Abs_ks A (i := 23) rfl).1 (by decide) rfl rfl (fun _ => g)
theorem gs_395_43 (hc : mt_code k pc = some (.getfield i, 13, 43, t)) (A : Abs h w) (g : hK d k (pc + 3) ls (vR 408 :: st) w Q) : hK d k pc ls (vR 395 :: st) w Q :=
  hg_gR hc A (Abs_ks A (i := 23) rfl).1 (by decide) rfl (Abs_kf A (i := 38) rfl) g
theorem gs_395_44 (hc : mt_code k pc = some (.getfield i, 13, 44, t)) (A : Abs h w) (g : hK d k (pc + 3) ls (vR 409 :: st) w Q) : hK d k pc ls (vR 395 :: st) w Q :=
  hg_gR hc A (Abs_ks A (i := 23) rfl).1 (by decide) rfl (Abs_kf A (i := 39) rfl) g
theorem gs_395_45 (hc : mt_code k pc = some (.getfield i, 13, 45, t)) (A : Abs h w) (g : hK d k (pc + 3) ls (vR 410 :: st) w Q) : hK d k pc ls (vR 395 :: st) w Q :=
  hg_gR hc A (Abs_ks A (i := 23) rfl).1 (by decide) rfl (Abs_kf A (i := 40) rfl) g
theorem gs_395_46 (hc : mt_code k pc = some (.getfield i, 13, 46, t)) (A : Abs h w) (g : hK d k (pc + 3) ls (vR 411 :: st) w Q) : hK d k pc ls (vR 395 :: st) w Q :=
  hg_gR hc A (Abs_ks A (i := 23) rfl).1 (by decide) rfl (Abs_kf A (i := 41) rfl) g
theorem gs_395_47 (hc : mt_code k pc = some (.getfield i, 13, 47, t)) (A : Abs h w) (g : hK d k (pc + 3) ls (vR 412 :: st) w Q) : hK d k pc ls (vR 395 :: st) w Q :=
  hg_gR hc A (Abs_ks A (i := 23) rfl).1 (by decide) rfl (Abs_kf A (i := 42) rfl) g
theorem gs_395_48 (hc : mt_code k pc = some (.getfield i, 13, 48, t)) (A : Abs h w) (g : hK d k (pc + 3) ls (vR 413 :: st) w Q) : hK d k pc ls (vR 395 :: st) w Q :=
  hg_gR hc A (Abs_ks A (i := 23) rfl).1 (by decide) rfl (Abs_kf A (i := 43) rfl) g
theorem gs_395_49 (hc : mt_code k pc = some (.getfield i, 13, 49, t)) (A : Abs h w) (g : hK d k (pc + 3) ls (vR 414 :: st) w Q) : hK d k pc ls (vR 395 :: st) w Q :=
  hg_gR hc A (Abs_ks A (i := 23) rfl).1 (by decide) rfl (Abs_kf A (i := 44) rfl) g
theorem gs_395_50 (hc : mt_code k pc = some (.getfield i, 13, 50, t)) (A : Abs h w) (g : hK d k (pc + 3) ls (vR 415 :: st) w Q) : hK d k pc ls (vR 395 :: st) w Q :=
  hg_gR hc A (Abs_ks A (i := 23) rfl).1 (by decide) rfl (Abs_kf A (i := 45) rfl) g
theorem gs_395_51 (hc : mt_code k pc = some (.getfield i, 13, 51, t)) (A : Abs h w) (g : hK d k (pc + 3) ls (vR 416 :: st) w Q) : hK d k pc ls (vR 395 :: st) w Q :=
  hg_gR hc A (Abs_ks A (i := 23) rfl).1 (by decide) rfl (Abs_kf A (i := 46) rfl) g
theorem gs_395_52 (hc : mt_code k pc = some (.getfield i, 13, 52, t)) (A : Abs h w) (g : hK d k (pc + 3) ls (vI (hI h 395 52) :: st) w Q) : hK d k pc ls (vR 395 :: st) w Q :=
  hg_gI hc A (Abs_ks A (i := 23) rfl).1 (by decide) rfl rfl (fun _ => g)
theorem gs_395_53 (hc : mt_code k pc = some (.getfield i, 13, 53, t)) (A : Abs h w) (g : hK d k (pc + 3) ls (vR 417 :: st) w Q) : hK d k pc ls (vR 395 :: st) w Q :=
  hg_gR hc A (Abs_ks A (i := 23) rfl).1 (by decide) rfl (Abs_kf A (i := 47) rfl) g
theorem gs_395_54 (hc : mt_code k pc = some (.getfield i, 13, 54, t)) (A : Abs h w) (g : hK d k (pc + 3) ls (vI (hI h 395 54) :: st) w Q) : hK d k pc ls (vR 395 :: st) w Q :=
  hg_gI hc A (Abs_ks A (i := 23) rfl).1 (by decide) rfl rfl (fun _ => g)
theorem gs_395_55 (hc : mt_code k pc = some (.getfield i, 13, 55, t)) (A : Abs h w) (g : hK d k (pc + 3) ls (vI (hI h 395 55) :: st) w Q) : hK d k pc ls (vR 395 :: st) w Q :=
  hg_gI hc A (Abs_ks A (i := 23) rfl).1 (by decide) rfl rfl (fun _ => g)
theorem gs_395_56 (hc : mt_code k pc = some (.getfield i, 13, 56, t)) (A : Abs h w) (g : hK d k (pc + 3) ls (vI (hI h 395 56) :: st) w Q) : hK d k pc ls (vR 395 :: st) w Q :=
  hg_gI hc A (Abs_ks A (i := 23) rfl).1 (by decide) rfl rfl (fun _ => g)
theorem gs_395_57 (hc : mt_code k pc = some (.getfield i, 13, 57, t)) (A : Abs h w) (g : hK d k (pc + 3) ls (vI (hI h 395 57) :: st) w Q) : hK d k pc ls (vR 395 :: st) w Q :=
  hg_gI hc A (Abs_ks A (i := 23) rfl).1 (by decide) rfl rfl (fun _ => g)
theorem gs_395_58 (hc : mt_code k pc = some (.getfield i, 13, 58, t)) (A : Abs h w) (g : hK d k (pc + 3) ls (vI (hI h 395 58) :: st) w Q) : hK d k pc ls (vR 395 :: st) w Q :=
  hg_gI hc A (Abs_ks A (i := 23) rfl).1 (by decide) rfl rfl (fun _ => g)
theorem gs_395_59 (hc : mt_code k pc = some (.getfield i, 13, 59, t)) (A : Abs h w) (g : hK d k (pc + 3) ls (vI (hI h 395 59) :: st) w Q) : hK d k pc ls (vR 395 :: st) w Q :=
  hg_gI hc A (Abs_ks A (i := 23) rfl).1 (by decide) rfl rfl (fun _ => g)
theorem gs_395_60 (hc : mt_code k pc = some (.getfield i, 13, 60, t)) (A : Abs h w) (g : hK d k (pc + 3) ls (vI (hI h 395 60) :: st) w Q) : hK d k pc ls (vR 395 :: st) w Q :=
  hg_gI hc A (Abs_ks A (i := 23) rfl).1 (by decide) rfl rfl (fun _ => g)
theorem gs_395_61 (hc : mt_code k pc = some (.getfield i, 13, 61, t)) (A : Abs h w) (g : hK d k (pc + 3) ls (vR 418 :: st) w Q) : hK d k pc ls (vR 395 :: st) w Q :=
  hg_gR hc A (Abs_ks A (i := 23) rfl).1 (by decide) rfl (Abs_kf A (i := 48) rfl) g
theorem gs_395_62 (hc : mt_code k pc = some (.getfield i, 13, 62, t)) (A : Abs h w) (g : hK d k (pc + 3) ls (vR 419 :: st) w Q) : hK d k pc ls (vR 395 :: st) w Q :=
  hg_gR hc A (Abs_ks A (i := 23) rfl).1 (by decide) rfl (Abs_kf A (i := 49) rfl) g
theorem gs_395_63 (hc : mt_code k pc = some (.getfield i, 13, 63, t)) (A : Abs h w) (g : hK d k (pc + 3) ls (vR 420 :: st) w Q) : hK d k pc ls (vR 395 :: st) w Q :=
  hg_gR hc A (Abs_ks A (i := 23) rfl).1 (by decide) rfl (Abs_kf A (i := 50) rfl) g
theorem gs_395_64 (hc : mt_code k pc = some (.getfield i, 13, 64, t)) (A : Abs h w) (g : hK d k (pc + 3) ls (vR 421 :: st) w Q) : hK d k pc ls (vR 395 :: st) w Q :=
  hg_gR hc A (Abs_ks A (i := 23) rfl).1 (by decide) rfl (Abs_kf A (i := 51) rfl) g
theorem gs_395_65 (hc : mt_code k pc = some (.getfield i, 13, 65, t)) (A : Abs h w) (g : hK d k (pc + 3) ls (vR 422 :: st) w Q) : hK d k pc ls (vR 395 :: st) w Q :=
  hg_gR hc A (Abs_ks A (i := 23) rfl).1 (by decide) rfl (Abs_kf A (i := 52) rfl) g
theorem gs_395_66 (hc : mt_code k pc = some (.getfield i, 13, 66, t)) (A : Abs h w) (g : hK d k (pc + 3) ls (vI (hI h 395 66) :: st) w Q) : hK d k pc ls (vR 395 :: st) w Q :=
  hg_gI hc A (Abs_ks A (i := 23) rfl).1 (by decide) rfl rfl (fun _ => g)
theorem gs_395_67 (hc : mt_code k pc = some (.getfield i, 13, 67, t)) (A : Abs h w) (g : hK d k (pc + 3) ls (vR 423 :: st) w Q) : hK d k pc ls (vR 395 :: st) w Q :=
  hg_gR hc A (Abs_ks A (i := 23) rfl).1 (by decide) rfl (Abs_kf A (i := 53) rfl) g
theorem gs_395_68 (hc : mt_code k pc = some (.getfield i, 13, 68, t)) (A : Abs h w) (g : hK d k (pc + 3) ls (vR 424 :: st) w Q) : hK d k pc ls (vR 395 :: st) w Q :=
  hg_gR hc A (Abs_ks A (i := 23) rfl).1 (by decide) rfl (Abs_kf A (i := 54) rfl) g
theorem gs_395_69 (hc : mt_code k pc = some (.getfield i, 13, 69, t)) (A : Abs h w) (g : hK d k (pc + 3) ls (vR 425 :: st) w Q) : hK d k pc ls (vR 395 :: st) w Q :=
  hg_gR hc A (Abs_ks A (i := 23) rfl).1 (by decide) rfl (Abs_kf A (i := 55) rfl) g
theorem gs_395_70 (hc : mt_code k pc = some (.getfield i, 13, 70, t)) (A : Abs h w) (g : hK d k (pc + 3) ls (vR 426 :: st) w Q) : hK d k pc ls (vR 395 :: st) w Q :=
  hg_gR hc A (Abs_ks A (i := 23) rfl).1 (by decide) rfl (Abs_kf A (i := 56) rfl) g
theorem gs_395_71 (hc : mt_code k pc = some (.getfield i, 13, 71, t)) (A : Abs h w) (g : hK d k (pc + 3) ls (vR 427 :: st) w Q) : hK d k pc ls (vR 395 :: st) w Q :=
  hg_gR hc A (Abs_ks A (i := 23) rfl).1 (by decide) rfl (Abs_kf A (i := 57) rfl) g
theorem gs_395_72 (hc : mt_code k pc = some (.getfield i, 13, 72, t)) (A : Abs h w) (g : hK d k (pc + 3) ls (vR 428 :: st) w Q) : hK d k pc ls (vR 395 :: st) w Q :=
  hg_gR hc A (Abs_ks A (i := 23) rfl).1 (by decide) rfl (Abs_kf A (i := 58) rfl) g
theorem gs_395_73 (hc : mt_code k pc = some (.getfield i, 13, 73, t)) (A : Abs h w) (g : hK d k (pc + 3) ls (vR 429 :: st) w Q) : hK d k pc ls (vR 395 :: st) w Q :=
  hg_gR hc A (Abs_ks A (i := 23) rfl).1 (by decide) rfl (Abs_kf A (i := 59) rfl) g
theorem gs_395_74 (hc : mt_code k pc = some (.getfield i, 13, 74, t)) (A : Abs h w) (g : hK d k (pc + 3) ls (vR 430 :: st) w Q) : hK d k pc ls (vR 395 :: st) w Q :=
  hg_gR hc A (Abs_ks A (i := 23) rfl).1 (by decide) rfl (Abs_kf A (i := 60) rfl) g
theorem gs_395_75 (hc : mt_code k pc = some (.getfield i, 13, 75, t)) (A : Abs h w) (g : hK d k (pc + 3) ls (vR 431 :: st) w Q) : hK d k pc ls (vR 395 :: st) w Q :=
  hg_gR hc A (Abs_ks A (i := 23) rfl).1 (by decide) rfl (Abs_kf A (i := 61) rfl) g
theorem gs_395_76 (hc : mt_code k pc = some (.getfield i, 13, 76, t)) (A : Abs h w) (g : hK d k (pc + 3) ls (vR 432 :: st) w Q) : hK d k pc ls (vR 395 :: st) w Q :=
  hg_gR hc A (Abs_ks A (i := 23) rfl).1 (by decide) rfl (Abs_kf A (i := 62) rfl) g
theorem gs_395_77 (hc : mt_code k pc = some (.getfield i, 13, 77, t)) (A : Abs h w) (g : hK d k (pc + 3) ls (vR 433 :: st) w Q) : hK d k pc ls (vR 395 :: st) w Q :=
  hg_gR hc A (Abs_ks A (i := 23) rfl).1 (by decide) rfl (Abs_kf A (i := 63) rfl) g
theorem gs_395_78 (hc : mt_code k pc = some (.getfield i, 13, 78, t)) (A : Abs h w) (g : hK d k (pc + 3) ls (vR 434 :: st) w Q) : hK d k pc ls (vR 395 :: st) w Q :=
  hg_gR hc A (Abs_ks A (i := 23) rfl).1 (by decide) rfl (Abs_kf A (i := 64) rfl) g
theorem gs_395_79 (hc : mt_code k pc = some (.getfield i, 13, 79, t)) (A : Abs h w) (g : hK d k (pc + 3) ls (vR 435 :: st) w Q) : hK d k pc ls (vR 395 :: st) w Q :=
  hg_gR hc A (Abs_ks A (i := 23) rfl).1 (by decide) rfl (Abs_kf A (i := 65) rfl) g
theorem gs_395_80 (hc : mt_code k pc = some (.getfield i, 13, 80, t)) (A : Abs h w) (g : hK d k (pc + 3) ls (vR 436 :: st) w Q) : hK d k pc ls (vR 395 :: st) w Q :=
  hg_gR hc A (Abs_ks A (i := 23) rfl).1 (by decide) rfl (Abs_kf A (i := 66) rfl) g
theorem gs_395_81 (hc : mt_code k pc = some (.getfield i, 13, 81, t)) (A : Abs h w) (g : hK d k (pc + 3) ls (vR 437 :: st) w Q) : hK d k pc ls (vR 395 :: st) w Q :=
  hg_gR hc A (Abs_ks A (i := 23) rfl).1 (by decide) rfl (Abs_kf A (i := 67) rfl) g
theorem gs_395_82 (hc : mt_code k pc = some (.getfield i, 13, 82, t)) (A : Abs h w) (g : hK d k (pc + 3) ls (vI (hI h 395 82) :: st) w Q) : hK d k pc ls (vR 395 :: st) w Q :=
  hg_gI hc A (Abs_ks A (i := 23) rfl).1 (by decide) rfl rfl (fun _ => g)
theorem gs_395_83 (hc : mt_code k pc = some (.getfield i, 13, 83, t)) (A : Abs h w) (g : hK d k (pc + 3) ls (vI (hI h 395 83) :: st) w Q) : hK d k pc ls (vR 395 :: st) w Q :=
  hg_gI hc A (Abs_ks A (i := 23) rfl).1 (by decide) rfl rfl (fun _ => g)
theorem gs_395_84 (hc : mt_code k pc = some (.getfield i, 13, 84, t)) (A : Abs h w) (g : hK d k (pc + 3) ls (vI (hI h 395 84) :: st) w Q) : hK d k pc ls (vR 395 :: st) w Q :=
  hg_gI hc A (Abs_ks A (i := 23) rfl).1 (by decide) rfl rfl (fun _ => g)
theorem gs_395_85 (hc : mt_code k pc = some (.getfield i, 13, 85, t)) (A : Abs h w) (g : hK d k (pc + 3) ls (vR 438 :: st) w Q) : hK d k pc ls (vR 395 :: st) w Q :=
  hg_gR hc A (Abs_ks A (i := 23) rfl).1 (by decide) rfl (Abs_kf A (i := 68) rfl) g
theorem gs_395_86 (hc : mt_code k pc = some (.getfield i, 13, 86, t)) (A : Abs h w) (g : hK d k (pc + 3) ls (vR 439 :: st) w Q) : hK d k pc ls (vR 395 :: st) w Q :=
  hg_gR hc A (Abs_ks A (i := 23) rfl).1 (by decide) rfl (Abs_kf A (i := 69) rfl) g
theorem gs_395_87 (hc : mt_code k pc = some (.getfield i, 13, 87, t)) (A : Abs h w) (g : hK d k (pc + 3) ls (vR 440 :: st) w Q) : hK d k pc ls (vR 395 :: st) w Q :=
  hg_gR hc A (Abs_ks A (i := 23) rfl).1 (by decide) rfl (Abs_kf A (i := 70) rfl) g
theorem gs_395_88 (hc : mt_code k pc = some (.getfield i, 13, 88, t)) (A : Abs h w) (g : hK d k (pc + 3) ls (vR 441 :: st) w Q) : hK d k pc ls (vR 395 :: st) w Q :=
  hg_gR hc A (Abs_ks A (i := 23) rfl).1 (by decide) rfl (Abs_kf A (i := 71) rfl) g
theorem gs_395_89 (hc : mt_code k pc = some (.getfield i, 13, 89, t)) (A : Abs h w) (g : hK d k (pc + 3) ls (vR 442 :: st) w Q) : hK d k pc ls (vR 395 :: st) w Q :=
  hg_gR hc A (Abs_ks A (i := 23) rfl).1 (by decide) rfl (Abs_kf A (i := 72) rfl) g
theorem gs_395_90 (hc : mt_code k pc = some (.getfield i, 13, 90, t)) (A : Abs h w) (g : hK d k (pc + 3) ls (vR 443 :: st) w Q) : hK d k pc ls (vR 395 :: st) w Q :=
  hg_gR hc A (Abs_ks A (i := 23) rfl).1 (by decide) rfl (Abs_kf A (i := 73) rfl) g
theorem gs_395_91 (hc : mt_code k pc = some (.getfield i, 13, 91, t)) (A : Abs h w) (g : hK d k (pc + 3) ls (vR 444 :: st) w Q) : hK d k pc ls (vR 395 :: st) w Q :=
  hg_gR hc A (Abs_ks A (i := 23) rfl).1 (by decide) rfl (Abs_kf A (i := 74) rfl) g
theorem gs_395_92 (hc : mt_code k pc = some (.getfield i, 13, 92, t)) (A : Abs h w) (g : hK d k (pc + 3) ls (vR 445 :: st) w Q) : hK d k pc ls (vR 395 :: st) w Q :=
  hg_gR hc A (Abs_ks A (i := 23) rfl).1 (by decide) rfl (Abs_kf A (i := 75) rfl) g
theorem gs_395_93 (hc : mt_code k pc = some (.getfield i, 13, 93, t)) (A : Abs h w) (g : hK d k (pc + 3) ls (vR 446 :: st) w Q) : hK d k pc ls (vR 395 :: st) w Q :=
  hg_gR hc A (Abs_ks A (i := 23) rfl).1 (by decide) rfl (Abs_kf A (i := 76) rfl) g
theorem gs_395_94 (hc : mt_code k pc = some (.getfield i, 13, 94, t)) (A : Abs h w) (g : hK d k (pc + 3) ls (vR 447 :: st) w Q) : hK d k pc ls (vR 395 :: st) w Q :=
  hg_gR hc A (Abs_ks A (i := 23) rfl).1 (by decide) rfl (Abs_kf A (i := 77) rfl) g
theorem pd_3_0 {x : Nat} {v : Nat} (hc : mt_code k pc = some (.putfield i, 3, 0, 2)) (A : Abs h w) (e : pR h x 8 0 v = some h') (g : ∀ w', Abs h' w' → hK d k (pc + 3) ls st w' Q) : hK d k pc ls (vR v :: vR x :: st) w Q :=
  hg_pR hc A (pR_e e).1 (Abs_8 A (pR_e e).1 rfl) (by decide) rfl rfl (by decide +kernel) (pR_e e).2 g
theorem pd_3_1 {x : Nat} {v : Int} (hc : mt_code k pc = some (.putfield i, 3, 1, 0)) (A : Abs h w) (rv1 : rg v) (e : pI h x 8 1 v = some h') (g : ∀ w', Abs h' w' → hK d k (pc + 3) ls st w' Q) : hK d k pc ls (vI v :: vR x :: st) w Q :=
  hg_pI hc A (pI_e e).1 (Abs_8 A (pI_e e).1 rfl) (by decide) rfl (fit_I v) rv1 (pI_e e).2 g
theorem pd_3_2 {x : Nat} {v : Int} (hc : mt_code k pc = some (.putfield i, 3, 2, 0)) (A : Abs h w) (rv1 : rg v) (e : pI h x 8 2 v = some h') (g : ∀ w', Abs h' w' → hK d k (pc + 3) ls st w' Q) : hK d k pc ls (vI v :: vR x :: st) w Q :=
  hg_pI hc A (pI_e e).1 (Abs_8 A (pI_e e).1 rfl) (by decide) rfl (fit_I v) rv1 (pI_e e).2 g
theorem pd_5_0 {x : Nat} {v : Nat} (hc : mt_code k pc = some (.putfield i, 5, 0, 2)) (A : Abs h w) (e : pR h x 12 0 v = some h') (g : ∀ w', Abs h' w' → hK d k (pc + 3) ls st w' Q) : hK d k pc ls (vR v :: vR x :: st) w Q :=
  hg_pR hc A (pR_e e).1 (Abs_8 A (pR_e e).1 rfl) (by decide) rfl rfl (by decide +kernel) (pR_e e).2 g
theorem pd_5_1 {x : Nat} {v : Nat} (hc : mt_code k pc = some (.putfield i, 5, 1, 2)) (A : Abs h w) (e : pR h x 12 1 v = some h') (g : ∀ w', Abs h' w' → hK d k (pc + 3) ls st w' Q) : hK d k pc ls (vR v :: vR x :: st) w Q :=
  hg_pR hc A (pR_e e).1 (Abs_8 A (pR_e e).1 rfl) (by decide) rfl rfl (by decide +kernel) (pR_e e).2 g
theorem pd_5_2 {x : Nat} {v : Int} (hc : mt_code k pc = some (.putfield i, 5, 2, 0)) (A : Abs h w) (rv1 : rg v) (e : pI h x 12 2 v = some h') (g : ∀ w', Abs h' w' → hK d k (pc + 3) ls st w' Q) : hK d k pc ls (vI v :: vR x :: st) w Q :=
  hg_pI hc A (pI_e e).1 (Abs_8 A (pI_e e).1 rfl) (by decide) rfl (fit_I v) rv1 (pI_e e).2 g
theorem pd_5_3 {x : Nat} {v : Nat} (hc : mt_code k pc = some (.putfield i, 5, 3, 2)) (A : Abs h w) (e : pR h x 12 3 v = some h') (g : ∀ w', Abs h' w' → hK d k (pc + 3) ls st w' Q) : hK d k pc ls (vR v :: vR x :: st) w Q :=
  hg_pR hc A (pR_e e).1 (Abs_8 A (pR_e e).1 rfl) (by decide) rfl rfl (by decide +kernel) (pR_e e).2 g
theorem pd_5_4 {x : Nat} {v : Int} (hc : mt_code k pc = some (.putfield i, 5, 4, 0)) (A : Abs h w) (rv1 : rg v) (e : pI h x 12 4 v = some h') (g : ∀ w', Abs h' w' → hK d k (pc + 3) ls st w' Q) : hK d k pc ls (vI v :: vR x :: st) w Q :=
  hg_pI hc A (pI_e e).1 (Abs_8 A (pI_e e).1 rfl) (by decide) rfl (fit_I v) rv1 (pI_e e).2 g
theorem pd_5_5 {x : Nat} {v : Int} (hc : mt_code k pc = some (.putfield i, 5, 5, 0)) (A : Abs h w) (rv1 : rg v) (e : pI h x 12 5 v = some h') (g : ∀ w', Abs h' w' → hK d k (pc + 3) ls st w' Q) : hK d k pc ls (vI v :: vR x :: st) w Q :=
  hg_pI hc A (pI_e e).1 (Abs_8 A (pI_e e).1 rfl) (by decide) rfl (fit_I v) rv1 (pI_e e).2 g
theorem pd_5_6 {x : Nat} {v : Int} (hc : mt_code k pc = some (.putfield i, 5, 6, 0)) (A : Abs h w) (rv1 : rg v) (e : pI h x 12 6 v = some h') (g : ∀ w', Abs h' w' → hK d k (pc + 3) ls st w' Q) : hK d k pc ls (vI v :: vR x :: st) w Q :=
  hg_pI hc A (pI_e e).1 (Abs_8 A (pI_e e).1 rfl) (by decide) rfl (fit_I v) rv1 (pI_e e).2 g
theorem pd_7_1 {x : Nat} {v : Int} (hc : mt_code k pc = some (.putfield i, 7, 1, 1)) (A : Abs h w) (rv1 : rg v) (q : v = 0 ∨ v = 1) (e : pI h x 16 1 v = some h') (g : ∀ w', Abs h' w' → hK d k (pc + 3) ls st w' Q) : hK d k pc ls (vI v :: vR x :: st) w Q :=
  hg_pI hc A (pI_e e).1 (Abs_8 A (pI_e e).1 rfl) (by decide) rfl (fit_B q) rv1 (pI_e e).2 g
theorem pd_7_2 {x : Nat} {v : Nat} (hc : mt_code k pc = some (.putfield i, 7, 2, 2)) (A : Abs h w) (e : pR h x 16 2 v = some h') (g : ∀ w', Abs h' w' → hK d k (pc + 3) ls st w' Q) : hK d k pc ls (vR v :: vR x :: st) w Q :=
  hg_pR hc A (pR_e e).1 (Abs_8 A (pR_e e).1 rfl) (by decide) rfl rfl (by decide +kernel) (pR_e e).2 g
theorem pd_8_0 {x : Nat} {v : Nat} (hc : mt_code k pc = some (.putfield i, 8, 0, 2)) (A : Abs h w) (e : pR h x 18 0 v = some h') (g : ∀ w', Abs h' w' → hK d k (pc + 3) ls st w' Q) : hK d k pc ls (vR v :: vR x :: st) w Q :=
  hg_pR hc A (pR_e e).1 (Abs_8 A (pR_e e).1 rfl) (by decide) rfl rfl (by decide +kernel) (pR_e e).2 g
theorem pd_8_1 {x : Nat} {v : Int} (hc : mt_code k pc = some (.putfield i, 8, 1, 0)) (A : Abs h w) (rv1 : rg v) (e : pI h x 18 1 v = some h') (g : ∀ w', Abs h' w' → hK d k (pc + 3) ls st w' Q) : hK d k pc ls (vI v :: vR x :: st) w Q :=
  hg_pI hc A (pI_e e).1 (Abs_8 A (pI_e e).1 rfl) (by decide) rfl (fit_I v) rv1 (pI_e e).2 g
theorem pd_9_1 {x : Nat} {v : Int} (hc : mt_code k pc = some (.putfield i, 9, 1, 1)) (A : Abs h w) (rv1 : rg v) (q : v = 0 ∨ v = 1) (e : pI h x 20 1 v = some h') (g : ∀ w', Abs h' w' → hK d k (pc + 3) ls st w' Q) : hK d k pc ls (vI v :: vR x :: st) w Q :=
  hg_pI hc A (pI_e e).1 (Abs_8 A (pI_e e).1 rfl) (by decide) rfl (fit_B q) rv1 (pI_e e).2 g
theorem pd_9_2 {x : Nat} {v : Int} (hc : mt_code k pc = some (.putfield i, 9, 2, 1)) (A : Abs h w) (rv1 : rg v) (q : v = 0 ∨ v = 1) (e : pI h x 20 2 v = some h') (g : ∀ w', Abs h' w' → hK d k (pc + 3) ls st w' Q) : hK d k pc ls (vI v :: vR x :: st) w Q :=
  hg_pI hc A (pI_e e).1 (Abs_8 A (pI_e e).1 rfl) (by decide) rfl (fit_B q) rv1 (pI_e e).2 g
theorem pd_9_3 {x : Nat} {v : Int} (hc : mt_code k pc = some (.putfield i, 9, 3, 1)) (A : Abs h w) (rv1 : rg v) (q : v = 0 ∨ v = 1) (e : pI h x 20 3 v = some h') (g : ∀ w', Abs h' w' → hK d k (pc + 3) ls st w' Q) : hK d k pc ls (vI v :: vR x :: st) w Q :=
  hg_pI hc A (pI_e e).1 (Abs_8 A (pI_e e).1 rfl) (by decide) rfl (fit_B q) rv1 (pI_e e).2 g
theorem pd_9_4 {x : Nat} {v : Int} (hc : mt_code k pc = some (.putfield i, 9, 4, 0)) (A : Abs h w) (rv1 : rg v) (e : pI h x 20 4 v = some h') (g : ∀ w', Abs h' w' → hK d k (pc + 3) ls st w' Q) : hK d k pc ls (vI v :: vR x :: st) w Q :=
  hg_pI hc A (pI_e e).1 (Abs_8 A (pI_e e).1 rfl) (by decide) rfl (fit_I v) rv1 (pI_e e).2 g
theorem pd_9_5 {x : Nat} {v : Int} (hc : mt_code k pc = some (.putfield i, 9, 5, 0)) (A : Abs h w) (rv1 : rg v) (e : pI h x 20 5 v = some h') (g : ∀ w', Abs h' w' → hK d k (pc + 3) ls st w' Q) : hK d k pc ls (vI v :: vR x :: st) w Q :=
  hg_pI hc A (pI_e e).1 (Abs_8 A (pI_e e).1 rfl) (by decide) rfl (fit_I v) rv1 (pI_e e).2 g
theorem pd_9_6 {x : Nat} {v : Int} (hc : mt_code k pc = some (.putfield i, 9, 6, 0)) (A : Abs h w) (rv1 : rg v) (e : pI h x 20 6 v = some h') (g : ∀ w', Abs h' w' → hK d k (pc + 3) ls st w' Q) : hK d k pc ls (vI v :: vR x :: st) w Q :=
  hg_pI hc A (pI_e e).1 (Abs_8 A (pI_e e).1 rfl) (by decide) rfl (fit_I v) rv1 (pI_e e).2 g
theorem pd_10_0 {x : Nat} {v : Int} (hc : mt_code k pc = some (.putfield i, 10, 0, 0)) (A : Abs h w) (rv1 : rg v) (e : pI h x 22 0 v = some h') (g : ∀ w', Abs h' w' → hK d k (pc + 3) ls st w' Q) : hK d k pc ls (vI v :: vR x :: st) w Q :=
  hg_pI hc A (pI_e e).1 (Abs_8 A (pI_e e).1 rfl) (by decide) rfl (fit_I v) rv1 (pI_e e).2 g
theorem pd_10_1 {x : Nat} {v : Int} (hc : mt_code k pc = some (.putfield i, 10, 1, 0)) (A : Abs h w) (rv1 : rg v) (e : pI h x 22 1 v = some h') (g : ∀ w', Abs h' w' → hK d k (pc + 3) ls st w' Q) : hK d k pc ls (vI v :: vR x :: st) w Q :=
  hg_pI hc A (pI_e e).1 (Abs_8 A (pI_e e).1 rfl) (by decide) rfl (fit_I v) rv1 (pI_e e).2 g
theorem pd_10_2 {x : Nat} {v : Int} (hc : mt_code k pc = some (.putfield i, 10, 2, 0)) (A : Abs h w) (rv1 : rg v) (e : pI h x 22 2 v = some h') (g : ∀ w', Abs h' w' → hK d k (pc + 3) ls st w' Q) : hK d k pc ls (vI v :: vR x :: st) w Q :=
  hg_pI hc A (pI_e e).1 (Abs_8 A (pI_e e).1 rfl) (by decide) rfl (fit_I v) rv1 (pI_e e).2 g
theorem pd_10_3 {x : Nat} {v : Int} (hc : mt_code k pc = some (.putfield i, 10, 3, 0)) (A : Abs h w) (rv1 : rg v) (e : pI h x 22 3 v = some h') (g : ∀ w', Abs h' w' → hK d k (pc + 3) ls st w' Q) : hK d k pc ls (vI v :: vR x :: st) w Q :=
  hg_pI hc A (pI_e e).1 (Abs_8 A (pI_e e).1 rfl) (by decide) rfl (fit_I v) rv1 (pI_e e).2 g
theorem pd_10_4 {x : Nat} {v : Int} (hc : mt_code k pc = some (.putfield i, 10, 4, 0)) (A : Abs h w) (rv1 : rg v) (e : pI h x 22 4 v = some h') (g : ∀ w', Abs h' w' → hK d k (pc + 3) ls st w' Q) : hK d k pc ls (vI v :: vR x :: st) w Q :=
  hg_pI hc A (pI_e e).1 (Abs_8 A (pI_e e).1 rfl) (by decide) rfl (fit_I v) rv1 (pI_e e).2 g
theorem pd_10_5 {x : Nat} {v : Nat} (hc : mt_code k pc = some (.putfield i, 10, 5, 2)) (A : Abs h w) (e : pR h x 22 5 v = some h') (g : ∀ w', Abs h' w' → hK d k (pc + 3) ls st w' Q) : hK d k pc ls (vR v :: vR x :: st) w Q :=
  hg_pR hc A (pR_e e).1 (Abs_8 A (pR_e e).1 rfl) (by decide) rfl rfl (by decide +kernel) (pR_e e).2 g
theorem pd_11_0 {x : Nat} {v : Int} (hc : mt_code k pc = some (.putfield i, 11, 0, 0)) (A : Abs h w) (rv1 : rg v) (e : pI h x 24 0 v = some h') (g : ∀ w', Abs h' w' → hK d k (pc + 3) ls st w' Q) : hK d k pc ls (vI v :: vR x :: st) w Q :=
  hg_pI hc A (pI_e e).1 (Abs_8 A (pI_e e).1 rfl) (by decide) rfl (fit_I v) rv1 (pI_e e).2 g
theorem pd_11_1 {x : Nat} {v : Nat} (hc : mt_code k pc = some (.putfield i, 11, 1, 2)) (A : Abs h w) (e : pR h x 24 1 v = some h') (g : ∀ w', Abs h' w' → hK d k (pc + 3) ls st w' Q) : hK d k pc ls (vR v :: vR x :: st) w Q :=
  hg_pR hc A (pR_e e).1 (Abs_8 A (pR_e e).1 rfl) (by decide) rfl rfl (by decide +kernel) (pR_e e).2 g
theorem pd_11_2 {x : Nat} {v : Int} (hc : mt_code k pc = some (.putfield i, 11, 2, 0)) (A : Abs h w) (rv1 : rg v) (e : pI h x 24 2 v = some h') (g : ∀ w', Abs h' w' → hK d k (pc + 3) ls st w' Q) : hK d k pc ls (vI v :: vR x :: st) w Q :=
  hg_pI hc A (pI_e e).1 (Abs_8 A (pI_e e).1 rfl) (by decide) rfl (fit_I v) rv1 (pI_e e).2 g
theorem pd_11_3 {x : Nat} {v : Int} (hc : mt_code k pc = some (.putfield i, 11, 3, 1)) (A : Abs h w) (rv1 : rg v) (q : v = 0 ∨ v = 1) (e : pI h x 24 3 v = some h') (g : ∀ w', Abs h' w' → hK d k (pc + 3) ls st w' Q) : hK d k pc ls (vI v :: vR x :: st) w Q :=
  hg_pI hc A (pI_e e).1 (Abs_8 A (pI_e e).1 rfl) (by decide) rfl (fit_B q) rv1 (pI_e e).2 g
theorem pd_11_4 {x : Nat} {v : Int} (hc : mt_code k pc = some (.putfield i, 11, 4, 0)) (A : Abs h w) (rv1 : rg v) (e : pI h x 24 4 v = some h') (g : ∀ w', Abs h' w' → hK d k (pc + 3) ls st w' Q) : hK d k pc ls (vI v :: vR x :: st) w Q :=
  hg_pI hc A (pI_e e).1 (Abs_8 A (pI_e e).1 rfl) (by decide) rfl (fit_I v) rv1 (pI_e e).2 g
theorem pd_11_5 {x : Nat} {v : Nat} (hc : mt_code k pc = some (.putfield i, 11, 5, 2)) (A : Abs h w) (e : pR h x 24 5 v = some h') (g : ∀ w', Abs h' w' → hK d k (pc + 3) ls st w' Q) : hK d k pc ls (vR v :: vR x :: st) w Q :=
  hg_pR hc A (pR_e e).1 (Abs_8 A (pR_e e).1 rfl) (by decide) rfl rfl (by decide +kernel) (pR_e e).2 g
theorem pd_11_6 {x : Nat} {v : Nat} (hc : mt_code k pc = some (.putfield i, 11, 6, 2)) (A : Abs h w) (e : pR h x 24 6 v = some h') (g : ∀ w', Abs h' w' → hK d k (pc + 3) ls st w' Q) : hK d k pc ls (vR v :: vR x :: st) w Q :=
  hg_pR hc A (pR_e e).1 (Abs_8 A (pR_e e).1 rfl) (by decide) rfl rfl (by decide +kernel) (pR_e e).2 g
theorem pd_11_7 {x : Nat} {v : Nat} (hc : mt_code k pc = some (.putfield i, 11, 7, 2)) (A : Abs h w) (e : pR h x 24 7 v = some h') (g : ∀ w', Abs h' w' → hK d k (pc + 3) ls st w' Q) : hK d k pc ls (vR v :: vR x :: st) w Q :=
  hg_pR hc A (pR_e e).1 (Abs_8 A (pR_e e).1 rfl) (by decide) rfl rfl (by decide +kernel) (pR_e e).2 g
theorem pd_11_8 {x : Nat} {v : Int} (hc : mt_code k pc = some (.putfield i, 11, 8, 0)) (A : Abs h w) (rv1 : rg v) (e : pI h x 24 8 v = some h') (g : ∀ w', Abs h' w' → hK d k (pc + 3) ls st w' Q) : hK d k pc ls (vI v :: vR x :: st) w Q :=
  hg_pI hc A (pI_e e).1 (Abs_8 A (pI_e e).1 rfl) (by decide) rfl (fit_I v) rv1 (pI_e e).2 g
theorem pd_11_9 {x : Nat} {v : Nat} (hc : mt_code k pc = some (.putfield i, 11, 9, 2)) (A : Abs h w) (e : pR h x 24 9 v = some h') (g : ∀ w', Abs h' w' → hK d k (pc + 3) ls st w' Q) : hK d k pc ls (vR v :: vR x :: st) w Q :=
  hg_pR hc A (pR_e e).1 (Abs_8 A (pR_e e).1 rfl) (by decide) rfl rfl (by decide +kernel) (pR_e e).2 g
theorem pd_11_10 {x : Nat} {v : Nat} (hc : mt_code k pc = some (.putfield i, 11, 10, 2)) (A : Abs h w) (e : pR h x 24 10 v = some h') (g : ∀ w', Abs h' w' → hK d k (pc + 3) ls st w' Q) : hK d k pc ls (vR v :: vR x :: st) w Q :=
  hg_pR hc A (pR_e e).1 (Abs_8 A (pR_e e).1 rfl) (by decide) rfl rfl (by decide +kernel) (pR_e e).2 g
theorem pd_11_11 {x : Nat} {v : Int} (hc : mt_code k pc = some (.putfield i, 11, 11, 0)) (A : Abs h w) (rv1 : rg v) (e : pI h x 24 11 v = some h') (g : ∀ w', Abs h' w' → hK d k (pc + 3) ls st w' Q) : hK d k pc ls (vI v :: vR x :: st) w Q :=
  hg_pI hc A (pI_e e).1 (Abs_8 A (pI_e e).1 rfl) (by decide) rfl (fit_I v) rv1 (pI_e e).2 g
theorem pd_11_12 {x : Nat} {v : Nat} (hc : mt_code k pc = some (.putfield i, 11, 12, 2)) (A : Abs h w) (e : pR h x 24 12 v = some h') (g : ∀ w', Abs h' w' → hK d k (pc + 3) ls st w' Q) : hK d k pc ls (vR v :: vR x :: st) w Q :=
  hg_pR hc A (pR_e e).1 (Abs_8 A (pR_e e).1 rfl) (by decide) rfl rfl (by decide +kernel) (pR_e e).2 g
theorem pd_11_13 {x : Nat} {v : Nat} (hc : mt_code k pc = some (.putfield i, 11, 13, 2)) (A : Abs h w) (e : pR h x 24 13 v = some h') (g : ∀ w', Abs h' w' → hK d k (pc + 3) ls st w' Q) : hK d k pc ls (vR v :: vR x :: st) w Q :=
  hg_pR hc A (pR_e e).1 (Abs_8 A (pR_e e).1 rfl) (by decide) rfl rfl (by decide +kernel) (pR_e e).2 g
theorem pd_11_14 {x : Nat} {v : Nat} (hc : mt_code k pc = some (.putfield i, 11, 14, 2)) (A : Abs h w) (e : pR h x 24 14 v = some h') (g : ∀ w', Abs h' w' → hK d k (pc + 3) ls st w' Q) : hK d k pc ls (vR v :: vR x :: st) w Q :=
  hg_pR hc A (pR_e e).1 (Abs_8 A (pR_e e).1 rfl) (by decide) rfl rfl (by decide +kernel) (pR_e e).2 g
theorem pd_11_15 {x : Nat} {v : Nat} (hc : mt_code k pc = some (.putfield i, 11, 15, 2)) (A : Abs h w) (e : pR h x 24 15 v = some h') (g : ∀ w', Abs h' w' → hK d k (pc + 3) ls st w' Q) : hK d k pc ls (vR v :: vR x :: st) w Q :=
  hg_pR hc A (pR_e e).1 (Abs_8 A (pR_e e).1 rfl) (by decide) rfl rfl (by decide +kernel) (pR_e e).2 g
theorem pd_11_16 {x : Nat} {v : Nat} (hc : mt_code k pc = some (.putfield i, 11, 16, 2)) (A : Abs h w) (e : pR h x 24 16 v = some h') (g : ∀ w', Abs h' w' → hK d k (pc + 3) ls st w' Q) : hK d k pc ls (vR v :: vR x :: st) w Q :=
  hg_pR hc A (pR_e e).1 (Abs_8 A (pR_e e).1 rfl) (by decide) rfl rfl (by decide +kernel) (pR_e e).2 g
theorem pd_11_17 {x : Nat} {v : Nat} (hc : mt_code k pc = some (.putfield i, 11, 17, 2)) (A : Abs h w) (e : pR h x 24 17 v = some h') (g : ∀ w', Abs h' w' → hK d k (pc + 3) ls st w' Q) : hK d k pc ls (vR v :: vR x :: st) w Q :=
  hg_pR hc A (pR_e e).1 (Abs_8 A (pR_e e).1 rfl) (by decide) rfl rfl (by decide +kernel) (pR_e e).2 g
theorem pd_11_18 {x : Nat} {v : Nat} (hc : mt_code k pc = some (.putfield i, 11, 18, 2)) (A : Abs h w) (e : pR h x 24 18 v = some h') (g : ∀ w', Abs h' w' → hK d k (pc + 3) ls st w' Q) : hK d k pc ls (vR v :: vR x :: st) w Q :=
  hg_pR hc A (pR_e e).1 (Abs_8 A (pR_e e).1 rfl) (by decide) rfl rfl (by decide +kernel) (pR_e e).2 g
theorem pd_12_0 {x : Nat} {v : Nat} (hc : mt_code k pc = some (.putfield i, 12, 0, 2)) (A : Abs h w) (e : pR h x 26 0 v = some h') (g : ∀ w', Abs h' w' → hK d k (pc + 3) ls st w' Q) : hK d k pc ls (vR v :: vR x :: st) w Q :=
  hg_pR hc A (pR_e e).1 (Abs_8 A (pR_e e).1 rfl) (by decide) rfl rfl (by decide +kernel) (pR_e e).2 g
theorem pd_12_1 {x : Nat} {v : Int} (hc : mt_code k pc = some (.putfield i, 12, 1, 0)) (A : Abs h w) (rv1 : rg v) (e : pI h x 26 1 v = some h') (g : ∀ w', Abs h' w' → hK d k (pc + 3) ls st w' Q) : hK d k pc ls (vI v :: vR x :: st) w Q :=
  hg_pI hc A (pI_e e).1 (Abs_8 A (pI_e e).1 rfl) (by decide) rfl (fit_I v) rv1 (pI_e e).2 g
theorem ps_8_7 {v : Nat} (hc : mt_code k pc = some (.putfield i, 0, 7, 2)) (A : Abs h w) (e : some (sR h 8 7 v) = some h') (g : ∀ w', Abs h' w' → hK d k (pc + 3) ls st w' Q) : hK d k pc ls (vR v :: vR 8 :: st) w Q :=
  hg_pR hc A (Abs_ks A (i := 0) rfl).1 (by decide) (by decide) rfl rfl (by decide +kernel) e g
theorem ps_8_8 {v : Int} (hc : mt_code k pc = some (.putfield i, 0, 8, 0)) (A : Abs h w) (rv1 : rg v) (e : some (sI h 8 8 v) = some h') (g : ∀ w', Abs h' w' → hK d k (pc + 3) ls st w' Q) : hK d k pc ls (vI v :: vR 8 :: st) w Q :=
  hg_pI hc A (Abs_ks A (i := 0) rfl).1 (by decide) (by decide) rfl (fit_I v) rv1 e g
theorem ps_8_9 {v : Int} (hc : mt_code k pc = some (.putfield i, 0, 9, 0)) (A : Abs h w) (rv1 : rg v) (e : some (sI h 8 9 v) = some h') (g : ∀ w', Abs h' w' → hK d k (pc + 3) ls st w' Q) : hK d k pc ls (vI v :: vR 8 :: st) w Q :=
  hg_pI hc A (Abs_ks A (i := 0) rfl).1 (by decide) (by decide) rfl (fit_I v) rv1 e g
theorem ps_8_10 {v : Int} (hc : mt_code k pc = some (.putfield i, 0, 10, 0)) (A : Abs h w) (rv1 : rg v) (e : some (sI h 8 10 v) = some h') (g : ∀ w', Abs h' w' → hK d k (pc + 3) ls st w' Q) : hK d k pc ls (vI v :: vR 8 :: st) w Q :=
  hg_pI hc A (Abs_ks A (i := 0) rfl).1 (by decide) (by decide) rfl (fit_I v) rv1 e g
theorem ps_8_11 {v : Int} (hc : mt_code k pc = some (.putfield i, 0, 11, 0)) (A : Abs h w) (rv1 : rg v) (e : some (sI h 8 11 v) = some h') (g : ∀ w', Abs h' w' → hK d k (pc + 3) ls st w' Q) : hK d k pc ls (vI v :: vR 8 :: st) w Q :=
  hg_pI hc A (Abs_ks A (i := 0) rfl).1 (by decide) (by decide) rfl (fit_I v) rv1 e g
theorem ps_8_12 {v : Int} (hc : mt_code k pc = some (.putfield i, 0, 12, 0)) (A : Abs h w) (rv1 : rg v) (e : some (sI h 8 12 v) = some h') (g : ∀ w', Abs h' w' → hK d k (pc + 3) ls st w' Q) : hK d k pc ls (vI v :: vR 8 :: st) w Q :=
  hg_pI hc A (Abs_ks A (i := 0) rfl).1 (by decide) (by decide) rfl (fit_I v) rv1 e g
theorem ps_8_13 {v : Int} (hc : mt_code k pc = some (.putfield i, 0, 13, 0)) (A : Abs h w) (rv1 : rg v) (e : some (sI h 8 13 v) = some h') (g : ∀ w', Abs h' w' → hK d k (pc + 3) ls st w' Q) : hK d k pc ls (vI v :: vR 8 :: st) w Q :=
  hg_pI hc A (Abs_ks A (i := 0) rfl).1 (by decide) (by decide) rfl (fit_I v) rv1 e g
theorem ps_9_1 {v : Int} (hc : mt_code k pc = some (.putfield i, 1, 1, 0)) (A : Abs h w) (rv1 : rg v) (e : some (sI h 9 1 v) = some h') (g : ∀ w', Abs h' w' → hK d k (pc + 3) ls st w' Q) : hK d k pc ls (vI v :: vR 9 :: st) w Q :=
  hg_pI hc A (Abs_ks A (i := 1) rfl).1 (by decide) (by decide) rfl (fit_I v) rv1 e g
theorem ps_9_5 {v : Int} (hc : mt_code k pc = some (.putfield i, 1, 5, 0)) (A : Abs h w) (rv1 : rg v) (e : some (sI h 9 5 v) = some h') (g : ∀ w', Abs h' w' → hK d k (pc + 3) ls st w' Q) : hK d k pc ls (vI v :: vR 9 :: st) w Q :=
  hg_pI hc A (Abs_ks A (i := 1) rfl).1 (by decide) (by decide) rfl (fit_I v) rv1 e g
theorem ps_15_2 {v : Int} (hc : mt_code k pc = some (.putfield i, 2, 2, 0)) (A : Abs h w) (rv1 : rg v) (e : some (sI h 15 2 v) = some h') (g : ∀ w', Abs h' w' → hK d k (pc + 3) ls st w' Q) : hK d k pc ls (vI v :: vR 15 :: st) w Q :=
  hg_pI hc A (Abs_ks A (i := 7) rfl).1 (by decide) (by decide) rfl (fit_I v) rv1 e g
theorem ps_15_3 {v : Int} (hc : mt_code k pc = some (.putfield i, 2, 3, 0)) (A : Abs h w) (rv1 : rg v) (e : some (sI h 15 3 v) = some h') (g : ∀ w', Abs h' w' → hK d k (pc + 3) ls st w' Q) : hK d k pc ls (vI v :: vR 15 :: st) w Q :=
  hg_pI hc A (Abs_ks A (i := 7) rfl).1 (by decide) (by decide) rfl (fit_I v) rv1 e g
theorem ps_15_4 {v : Int} (hc : mt_code k pc = some (.putfield i, 2, 4, 0)) (A : Abs h w) (rv1 : rg v) (e : some (sI h 15 4 v) = some h') (g : ∀ w', Abs h' w' → hK d k (pc + 3) ls st w' Q) : hK d k pc ls (vI v :: vR 15 :: st) w Q :=
  hg_pI hc A (Abs_ks A (i := 7) rfl).1 (by decide) (by decide) rfl (fit_I v) rv1 e g
theorem ps_15_5 {v : Int} (hc : mt_code k pc = some (.putfield i, 2, 5, 0)) (A : Abs h w) (rv1 : rg v) (e : some (sI h 15 5 v) = some h') (g : ∀ w', Abs h' w' → hK d k (pc + 3) ls st w' Q) : hK d k pc ls (vI v :: vR 15 :: st) w Q :=
  hg_pI hc A (Abs_ks A (i := 7) rfl).1 (by decide) (by decide) rfl (fit_I v) rv1 e g
theorem ps_15_7 {v : Int} (hc : mt_code k pc = some (.putfield i, 2, 7, 0)) (A : Abs h w) (rv1 : rg v) (e : some (sI h 15 7 v) = some h') (g : ∀ w', Abs h' w' → hK d k (pc + 3) ls st w' Q) : hK d k pc ls (vI v :: vR 15 :: st) w Q :=
  hg_pI hc A (Abs_ks A (i := 7) rfl).1 (by decide) (by decide) rfl (fit_I v) rv1 e g
theorem ps_15_8 {v : Int} (hc : mt_code k pc = some (.putfield i, 2, 8, 0)) (A : Abs h w) (rv1 : rg v) (e : some (sI h 15 8 v) = some h') (g : ∀ w', Abs h' w' → hK d k (pc + 3) ls st w' Q) : hK d k pc ls (vI v :: vR 15 :: st) w Q :=
  hg_pI hc A (Abs_ks A (i := 7) rfl).1 (by decide) (by decide) rfl (fit_I v) rv1 e g
theorem ps_15_9 {v : Int} (hc : mt_code k pc = some (.putfield i, 2, 9, 0)) (A : Abs h w) (rv1 : rg v) (e : some (sI h 15 9 v) = some h') (g : ∀ w', Abs h' w' → hK d k (pc + 3) ls st w' Q) : hK d k pc ls (vI v :: vR 15 :: st) w Q :=
  hg_pI hc A (Abs_ks A (i := 7) rfl).1 (by decide) (by decide) rfl (fit_I v) rv1 e g
theorem ps_15_10 {v : Int} (hc : mt_code k pc = some (.putfield i, 2, 10, 0)) (A : Abs h w) (rv1 : rg v) (e : some (sI h 15 10 v) = some h') (g : ∀ w', Abs h' w' → hK d k (pc + 3) ls st w' Q) : hK d k pc ls (vI v :: vR 15 :: st) w Q :=
  hg_pI hc A (Abs_ks A (i := 7) rfl).1 (by decide) (by decide) rfl (fit_I v) rv1 e g
theorem ps_15_11 {v : Nat} (hc : mt_code k pc = some (.putfield i, 2, 11, 2)) (A : Abs h w) (e : some (sR h 15 11 v) = some h') (g : ∀ w', Abs h' w' → hK d k (pc + 3) ls st w' Q) : hK d k pc ls (vR v :: vR 15 :: st) w Q :=
  hg_pR hc A (Abs_ks A (i := 7) rfl).1 (by decide) (by decide) rfl rfl (by decide +kernel) e g
theorem ps_15_12 {v : Nat} (hc : mt_code k pc = some (.putfield i, 2, 12, 2)) (A : Abs h w) (e : some (sR h 15 12 v) = some h') (g : ∀ w', Abs h' w' → hK d k (pc + 3) ls st w' Q) : hK d k pc ls (vR v :: vR 15 :: st) w Q :=
  hg_pR hc A (Abs_ks A (i := 7) rfl).1 (by decide) (by decide) rfl rfl (by decide +kernel) e g
theorem ps_22_3 {v : Int} (hc : mt_code k pc = some (.putfield i, 4, 3, 0)) (A : Abs h w) (rv1 : rg v) (e : some (sI h 22 3 v) = some h') (g : ∀ w', Abs h' w' → hK d k (pc + 3) ls st w' Q) : hK d k pc ls (vI v :: vR 22 :: st) w Q :=
  hg_pI hc A (Abs_ks A (i := 13) rfl).1 (by decide) (by decide) rfl (fit_I v) rv1 e g
theorem ps_22_5 {v : Int} (hc : mt_code k pc = some (.putfield i, 4, 5, 0)) (A : Abs h w) (rv1 : rg v) (e : some (sI h 22 5 v) = some h') (g : ∀ w', Abs h' w' → hK d k (pc + 3) ls st w' Q) : hK d k pc ls (vI v :: vR 22 :: st) w Q :=
  hg_pI hc A (Abs_ks A (i := 13) rfl).1 (by decide) (by decide) rfl (fit_I v) rv1 e g
theorem ps_22_6 {v : Int} (hc : mt_code k pc = some (.putfield i, 4, 6, 1)) (A : Abs h w) (rv1 : rg v) (q : v = 0 ∨ v = 1) (e : some (sI h 22 6 v) = some h') (g : ∀ w', Abs h' w' → hK d k (pc + 3) ls st w' Q) : hK d k pc ls (vI v :: vR 22 :: st) w Q :=
  hg_pI hc A (Abs_ks A (i := 13) rfl).1 (by decide) (by decide) rfl (fit_B q) rv1 e g
theorem ps_22_7 {v : Int} (hc : mt_code k pc = some (.putfield i, 4, 7, 0)) (A : Abs h w) (rv1 : rg v) (e : some (sI h 22 7 v) = some h') (g : ∀ w', Abs h' w' → hK d k (pc + 3) ls st w' Q) : hK d k pc ls (vI v :: vR 22 :: st) w Q :=
  hg_pI hc A (Abs_ks A (i := 13) rfl).1 (by decide) (by decide) rfl (fit_I v) rv1 e g
theorem ps_22_8 {v : Int} (hc : mt_code k pc = some (.putfield i, 4, 8, 0)) (A : Abs h w) (rv1 : rg v) (e : some (sI h 22 8 v) = some h') (g : ∀ w', Abs h' w' → hK d k (pc + 3) ls st w' Q) : hK d k pc ls (vI v :: vR 22 :: st) w Q :=
  hg_pI hc A (Abs_ks A (i := 13) rfl).1 (by decide) (by decide) rfl (fit_I v) rv1 e g
theorem ps_22_9 {v : Int} (hc : mt_code k pc = some (.putfield i, 4, 9, 0)) (A : Abs h w) (rv1 : rg v) (e : some (sI h 22 9 v) = some h') (g : ∀ w', Abs h' w' → hK d k (pc + 3) ls st w' Q) : hK d k pc ls (vI v :: vR 22 :: st) w Q :=
  hg_pI hc A (Abs_ks A (i := 13) rfl).1 (by decide) (by decide) rfl (fit_I v) rv1 e g
theorem ps_22_10 {v : Int} (hc : mt_code k pc = some (.putfield i, 4, 10, 0)) (A : Abs h w) (rv1 : rg v) (e : some (sI h 22 10 v) = some h') (g : ∀ w', Abs h' w' → hK d k (pc + 3) ls st w' Q) : hK d k pc ls (vI v :: vR 22 :: st) w Q :=
  hg_pI hc A (Abs_ks A (i := 13) rfl).1 (by decide) (by decide) rfl (fit_I v) rv1 e g
theorem ps_22_11 {v : Int} (hc : mt_code k pc = some (.putfield i, 4, 11, 1)) (A : Abs h w) (rv1 : rg v) (q : v = 0 ∨ v = 1) (e : some (sI h 22 11 v) = some h') (g : ∀ w', Abs h' w' → hK d k (pc + 3) ls st w' Q) : hK d k pc ls (vI v :: vR 22 :: st) w Q :=
  hg_pI hc A (Abs_ks A (i := 13) rfl).1 (by decide) (by decide) rfl (fit_B q) rv1 e g
theorem ps_22_13 {v : Int} (hc : mt_code k pc = some (.putfield i, 4, 13, 0)) (A : Abs h w) (rv1 : rg v) (e : some (sI h 22 13 v) = some h') (g : ∀ w', Abs h' w' → hK d k (pc + 3) ls st w' Q) : hK d k pc ls (vI v :: vR 22 :: st) w Q :=
  hg_pI hc A (Abs_ks A (i := 13) rfl).1 (by decide) (by decide) rfl (fit_I v) rv1 e g
theorem ps_48_4 {v : Int} (hc : mt_code k pc = some (.putfield i, 6, 4, 0)) (A : Abs h w) (rv1 : rg v) (e : some (sI h 48 4 v) = some h') (g : ∀ w', Abs h' w' → hK d k (pc + 3) ls st w' Q) : hK d k pc ls (vI v :: vR 48 :: st) w Q :=
  hg_pI hc A (Abs_ks A (i := 18) rfl).1 (by decide) (by decide) rfl (fit_I v) rv1 e g
theorem ps_48_5 {v : Nat} (hc : mt_code k pc = some (.putfield i, 6, 5, 2)) (A : Abs h w) (e : some (sR h 48 5 v) = some h') (g : ∀ w', Abs h' w' → hK d k (pc + 3) ls st w' Q) : hK d k pc ls (vR v :: vR 48 :: st) w Q :=
  hg_pR hc A (Abs_ks A (i := 18) rfl).1 (by decide) (by decide) rfl rfl (by decide +kernel) e g
theorem ps_48_6 {v : Int} (hc : mt_code k pc = some (.putfield i, 6, 6, 0)) (A : Abs h w) (rv1 : rg v) (e : some (sI h 48 6 v) = some h') (g : ∀ w', Abs h' w' → hK d k (pc + 3) ls st w' Q) : hK d k pc ls (vI v :: vR 48 :: st) w Q :=
  hg_pI hc A (Abs_ks A (i := 18) rfl).1 (by decide) (by decide) rfl (fit_I v) rv1 e g
theorem ps_48_7 {v : Nat} (hc : mt_code k pc = some (.putfield i, 6, 7, 2)) (A : Abs h w) (e : some (sR h 48 7 v) = some h') (g : ∀ w', Abs h' w' → hK d k (pc + 3) ls st w' Q) : hK d k pc ls (vR v :: vR 48 :: st) w Q :=
  hg_pR hc A (Abs_ks A (i := 18) rfl).1 (by decide) (by decide) rfl rfl (by decide +kernel) e g
theorem ps_48_8 {v : Nat} (hc : mt_code k pc = some (.putfield i, 6, 8, 2)) (A : Abs h w) (e : some (sR h 48 8 v) = some h') (g : ∀ w', Abs h' w' → hK d k (pc + 3) ls st w' Q) : hK d k pc ls (vR v :: vR 48 :: st) w Q :=
  hg_pR hc A (Abs_ks A (i := 18) rfl).1 (by decide) (by decide) rfl rfl (by decide +kernel) e g
theorem ps_48_9 {v : Int} (hc : mt_code k pc = some (.putfield i, 6, 9, 0)) (A : Abs h w) (rv1 : rg v) (e : some (sI h 48 9 v) = some h') (g : ∀ w', Abs h' w' → hK d k (pc + 3) ls st w' Q) : hK d k pc ls (vI v :: vR 48 :: st) w Q :=
  hg_pI hc A (Abs_ks A (i := 18) rfl).1 (by decide) (by decide) rfl (fit_I v) rv1 e g
theorem ps_48_10 {v : Int} (hc : mt_code k pc = some (.putfield i, 6, 10, 0)) (A : Abs h w) (rv1 : rg v) (e : some (sI h 48 10 v) = some h') (g : ∀ w', Abs h' w' → hK d k (pc + 3) ls st w' Q) : hK d k pc ls (vI v :: vR 48 :: st) w Q :=
  hg_pI hc A (Abs_ks A (i := 18) rfl).1 (by decide) (by decide) rfl (fit_I v) rv1 e g
theorem ps_48_11 {v : Int} (hc : mt_code k pc = some (.putfield i, 6, 11, 0)) (A : Abs h w) (rv1 : rg v) (e : some (sI h 48 11 v) = some h') (g : ∀ w', Abs h' w' → hK d k (pc + 3) ls st w' Q) : hK d k pc ls (vI v :: vR 48 :: st) w Q :=
  hg_pI hc A (Abs_ks A (i := 18) rfl).1 (by decide) (by decide) rfl (fit_I v) rv1 e g
theorem ps_48_12 {v : Int} (hc : mt_code k pc = some (.putfield i, 6, 12, 0)) (A : Abs h w) (rv1 : rg v) (e : some (sI h 48 12 v) = some h') (g : ∀ w', Abs h' w' → hK d k (pc + 3) ls st w' Q) : hK d k pc ls (vI v :: vR 48 :: st) w Q :=
  hg_pI hc A (Abs_ks A (i := 18) rfl).1 (by decide) (by decide) rfl (fit_I v) rv1 e g
theorem ps_395_1 {v : Int} (hc : mt_code k pc = some (.putfield i, 13, 1, 0)) (A : Abs h w) (rv1 : rg v) (e : some (sI h 395 1 v) = some h') (g : ∀ w', Abs h' w' → hK d k (pc + 3) ls st w' Q) : hK d k pc ls (vI v :: vR 395 :: st) w Q :=
  hg_pI hc A (Abs_ks A (i := 23) rfl).1 (by decide) (by decide) rfl (fit_I v) rv1 e g
theorem ps_395_2 {v : Int} (hc : mt_code k pc = some (.putfield i, 13, 2, 0)) (A : Abs h w) (rv1 : rg v) (e : some (sI h 395 2 v) = some h') (g : ∀ w', Abs h' w' → hK d k (pc + 3) ls st w' Q) : hK d k pc ls (vI v :: vR 395 :: st) w Q :=
  hg_pI hc A (Abs_ks A (i := 23) rfl).1 (by decide) (by decide) rfl (fit_I v) rv1 e g
theorem ps_395_3 {v : Int} (hc : mt_code k pc = some (.putfield i, 13, 3, 0)) (A : Abs h w) (rv1 : rg v) (e : some (sI h 395 3 v) = some h') (g : ∀ w', Abs h' w' → hK d k (pc + 3) ls st w' Q) : hK d k pc ls (vI v :: vR 395 :: st) w Q :=
  hg_pI hc A (Abs_ks A (i := 23) rfl).1 (by decide) (by decide) rfl (fit_I v) rv1 e g
theorem ps_395_4 {v : Int} (hc : mt_code k pc = some (.putfield i, 13, 4, 0)) (A : Abs h w) (rv1 : rg v) (e : some (sI h 395 4 v) = some h') (g : ∀ w', Abs h' w' → hK d k (pc + 3) ls st w' Q) : hK d k pc ls (vI v :: vR 395 :: st) w Q :=
  hg_pI hc A (Abs_ks A (i := 23) rfl).1 (by decide) (by decide) rfl (fit_I v) rv1 e g
theorem ps_395_5 {v : Int} (hc : mt_code k pc = some (.putfield i, 13, 5, 0)) (A : Abs h w) (rv1 : rg v) (e : some (sI h 395 5 v) = some h') (g : ∀ w', Abs h' w' → hK d k (pc + 3) ls st w' Q) : hK d k pc ls (vI v :: vR 395 :: st) w Q :=
  hg_pI hc A (Abs_ks A (i := 23) rfl).1 (by decide) (by decide) rfl (fit_I v) rv1 e g
theorem ps_395_7 {v : Int} (hc : mt_code k pc = some (.putfield i, 13, 7, 0)) (A : Abs h w) (rv1 : rg v) (e : some (sI h 395 7 v) = some h') (g : ∀ w', Abs h' w' → hK d k (pc + 3) ls st w' Q) : hK d k pc ls (vI v :: vR 395 :: st) w Q :=
  hg_pI hc A (Abs_ks A (i := 23) rfl).1 (by decide) (by decide) rfl (fit_I v) rv1 e g
theorem ps_395_9 {v : Int} (hc : mt_code k pc = some (.putfield i, 13, 9, 1)) (A : Abs h w) (rv1 : rg v) (q : v = 0 ∨ v = 1) (e : some (sI h 395 9 v) = some h') (g : ∀ w', Abs h' w' → hK d k (pc + 3) ls st w' Q) : hK d k pc ls (vI v :: vR 395 :: st) w Q :=
  hg_pI hc A (Abs_ks A (i := 23) rfl).1 (by decide) (by decide) rfl (fit_B q) rv1 e g
theorem ps_395_10 {v : Int64} (hc : mt_code k pc = some (.putfield i, 13, 10, 3)) (A : Abs h w) (e : some (sJ h 395 10 v) = some h') (g : ∀ w', Abs h' w' → hK d k (pc + 3) ls st w' Q) : hK d k pc ls (vJ v :: vR 395 :: st) w Q :=
  hg_pJ hc A (Abs_ks A (i := 23) rfl).1 (by decide) (by decide) rfl rfl e g
theorem ps_395_11 {v : Int} (hc : mt_code k pc = some (.putfield i, 13, 11, 0)) (A : Abs h w) (rv1 : rg v) (e : some (sI h 395 11 v) = some h') (g : ∀ w', Abs h' w' → hK d k (pc + 3) ls st w' Q) : hK d k pc ls (vI v :: vR 395 :: st) w Q :=
  hg_pI hc A (Abs_ks A (i := 23) rfl).1 (by decide) (by decide) rfl (fit_I v) rv1 e g
theorem ps_395_12 {v : Int} (hc : mt_code k pc = some (.putfield i, 13, 12, 0)) (A : Abs h w) (rv1 : rg v) (e : some (sI h 395 12 v) = some h') (g : ∀ w', Abs h' w' → hK d k (pc + 3) ls st w' Q) : hK d k pc ls (vI v :: vR 395 :: st) w Q :=
  hg_pI hc A (Abs_ks A (i := 23) rfl).1 (by decide) (by decide) rfl (fit_I v) rv1 e g
theorem ps_395_13 {v : Int} (hc : mt_code k pc = some (.putfield i, 13, 13, 0)) (A : Abs h w) (rv1 : rg v) (e : some (sI h 395 13 v) = some h') (g : ∀ w', Abs h' w' → hK d k (pc + 3) ls st w' Q) : hK d k pc ls (vI v :: vR 395 :: st) w Q :=
  hg_pI hc A (Abs_ks A (i := 23) rfl).1 (by decide) (by decide) rfl (fit_I v) rv1 e g
theorem ps_395_14 {v : Int} (hc : mt_code k pc = some (.putfield i, 13, 14, 0)) (A : Abs h w) (rv1 : rg v) (e : some (sI h 395 14 v) = some h') (g : ∀ w', Abs h' w' → hK d k (pc + 3) ls st w' Q) : hK d k pc ls (vI v :: vR 395 :: st) w Q :=
  hg_pI hc A (Abs_ks A (i := 23) rfl).1 (by decide) (by decide) rfl (fit_I v) rv1 e g
theorem ps_395_16 {v : Int} (hc : mt_code k pc = some (.putfield i, 13, 16, 0)) (A : Abs h w) (rv1 : rg v) (e : some (sI h 395 16 v) = some h') (g : ∀ w', Abs h' w' → hK d k (pc + 3) ls st w' Q) : hK d k pc ls (vI v :: vR 395 :: st) w Q :=
  hg_pI hc A (Abs_ks A (i := 23) rfl).1 (by decide) (by decide) rfl (fit_I v) rv1 e g
theorem ps_395_17 {v : Int} (hc : mt_code k pc = some (.putfield i, 13, 17, 0)) (A : Abs h w) (rv1 : rg v) (e : some (sI h 395 17 v) = some h') (g : ∀ w', Abs h' w' → hK d k (pc + 3) ls st w' Q) : hK d k pc ls (vI v :: vR 395 :: st) w Q :=
  hg_pI hc A (Abs_ks A (i := 23) rfl).1 (by decide) (by decide) rfl (fit_I v) rv1 e g
theorem ps_395_18 {v : Int} (hc : mt_code k pc = some (.putfield i, 13, 18, 0)) (A : Abs h w) (rv1 : rg v) (e : some (sI h 395 18 v) = some h') (g : ∀ w', Abs h' w' → hK d k (pc + 3) ls st w' Q) : hK d k pc ls (vI v :: vR 395 :: st) w Q :=
  hg_pI hc A (Abs_ks A (i := 23) rfl).1 (by decide) (by decide) rfl (fit_I v) rv1 e g
theorem ps_395_19 {v : Int} (hc : mt_code k pc = some (.putfield i, 13, 19, 0)) (A : Abs h w) (rv1 : rg v) (e : some (sI h 395 19 v) = some h') (g : ∀ w', Abs h' w' → hK d k (pc + 3) ls st w' Q) : hK d k pc ls (vI v :: vR 395 :: st) w Q :=
  hg_pI hc A (Abs_ks A (i := 23) rfl).1 (by decide) (by decide) rfl (fit_I v) rv1 e g
theorem ps_395_20 {v : Int} (hc : mt_code k pc = some (.putfield i, 13, 20, 0)) (A : Abs h w) (rv1 : rg v) (e : some (sI h 395 20 v) = some h') (g : ∀ w', Abs h' w' → hK d k (pc + 3) ls st w' Q) : hK d k pc ls (vI v :: vR 395 :: st) w Q :=
  hg_pI hc A (Abs_ks A (i := 23) rfl).1 (by decide) (by decide) rfl (fit_I v) rv1 e g
theorem ps_395_21 {v : Int} (hc : mt_code k pc = some (.putfield i, 13, 21, 0)) (A : Abs h w) (rv1 : rg v) (e : some (sI h 395 21 v) = some h') (g : ∀ w', Abs h' w' → hK d k (pc + 3) ls st w' Q) : hK d k pc ls (vI v :: vR 395 :: st) w Q :=
  hg_pI hc A (Abs_ks A (i := 23) rfl).1 (by decide) (by decide) rfl (fit_I v) rv1 e g
theorem ps_395_22 {v : Int} (hc : mt_code k pc = some (.putfield i, 13, 22, 0)) (A : Abs h w) (rv1 : rg v) (e : some (sI h 395 22 v) = some h') (g : ∀ w', Abs h' w' → hK d k (pc + 3) ls st w' Q) : hK d k pc ls (vI v :: vR 395 :: st) w Q :=
  hg_pI hc A (Abs_ks A (i := 23) rfl).1 (by decide) (by decide) rfl (fit_I v) rv1 e g
theorem ps_395_24 {v : Int} (hc : mt_code k pc = some (.putfield i, 13, 24, 0)) (A : Abs h w) (rv1 : rg v) (e : some (sI h 395 24 v) = some h') (g : ∀ w', Abs h' w' → hK d k (pc + 3) ls st w' Q) : hK d k pc ls (vI v :: vR 395 :: st) w Q :=
  hg_pI hc A (Abs_ks A (i := 23) rfl).1 (by decide) (by decide) rfl (fit_I v) rv1 e g
theorem ps_395_25 {v : Int} (hc : mt_code k pc = some (.putfield i, 13, 25, 0)) (A : Abs h w) (rv1 : rg v) (e : some (sI h 395 25 v) = some h') (g : ∀ w', Abs h' w' → hK d k (pc + 3) ls st w' Q) : hK d k pc ls (vI v :: vR 395 :: st) w Q :=
  hg_pI hc A (Abs_ks A (i := 23) rfl).1 (by decide) (by decide) rfl (fit_I v) rv1 e g
theorem ps_395_26 {v : Int} (hc : mt_code k pc = some (.putfield i, 13, 26, 0)) (A : Abs h w) (rv1 : rg v) (e : some (sI h 395 26 v) = some h') (g : ∀ w', Abs h' w' → hK d k (pc + 3) ls st w' Q) : hK d k pc ls (vI v :: vR 395 :: st) w Q :=
  hg_pI hc A (Abs_ks A (i := 23) rfl).1 (by decide) (by decide) rfl (fit_I v) rv1 e g
theorem ps_395_27 {v : Int} (hc : mt_code k pc = some (.putfield i, 13, 27, 0)) (A : Abs h w) (rv1 : rg v) (e : some (sI h 395 27 v) = some h') (g : ∀ w', Abs h' w' → hK d k (pc + 3) ls st w' Q) : hK d k pc ls (vI v :: vR 395 :: st) w Q :=
  hg_pI hc A (Abs_ks A (i := 23) rfl).1 (by decide) (by decide) rfl (fit_I v) rv1 e g
theorem ps_395_28 {v : Int} (hc : mt_code k pc = some (.putfield i, 13, 28, 0)) (A : Abs h w) (rv1 : rg v) (e : some (sI h 395 28 v) = some h') (g : ∀ w', Abs h' w' → hK d k (pc + 3) ls st w' Q) : hK d k pc ls (vI v :: vR 395 :: st) w Q :=
  hg_pI hc A (Abs_ks A (i := 23) rfl).1 (by decide) (by decide) rfl (fit_I v) rv1 e g
theorem ps_395_29 {v : Int} (hc : mt_code k pc = some (.putfield i, 13, 29, 0)) (A : Abs h w) (rv1 : rg v) (e : some (sI h 395 29 v) = some h') (g : ∀ w', Abs h' w' → hK d k (pc + 3) ls st w' Q) : hK d k pc ls (vI v :: vR 395 :: st) w Q :=
  hg_pI hc A (Abs_ks A (i := 23) rfl).1 (by decide) (by decide) rfl (fit_I v) rv1 e g
theorem ps_395_30 {v : Int} (hc : mt_code k pc = some (.putfield i, 13, 30, 0)) (A : Abs h w) (rv1 : rg v) (e : some (sI h 395 30 v) = some h') (g : ∀ w', Abs h' w' → hK d k (pc + 3) ls st w' Q) : hK d k pc ls (vI v :: vR 395 :: st) w Q :=
  hg_pI hc A (Abs_ks A (i := 23) rfl).1 (by decide) (by decide) rfl (fit_I v) rv1 e g
theorem ps_395_33 {v : Int} (hc : mt_code k pc = some (.putfield i, 13, 33, 0)) (A : Abs h w) (rv1 : rg v) (e : some (sI h 395 33 v) = some h') (g : ∀ w', Abs h' w' → hK d k (pc + 3) ls st w' Q) : hK d k pc ls (vI v :: vR 395 :: st) w Q :=
  hg_pI hc A (Abs_ks A (i := 23) rfl).1 (by decide) (by decide) rfl (fit_I v) rv1 e g
theorem ps_395_39 {v : Int} (hc : mt_code k pc = some (.putfield i, 13, 39, 0)) (A : Abs h w) (rv1 : rg v) (e : some (sI h 395 39 v) = some h') (g : ∀ w', Abs h' w' → hK d k (pc + 3) ls st w' Q) : hK d k pc ls (vI v :: vR 395 :: st) w Q :=
  hg_pI hc A (Abs_ks A (i := 23) rfl).1 (by decide) (by decide) rfl (fit_I v) rv1 e g
theorem ps_395_40 {v : Int} (hc : mt_code k pc = some (.putfield i, 13, 40, 0)) (A : Abs h w) (rv1 : rg v) (e : some (sI h 395 40 v) = some h') (g : ∀ w', Abs h' w' → hK d k (pc + 3) ls st w' Q) : hK d k pc ls (vI v :: vR 395 :: st) w Q :=
  hg_pI hc A (Abs_ks A (i := 23) rfl).1 (by decide) (by decide) rfl (fit_I v) rv1 e g
theorem ps_395_41 {v : Int} (hc : mt_code k pc = some (.putfield i, 13, 41, 0)) (A : Abs h w) (rv1 : rg v) (e : some (sI h 395 41 v) = some h') (g : ∀ w', Abs h' w' → hK d k (pc + 3) ls st w' Q) : hK d k pc ls (vI v :: vR 395 :: st) w Q :=
  hg_pI hc A (Abs_ks A (i := 23) rfl).1 (by decide) (by decide) rfl (fit_I v) rv1 e g
theorem ps_395_42 {v : Int} (hc : mt_code k pc = some (.putfield i, 13, 42, 1)) (A : Abs h w) (rv1 : rg v) (q : v = 0 ∨ v = 1) (e : some (sI h 395 42 v) = some h') (g : ∀ w', Abs h' w' → hK d k (pc + 3) ls st w' Q) : hK d k pc ls (vI v :: vR 395 :: st) w Q :=
  hg_pI hc A (Abs_ks A (i := 23) rfl).1 (by decide) (by decide) rfl (fit_B q) rv1 e g
theorem ps_395_52 {v : Int} (hc : mt_code k pc = some (.putfield i, 13, 52, 0)) (A : Abs h w) (rv1 : rg v) (e : some (sI h 395 52 v) = some h') (g : ∀ w', Abs h' w' → hK d k (pc + 3) ls st w' Q) : hK d k pc ls (vI v :: vR 395 :: st) w Q :=
  hg_pI hc A (Abs_ks A (i := 23) rfl).1 (by decide) (by decide) rfl (fit_I v) rv1 e g
theorem ps_395_54 {v : Int} (hc : mt_code k pc = some (.putfield i, 13, 54, 0)) (A : Abs h w) (rv1 : rg v) (e : some (sI h 395 54 v) = some h') (g : ∀ w', Abs h' w' → hK d k (pc + 3) ls st w' Q) : hK d k pc ls (vI v :: vR 395 :: st) w Q :=
  hg_pI hc A (Abs_ks A (i := 23) rfl).1 (by decide) (by decide) rfl (fit_I v) rv1 e g
theorem ps_395_55 {v : Int} (hc : mt_code k pc = some (.putfield i, 13, 55, 0)) (A : Abs h w) (rv1 : rg v) (e : some (sI h 395 55 v) = some h') (g : ∀ w', Abs h' w' → hK d k (pc + 3) ls st w' Q) : hK d k pc ls (vI v :: vR 395 :: st) w Q :=
  hg_pI hc A (Abs_ks A (i := 23) rfl).1 (by decide) (by decide) rfl (fit_I v) rv1 e g
theorem ps_395_56 {v : Int} (hc : mt_code k pc = some (.putfield i, 13, 56, 0)) (A : Abs h w) (rv1 : rg v) (e : some (sI h 395 56 v) = some h') (g : ∀ w', Abs h' w' → hK d k (pc + 3) ls st w' Q) : hK d k pc ls (vI v :: vR 395 :: st) w Q :=
  hg_pI hc A (Abs_ks A (i := 23) rfl).1 (by decide) (by decide) rfl (fit_I v) rv1 e g
theorem ps_395_57 {v : Int} (hc : mt_code k pc = some (.putfield i, 13, 57, 0)) (A : Abs h w) (rv1 : rg v) (e : some (sI h 395 57 v) = some h') (g : ∀ w', Abs h' w' → hK d k (pc + 3) ls st w' Q) : hK d k pc ls (vI v :: vR 395 :: st) w Q :=
  hg_pI hc A (Abs_ks A (i := 23) rfl).1 (by decide) (by decide) rfl (fit_I v) rv1 e g
theorem ps_395_58 {v : Int} (hc : mt_code k pc = some (.putfield i, 13, 58, 0)) (A : Abs h w) (rv1 : rg v) (e : some (sI h 395 58 v) = some h') (g : ∀ w', Abs h' w' → hK d k (pc + 3) ls st w' Q) : hK d k pc ls (vI v :: vR 395 :: st) w Q :=
  hg_pI hc A (Abs_ks A (i := 23) rfl).1 (by decide) (by decide) rfl (fit_I v) rv1 e g
theorem ps_395_59 {v : Int} (hc : mt_code k pc = some (.putfield i, 13, 59, 0)) (A : Abs h w) (rv1 : rg v) (e : some (sI h 395 59 v) = some h') (g : ∀ w', Abs h' w' → hK d k (pc + 3) ls st w' Q) : hK d k pc ls (vI v :: vR 395 :: st) w Q :=
  hg_pI hc A (Abs_ks A (i := 23) rfl).1 (by decide) (by decide) rfl (fit_I v) rv1 e g
theorem ps_395_60 {v : Int} (hc : mt_code k pc = some (.putfield i, 13, 60, 1)) (A : Abs h w) (rv1 : rg v) (q : v = 0 ∨ v = 1) (e : some (sI h 395 60 v) = some h') (g : ∀ w', Abs h' w' → hK d k (pc + 3) ls st w' Q) : hK d k pc ls (vI v :: vR 395 :: st) w Q :=
  hg_pI hc A (Abs_ks A (i := 23) rfl).1 (by decide) (by decide) rfl (fit_B q) rv1 e g
theorem ps_395_66 {v : Int} (hc : mt_code k pc = some (.putfield i, 13, 66, 0)) (A : Abs h w) (rv1 : rg v) (e : some (sI h 395 66 v) = some h') (g : ∀ w', Abs h' w' → hK d k (pc + 3) ls st w' Q) : hK d k pc ls (vI v :: vR 395 :: st) w Q :=
  hg_pI hc A (Abs_ks A (i := 23) rfl).1 (by decide) (by decide) rfl (fit_I v) rv1 e g
theorem ps_395_82 {v : Int} (hc : mt_code k pc = some (.putfield i, 13, 82, 0)) (A : Abs h w) (rv1 : rg v) (e : some (sI h 395 82 v) = some h') (g : ∀ w', Abs h' w' → hK d k (pc + 3) ls st w' Q) : hK d k pc ls (vI v :: vR 395 :: st) w Q :=
  hg_pI hc A (Abs_ks A (i := 23) rfl).1 (by decide) (by decide) rfl (fit_I v) rv1 e g
theorem ps_395_83 {v : Int} (hc : mt_code k pc = some (.putfield i, 13, 83, 0)) (A : Abs h w) (rv1 : rg v) (e : some (sI h 395 83 v) = some h') (g : ∀ w', Abs h' w' → hK d k (pc + 3) ls st w' Q) : hK d k pc ls (vI v :: vR 395 :: st) w Q :=
  hg_pI hc A (Abs_ks A (i := 23) rfl).1 (by decide) (by decide) rfl (fit_I v) rv1 e g
theorem ps_395_84 {v : Int} (hc : mt_code k pc = some (.putfield i, 13, 84, 0)) (A : Abs h w) (rv1 : rg v) (e : some (sI h 395 84 v) = some h') (g : ∀ w', Abs h' w' → hK d k (pc + 3) ls st w' Q) : hK d k pc ls (vI v :: vR 395 :: st) w Q :=
  hg_pI hc A (Abs_ks A (i := 23) rfl).1 (by decide) (by decide) rfl (fit_I v) rv1 e g
end FLD
