/-! each entry of each method -/
section MTI25
variable (xs : List Int32) (oA : Nat → Nat) (dA : Nat → ClassId)
set_option maxRecDepth 100000 in
set_option maxHeartbeats 4000000 in
theorem mt_i0 : mt_All (mm_okI mt_Ts (mt_P xs) (mt_G oA dA) mt_cl mt_X mt_Mt mt_y0 mt_t0) mt_c0 := ⟨trivial, Or.inl ⟨rfl, mt_in1 (i := 32) rfl, mt_in1 (i := 33) rfl, mt_in1 (i := 34) rfl⟩, trivial, mt_n0_7 xs, trivial, Or.inr ⟨rfl, mt_m0_9 xs⟩, ⟨mt_f0_10, mt_p0_10i⟩, trivial, mt_n0_16 xs, trivial, trivial, mt_f0_10, Or.inr ⟨rfl, mt_m0_18 xs⟩, ⟨mt_f0_21, mt_p0_21i⟩, trivial, trivial, mt_a0_25 oA dA, ⟨mt_f0_27, mt_p0_27i⟩, trivial, trivial, mt_na0 oA dA, ⟨mt_f0_31, mt_p0_31i⟩, trivial, trivial, mt_a0_35 oA dA, ⟨mt_f0_37, mt_p0_37i⟩, trivial, mt_n0_41 xs, trivial, trivial, mt_f0_27, Or.inr ⟨rfl, mt_m0_43 xs⟩, ⟨mt_f0_46, mt_p0_46i⟩, trivial, mt_n0_50 xs, trivial, trivial, mt_f0_27, trivial, mt_f0_46, Or.inr ⟨rfl, mt_m0_52 xs⟩, ⟨mt_f0_55, mt_p0_55i⟩, trivial, mt_n0_59 xs, trivial, Or.inr ⟨rfl, mt_m0_61 xs⟩, ⟨mt_f0_62, mt_p0_62i⟩, trivial, trivial, ⟨mt_f0_66, mt_p0_66i⟩, trivial, trivial, trivial, trivial, ⟨134, by decide⟩, trivial, mt_f0_27, trivial, mt_n0_25 xs, trivial, trivial, Or.inr ⟨rfl, mt_m0_70 xs⟩, trivial, trivial, trivial, trivial, trivial, trivial, trivial, ⟨161, by decide⟩, trivial, mt_f0_37, trivial, mt_n0_35 xs, trivial, Or.inr ⟨rfl, mt_m0_73 xs⟩, trivial, trivial, trivial, rfl, trivial⟩
set_option maxRecDepth 100000 in
set_option maxHeartbeats 4000000 in
theorem mt_d0 : mt_c0.all (mt_ckD mt_b0) = true := by decide +kernel
theorem mt_g0 : mt_Good xs oA dA 0 := fun y bytes ret h => by
  obtain ⟨rfl, rfl, rfl⟩ := mt_inj (show some (mt_y0, mt_b0, mt_t0) = some (y, bytes, ret) from h)
  exact ⟨mt_pn0, fun pc en h => ⟨mt_find (mt_i0 xs oA dA) (show mt_at mt_c0 pc = some en from h), mt_findD mt_d0 (show mt_at mt_c0 pc = some en from h)⟩⟩
set_option maxRecDepth 100000 in
set_option maxHeartbeats 4000000 in
theorem mt_i1 : mt_All (mm_okI mt_Ts (mt_P xs) (mt_G oA dA) mt_cl mt_X mt_Mt mt_y1 mt_t1) mt_c1 := ⟨trivial, Or.inl ⟨rfl, mt_in1 (i := 40) rfl, mt_in1 (i := 33) rfl, mt_in1 (i := 34) rfl⟩, trivial, trivial, mt_na0 oA dA, ⟨mt_f1_9, mt_p1_9i⟩, trivial, trivial, mt_na0 oA dA, ⟨mt_f1_15, mt_p1_15i⟩, trivial, trivial, mt_na0 oA dA, ⟨mt_f1_18, mt_p1_18i⟩, trivial, trivial, mt_na0 oA dA, ⟨mt_f1_21, mt_p1_21i⟩, trivial, trivial, mt_na0 oA dA, ⟨mt_f1_24, mt_p1_24i⟩, trivial, trivial, trivial, trivial, trivial, trivial, trivial, Or.inr ⟨rfl, Or.inl ⟨mt_tx0, List.mem_of_getElem? (i := 0) rfl⟩⟩, Or.inr ⟨by decide, by decide, mt_m1_29 xs⟩, ⟨112, by decide⟩, trivial, trivial, ⟨112, by decide⟩, Or.inr ⟨rfl, Or.inl ⟨mt_tx0, List.mem_of_getElem? (i := 0) rfl⟩⟩, trivial, Or.inr ⟨by decide, by decide, mt_m1_35 xs⟩, trivial, trivial, trivial, ⟨99, by decide⟩, trivial, mt_f1_24, trivial, trivial, trivial, trivial, trivial, trivial, trivial, trivial, trivial, Or.inr (Or.inr (Or.inr ⟨rfl, mt_m1_39 xs⟩)), trivial, trivial, trivial, rfl, trivial⟩
set_option maxRecDepth 100000 in
set_option maxHeartbeats 4000000 in
theorem mt_d1 : mt_c1.all (mt_ckD mt_b1) = true := by decide +kernel
theorem mt_g1 : mt_Good xs oA dA 1 := fun y bytes ret h => by
  obtain ⟨rfl, rfl, rfl⟩ := mt_inj (show some (mt_y1, mt_b1, mt_t1) = some (y, bytes, ret) from h)
  exact ⟨mt_pn1, fun pc en h => ⟨mt_find (mt_i1 xs oA dA) (show mt_at mt_c1 pc = some en from h), mt_findD mt_d1 (show mt_at mt_c1 pc = some en from h)⟩⟩
set_option maxRecDepth 100000 in
set_option maxHeartbeats 4000000 in
theorem mt_i2 : mt_All (mm_okI mt_Ts (mt_P xs) (mt_G oA dA) mt_cl mt_X mt_Mt mt_y2 mt_t2) mt_c2 := ⟨trivial, mt_f2_9, trivial, trivial, Or.inr ⟨by decide, by decide, mt_m2_335 xs⟩, trivial, rfl, trivial⟩
set_option maxRecDepth 100000 in
set_option maxHeartbeats 4000000 in
theorem mt_d2 : mt_c2.all (mt_ckD mt_b2) = true := by decide +kernel
theorem mt_g2 : mt_Good xs oA dA 2 := fun y bytes ret h => by
  obtain ⟨rfl, rfl, rfl⟩ := mt_inj (show some (mt_y2, mt_b2, mt_t2) = some (y, bytes, ret) from h)
  exact ⟨mt_pn2, fun pc en h => ⟨mt_find (mt_i2 xs oA dA) (show mt_at mt_c2 pc = some en from h), mt_findD mt_d2 (show mt_at mt_c2 pc = some en from h)⟩⟩
set_option maxRecDepth 100000 in
set_option maxHeartbeats 4000000 in
theorem mt_i3 : mt_All (mm_okI mt_Ts (mt_P xs) (mt_G oA dA) mt_cl mt_X mt_Mt mt_y3 mt_t3) mt_c3 := ⟨⟨"java/lang/String", "COMPACT_STRINGS", "Z", mt_in1 (i := 50) rfl, List.mem_of_getElem? (i := 0) rfl⟩, ⟨13, by decide⟩, trivial, mt_f2_15, trivial, trivial, rfl, trivial⟩
set_option maxRecDepth 100000 in
set_option maxHeartbeats 4000000 in
theorem mt_d3 : mt_c3.all (mt_ckD mt_b3) = true := by decide +kernel
theorem mt_g3 : mt_Good xs oA dA 3 := fun y bytes ret h => by
  obtain ⟨rfl, rfl, rfl⟩ := mt_inj (show some (mt_y3, mt_b3, mt_t3) = some (y, bytes, ret) from h)
  exact ⟨mt_pn2, fun pc en h => ⟨mt_find (mt_i3 xs oA dA) (show mt_at mt_c3 pc = some en from h), mt_findD mt_d3 (show mt_at mt_c3 pc = some en from h)⟩⟩
set_option maxRecDepth 100000 in
set_option maxHeartbeats 4000000 in
theorem mt_i4 : mt_All (mm_okI mt_Ts (mt_P xs) (mt_G oA dA) mt_cl mt_X mt_Mt mt_y4 mt_t4) mt_c4 := ⟨trivial, Or.inr ⟨by decide, by decide, mt_m2_492 xs⟩, ⟨16, by decide⟩, trivial, mt_f2_9, trivial, Or.inr (Or.inr (Or.inr ⟨rfl, mt_m2_495 xs⟩)), rfl, trivial, mt_f2_9, trivial, rfl, trivial⟩
set_option maxRecDepth 100000 in
set_option maxHeartbeats 4000000 in
theorem mt_d4 : mt_c4.all (mt_ckD mt_b4) = true := by decide +kernel
theorem mt_g4 : mt_Good xs oA dA 4 := fun y bytes ret h => by
  obtain ⟨rfl, rfl, rfl⟩ := mt_inj (show some (mt_y4, mt_b4, mt_t4) = some (y, bytes, ret) from h)
  exact ⟨mt_pn2, fun pc en h => ⟨mt_find (mt_i4 xs oA dA) (show mt_at mt_c4 pc = some en from h), mt_findD mt_d4 (show mt_at mt_c4 pc = some en from h)⟩⟩
set_option maxRecDepth 100000 in
set_option maxHeartbeats 4000000 in
theorem mt_i5 : mt_All (mm_okI mt_Ts (mt_P xs) (mt_G oA dA) mt_cl mt_X mt_Mt mt_y5 mt_t5) mt_c5 := ⟨⟨"java/lang/String", "COMPACT_STRINGS", "Z", mt_in1 (i := 50) rfl, List.mem_of_getElem? (i := 0) rfl⟩, ⟨17, by decide⟩, trivial, mt_f2_15, ⟨17, by decide⟩, trivial, trivial, trivial, rfl, trivial⟩
set_option maxRecDepth 100000 in
set_option maxHeartbeats 4000000 in
theorem mt_d5 : mt_c5.all (mt_ckD mt_b5) = true := by decide +kernel
theorem mt_g5 : mt_Good xs oA dA 5 := fun y bytes ret h => by
  obtain ⟨rfl, rfl, rfl⟩ := mt_inj (show some (mt_y5, mt_b5, mt_t5) = some (y, bytes, ret) from h)
  exact ⟨mt_pn2, fun pc en h => ⟨mt_find (mt_i5 xs oA dA) (show mt_at mt_c5 pc = some en from h), mt_findD mt_d5 (show mt_at mt_c5 pc = some en from h)⟩⟩
set_option maxRecDepth 100000 in
set_option maxHeartbeats 4000000 in
theorem mt_i6 : mt_All (mm_okI mt_Ts (mt_P xs) (mt_G oA dA) mt_cl mt_X mt_Mt mt_y6 mt_t6) mt_c6 := ⟨trivial, trivial, trivial, Or.inr (Or.inr (Or.inr ⟨rfl, mt_m3_9 xs⟩)), trivial, trivial, trivial, trivial, trivial, trivial, rfl, trivial⟩
set_option maxRecDepth 100000 in
set_option maxHeartbeats 4000000 in
theorem mt_d6 : mt_c6.all (mt_ckD mt_b6) = true := by decide +kernel
theorem mt_g6 : mt_Good xs oA dA 6 := fun y bytes ret h => by
  obtain ⟨rfl, rfl, rfl⟩ := mt_inj (show some (mt_y6, mt_b6, mt_t6) = some (y, bytes, ret) from h)
  exact ⟨mt_pn3, fun pc en h => ⟨mt_find (mt_i6 xs oA dA) (show mt_at mt_c6 pc = some en from h), mt_findD mt_d6 (show mt_at mt_c6 pc = some en from h)⟩⟩
set_option maxRecDepth 100000 in
set_option maxHeartbeats 4000000 in
theorem mt_i7 : mt_All (mm_okI mt_Ts (mt_P xs) (mt_G oA dA) mt_cl mt_X mt_Mt mt_y7 mt_t7) mt_c7 := ⟨trivial, trivial, ⟨"jdk/internal/util/Preconditions", "SIOOBE_FORMATTER", "Ljava/util/function/BiFunction;", mt_in1 (i := 66) rfl, List.mem_of_getElem? (i := 2) rfl⟩, Or.inr (Or.inr (Or.inr ⟨rfl, mt_m2_1059 xs⟩)), trivial, rfl, trivial⟩
set_option maxRecDepth 100000 in
set_option maxHeartbeats 4000000 in
theorem mt_d7 : mt_c7.all (mt_ckD mt_b7) = true := by decide +kernel
theorem mt_g7 : mt_Good xs oA dA 7 := fun y bytes ret h => by
  obtain ⟨rfl, rfl, rfl⟩ := mt_inj (show some (mt_y7, mt_b7, mt_t7) = some (y, bytes, ret) from h)
  exact ⟨mt_pn2, fun pc en h => ⟨mt_find (mt_i7 xs oA dA) (show mt_at mt_c7 pc = some en from h), mt_findD mt_d7 (show mt_at mt_c7 pc = some en from h)⟩⟩
set_option maxRecDepth 100000 in
set_option maxHeartbeats 4000000 in
theorem mt_i8 : mt_All (mm_okI mt_Ts (mt_P xs) (mt_G oA dA) mt_cl mt_X mt_Mt mt_y8 mt_t8) mt_c8 := ⟨trivial, ⟨9, by decide⟩, trivial, trivial, ⟨16, by decide⟩, trivial, trivial, trivial, trivial, rfl, trivial⟩
set_option maxRecDepth 100000 in
set_option maxHeartbeats 4000000 in
theorem mt_d8 : mt_c8.all (mt_ckD mt_b8) = true := by decide +kernel
theorem mt_g8 : mt_Good xs oA dA 8 := fun y bytes ret h => by
  obtain ⟨rfl, rfl, rfl⟩ := mt_inj (show some (mt_y8, mt_b8, mt_t8) = some (y, bytes, ret) from h)
  exact ⟨mt_pn4, fun pc en h => ⟨mt_find (mt_i8 xs oA dA) (show mt_at mt_c8 pc = some en from h), mt_findD mt_d8 (show mt_at mt_c8 pc = some en from h)⟩⟩
set_option maxRecDepth 100000 in
set_option maxHeartbeats 4000000 in
theorem mt_i9 : mt_All (mm_okI mt_Ts (mt_P xs) (mt_G oA dA) mt_cl mt_X mt_Mt mt_y9 mt_t9) mt_c9 := ⟨trivial, trivial, trivial, trivial, trivial, trivial, trivial, trivial, trivial, rfl, trivial⟩
set_option maxRecDepth 100000 in
set_option maxHeartbeats 4000000 in
theorem mt_d9 : mt_c9.all (mt_ckD mt_b9) = true := by decide +kernel
theorem mt_g9 : mt_Good xs oA dA 9 := fun y bytes ret h => by
  obtain ⟨rfl, rfl, rfl⟩ := mt_inj (show some (mt_y9, mt_b9, mt_t9) = some (y, bytes, ret) from h)
  exact ⟨mt_pn1, fun pc en h => ⟨mt_find (mt_i9 xs oA dA) (show mt_at mt_c9 pc = some en from h), mt_findD mt_d9 (show mt_at mt_c9 pc = some en from h)⟩⟩
set_option maxRecDepth 100000 in
set_option maxHeartbeats 4000000 in
theorem mt_i10 : mt_All (mm_okI mt_Ts (mt_P xs) (mt_G oA dA) mt_cl mt_X mt_Mt mt_y10 mt_t10) mt_c10 := ⟨trivial, Or.inl ⟨rfl, mt_in1 (i := 128) rfl, mt_in1 (i := 33) rfl, mt_in1 (i := 34) rfl⟩, trivial, trivial, mt_na0 oA dA, ⟨mt_f5_9, mt_p5_9i⟩, trivial, trivial, ⟨mt_f5_15, mt_p5_15i⟩, trivial, trivial, mt_na0 oA dA, ⟨mt_f5_19, mt_p5_19i⟩, trivial, mt_n5_22 xs, trivial, Or.inr ⟨rfl, mt_m5_24 xs⟩, ⟨mt_f5_25, mt_p5_25i⟩, trivial, trivial, ⟨mt_f5_29, mt_p5_29i⟩, rfl, trivial⟩
set_option maxRecDepth 100000 in
set_option maxHeartbeats 4000000 in
theorem mt_d10 : mt_c10.all (mt_ckD mt_b10) = true := by decide +kernel
theorem mt_g10 : mt_Good xs oA dA 10 := fun y bytes ret h => by
  obtain ⟨rfl, rfl, rfl⟩ := mt_inj (show some (mt_y10, mt_b10, mt_t10) = some (y, bytes, ret) from h)
  exact ⟨mt_pn5, fun pc en h => ⟨mt_find (mt_i10 xs oA dA) (show mt_at mt_c10 pc = some en from h), mt_findD mt_d10 (show mt_at mt_c10 pc = some en from h)⟩⟩
set_option maxRecDepth 100000 in
set_option maxHeartbeats 4000000 in
theorem mt_i11 : mt_All (mm_okI mt_Ts (mt_P xs) (mt_G oA dA) mt_cl mt_X mt_Mt mt_y11 mt_t11) mt_c11 := ⟨trivial, Or.inr ⟨rfl, mt_m6_1 xs⟩, trivial, ⟨"java/util/ArrayList", "DEFAULTCAPACITY_EMPTY_ELEMENTDATA", "[Ljava/lang/Object;", mt_in1 (i := 141) rfl, List.mem_of_getElem? (i := 1) rfl⟩, ⟨mt_f6_9, mt_p6_9i⟩, rfl, trivial⟩
set_option maxRecDepth 100000 in
set_option maxHeartbeats 4000000 in
theorem mt_d11 : mt_c11.all (mt_ckD mt_b11) = true := by decide +kernel
theorem mt_g11 : mt_Good xs oA dA 11 := fun y bytes ret h => by
  obtain ⟨rfl, rfl, rfl⟩ := mt_inj (show some (mt_y11, mt_b11, mt_t11) = some (y, bytes, ret) from h)
  exact ⟨mt_pn6, fun pc en h => ⟨mt_find (mt_i11 xs oA dA) (show mt_at mt_c11 pc = some en from h), mt_findD mt_d11 (show mt_at mt_c11 pc = some en from h)⟩⟩
set_option maxRecDepth 100000 in
set_option maxHeartbeats 4000000 in
theorem mt_i12 : mt_All (mm_okI mt_Ts (mt_P xs) (mt_G oA dA) mt_cl mt_X mt_Mt mt_y12 mt_t12) mt_c12 := ⟨trivial, Or.inr ⟨rfl, mt_m7_1 xs⟩, trivial, trivial, ⟨mt_f7_7, mt_p7_7i⟩, rfl, trivial⟩
set_option maxRecDepth 100000 in
set_option maxHeartbeats 4000000 in
theorem mt_d12 : mt_c12.all (mt_ckD mt_b12) = true := by decide +kernel
theorem mt_g12 : mt_Good xs oA dA 12 := fun y bytes ret h => by
  obtain ⟨rfl, rfl, rfl⟩ := mt_inj (show some (mt_y12, mt_b12, mt_t12) = some (y, bytes, ret) from h)
  exact ⟨mt_pn7, fun pc en h => ⟨mt_find (mt_i12 xs oA dA) (show mt_at mt_c12 pc = some en from h), mt_findD mt_d12 (show mt_at mt_c12 pc = some en from h)⟩⟩
set_option maxRecDepth 100000 in
set_option maxHeartbeats 4000000 in
theorem mt_i13 : mt_All (mm_okI mt_Ts (mt_P xs) (mt_G oA dA) mt_cl mt_X mt_Mt mt_y13 mt_t13) mt_c13 := ⟨trivial, Or.inl ⟨rfl, mt_in1 (i := 140) rfl, mt_in1 (i := 33) rfl, mt_in1 (i := 34) rfl⟩, rfl, trivial⟩
set_option maxRecDepth 100000 in
set_option maxHeartbeats 4000000 in
theorem mt_d13 : mt_c13.all (mt_ckD mt_b13) = true := by decide +kernel
theorem mt_g13 : mt_Good xs oA dA 13 := fun y bytes ret h => by
  obtain ⟨rfl, rfl, rfl⟩ := mt_inj (show some (mt_y13, mt_b13, mt_t13) = some (y, bytes, ret) from h)
  exact ⟨mt_pn8, fun pc en h => ⟨mt_find (mt_i13 xs oA dA) (show mt_at mt_c13 pc = some en from h), mt_findD mt_d13 (show mt_at mt_c13 pc = some en from h)⟩⟩
set_option maxRecDepth 100000 in
set_option maxHeartbeats 4000000 in
theorem mt_i14 : mt_All (mm_okI mt_Ts (mt_P xs) (mt_G oA dA) mt_cl mt_X mt_Mt mt_y14 mt_t14) mt_c14 := ⟨trivial, Or.inl ⟨rfl, mt_in1 (i := 208) rfl, mt_in1 (i := 33) rfl, mt_in1 (i := 34) rfl⟩, trivial, trivial, mt_a9_9 oA dA, ⟨mt_f9_11, mt_p9_11i⟩, trivial, mt_n9_9 xs, trivial, Or.inr ⟨rfl, mt_m9_17 xs⟩, ⟨mt_f9_18, mt_p9_18i⟩, trivial, trivial, mt_na0 oA dA, ⟨mt_f9_22, mt_p9_22i⟩, trivial, trivial, mt_na0 oA dA, ⟨mt_f9_26, mt_p9_26i⟩, trivial, trivial, ⟨mt_f9_29, mt_p9_29i⟩, trivial, trivial, trivial, trivial, mt_f9_11, trivial, ⟨76, by decide⟩, trivial, mt_f9_11, trivial, mt_n9_9 xs, trivial, Or.inr ⟨rfl, mt_m9_17 xs⟩, trivial, trivial, trivial, rfl, trivial⟩
set_option maxRecDepth 100000 in
set_option maxHeartbeats 4000000 in
theorem mt_d14 : mt_c14.all (mt_ckD mt_b14) = true := by decide +kernel
theorem mt_g14 : mt_Good xs oA dA 14 := fun y bytes ret h => by
  obtain ⟨rfl, rfl, rfl⟩ := mt_inj (show some (mt_y14, mt_b14, mt_t14) = some (y, bytes, ret) from h)
  exact ⟨mt_pn9, fun pc en h => ⟨mt_find (mt_i14 xs oA dA) (show mt_at mt_c14 pc = some en from h), mt_findD mt_d14 (show mt_at mt_c14 pc = some en from h)⟩⟩
set_option maxRecDepth 100000 in
set_option maxHeartbeats 4000000 in
theorem mt_i15 : mt_All (mm_okI mt_Ts (mt_P xs) (mt_G oA dA) mt_cl mt_X mt_Mt mt_y15 mt_t15) mt_c15 := ⟨trivial, Or.inl ⟨rfl, mt_in1 (i := 215) rfl, mt_in1 (i := 33) rfl, mt_in1 (i := 34) rfl⟩, rfl, trivial⟩
set_option maxRecDepth 100000 in
set_option maxHeartbeats 4000000 in
theorem mt_d15 : mt_c15.all (mt_ckD mt_b15) = true := by decide +kernel
theorem mt_g15 : mt_Good xs oA dA 15 := fun y bytes ret h => by
  obtain ⟨rfl, rfl, rfl⟩ := mt_inj (show some (mt_y15, mt_b15, mt_t15) = some (y, bytes, ret) from h)
  exact ⟨mt_pn10, fun pc en h => ⟨mt_find (mt_i15 xs oA dA) (show mt_at mt_c15 pc = some en from h), mt_findD mt_d15 (show mt_at mt_c15 pc = some en from h)⟩⟩
set_option maxRecDepth 100000 in
set_option maxHeartbeats 4000000 in
theorem mt_i16 : mt_All (mm_okI mt_Ts (mt_P xs) (mt_G oA dA) mt_cl mt_X mt_Mt mt_y16 mt_t16) mt_c16 := ⟨trivial, Or.inl ⟨rfl, mt_in2 (i := 61) rfl, mt_in1 (i := 33) rfl, mt_in1 (i := 34) rfl⟩, trivial, trivial, mt_a11_9 oA dA, ⟨mt_f11_11, mt_p11_11i⟩, trivial, trivial, mt_a11_17 oA dA, ⟨mt_f11_19, mt_p11_19i⟩, trivial, trivial, ⟨mt_f11_23, mt_p11_23i⟩, trivial, trivial, ⟨mt_f11_27, mt_p11_27i⟩, trivial, trivial, mt_a11_30 oA dA, ⟨mt_f11_32, mt_p11_32i⟩, trivial, trivial, mt_na0 oA dA, ⟨mt_f11_36, mt_p11_36i⟩, trivial, trivial, ⟨mt_f11_40, mt_p11_40i⟩, trivial, trivial, ⟨mt_f11_43, mt_p11_43i⟩, trivial, trivial, trivial, trivial, ⟨87, by decide⟩, trivial, mt_f11_11, trivial, mt_n11_9 xs, trivial, trivial, Or.inr ⟨rfl, mt_m11_47 xs⟩, trivial, trivial, trivial, rfl, trivial⟩
set_option maxRecDepth 100000 in
set_option maxHeartbeats 4000000 in
theorem mt_d16 : mt_c16.all (mt_ckD mt_b16) = true := by decide +kernel
theorem mt_g16 : mt_Good xs oA dA 16 := fun y bytes ret h => by
  obtain ⟨rfl, rfl, rfl⟩ := mt_inj (show some (mt_y16, mt_b16, mt_t16) = some (y, bytes, ret) from h)
  exact ⟨mt_pn11, fun pc en h => ⟨mt_find (mt_i16 xs oA dA) (show mt_at mt_c16 pc = some en from h), mt_findD mt_d16 (show mt_at mt_c16 pc = some en from h)⟩⟩
set_option maxRecDepth 100000 in
set_option maxHeartbeats 4000000 in
theorem mt_i17 : mt_All (mm_okI mt_Ts (mt_P xs) (mt_G oA dA) mt_cl mt_X mt_Mt mt_y17 mt_t17) mt_c17 := ⟨trivial, Or.inl ⟨rfl, mt_in2 (i := 71) rfl, mt_in1 (i := 33) rfl, mt_in1 (i := 34) rfl⟩, trivial, trivial, mt_na0 oA dA, ⟨mt_f12_9, mt_p12_9i⟩, trivial, trivial, mt_na1 oA dA, ⟨mt_f12_15, mt_p12_15i⟩, trivial, trivial, mt_na0 oA dA, ⟨mt_f12_19, mt_p12_19i⟩, trivial, trivial, ⟨mt_f12_22, mt_p12_22i⟩, rfl, trivial⟩
set_option maxRecDepth 100000 in
set_option maxHeartbeats 4000000 in
theorem mt_d17 : mt_c17.all (mt_ckD mt_b17) = true := by decide +kernel
theorem mt_g17 : mt_Good xs oA dA 17 := fun y bytes ret h => by
  obtain ⟨rfl, rfl, rfl⟩ := mt_inj (show some (mt_y17, mt_b17, mt_t17) = some (y, bytes, ret) from h)
  exact ⟨mt_pn12, fun pc en h => ⟨mt_find (mt_i17 xs oA dA) (show mt_at mt_c17 pc = some en from h), mt_findD mt_d17 (show mt_at mt_c17 pc = some en from h)⟩⟩
set_option maxRecDepth 100000 in
set_option maxHeartbeats 4000000 in
theorem mt_i18 : mt_All (mm_okI mt_Ts (mt_P xs) (mt_G oA dA) mt_cl mt_X mt_Mt mt_y18 mt_t18) mt_c18 := ⟨trivial, Or.inl ⟨rfl, mt_in2 (i := 165) rfl, mt_in1 (i := 33) rfl, mt_in1 (i := 34) rfl⟩, trivial, trivial, mt_a13_9 oA dA, ⟨mt_f13_11, mt_p13_11i⟩, rfl, trivial⟩
set_option maxRecDepth 100000 in
set_option maxHeartbeats 4000000 in
theorem mt_d18 : mt_c18.all (mt_ckD mt_b18) = true := by decide +kernel
theorem mt_g18 : mt_Good xs oA dA 18 := fun y bytes ret h => by
  obtain ⟨rfl, rfl, rfl⟩ := mt_inj (show some (mt_y18, mt_b18, mt_t18) = some (y, bytes, ret) from h)
  exact ⟨mt_pn13, fun pc en h => ⟨mt_find (mt_i18 xs oA dA) (show mt_at mt_c18 pc = some en from h), mt_findD mt_d18 (show mt_at mt_c18 pc = some en from h)⟩⟩
set_option maxRecDepth 100000 in
set_option maxHeartbeats 4000000 in
theorem mt_i19 : mt_All (mm_okI mt_Ts (mt_P xs) (mt_G oA dA) mt_cl mt_X mt_Mt mt_y19 mt_t19) mt_c19 := ⟨trivial, Or.inl ⟨rfl, mt_in2 (i := 182) rfl, mt_in1 (i := 33) rfl, mt_in1 (i := 34) rfl⟩, trivial, mt_n14_9 xs, trivial, Or.inr ⟨rfl, mt_m14_11 xs⟩, ⟨mt_f14_12, mt_p14_12i⟩, rfl, trivial⟩
set_option maxRecDepth 100000 in
set_option maxHeartbeats 4000000 in
theorem mt_d19 : mt_c19.all (mt_ckD mt_b19) = true := by decide +kernel
theorem mt_g19 : mt_Good xs oA dA 19 := fun y bytes ret h => by
  obtain ⟨rfl, rfl, rfl⟩ := mt_inj (show some (mt_y19, mt_b19, mt_t19) = some (y, bytes, ret) from h)
  exact ⟨mt_pn14, fun pc en h => ⟨mt_find (mt_i19 xs oA dA) (show mt_at mt_c19 pc = some en from h), mt_findD mt_d19 (show mt_at mt_c19 pc = some en from h)⟩⟩
set_option maxRecDepth 100000 in
set_option maxHeartbeats 4000000 in
theorem mt_i20 : mt_All (mm_okI mt_Ts (mt_P xs) (mt_G oA dA) mt_cl mt_X mt_Mt mt_y20 mt_t20) mt_c20 := ⟨trivial, mt_f0_10, mt_f0_74, trivial, trivial, trivial, ⟨18, by decide⟩, trivial, rfl, trivial, mt_f0_10, trivial, Or.inr ⟨by decide, by decide, mt_m0_77 xs⟩, trivial, mt_f0_10, trivial, Or.inr ⟨by decide, by decide, mt_m0_77 xs⟩, trivial, mt_f0_10, trivial, Or.inr ⟨by decide, by decide, mt_m0_77 xs⟩, trivial, mt_f0_10, trivial, Or.inr ⟨by decide, by decide, mt_m0_77 xs⟩, trivial, mt_f0_10, trivial, Or.inr ⟨by decide, by decide, mt_m0_77 xs⟩, trivial, mt_f0_10, mt_f0_74, rfl, trivial⟩
set_option maxRecDepth 100000 in
set_option maxHeartbeats 4000000 in
theorem mt_d20 : mt_c20.all (mt_ckD mt_b20) = true := by decide +kernel
theorem mt_g20 : mt_Good xs oA dA 20 := fun y bytes ret h => by
  obtain ⟨rfl, rfl, rfl⟩ := mt_inj (show some (mt_y20, mt_b20, mt_t20) = some (y, bytes, ret) from h)
  exact ⟨mt_pn0, fun pc en h => ⟨mt_find (mt_i20 xs oA dA) (show mt_at mt_c20 pc = some en from h), mt_findD mt_d20 (show mt_at mt_c20 pc = some en from h)⟩⟩
set_option maxRecDepth 100000 in
set_option maxHeartbeats 4000000 in
theorem mt_i21 : mt_All (mm_okI mt_Ts (mt_P xs) (mt_G oA dA) mt_cl mt_X mt_Mt mt_y21 mt_t21) mt_c21 := ⟨trivial, trivial, trivial, ⟨49, by decide⟩, trivial, mt_f1_43, trivial, ⟨49, by decide⟩, trivial, mt_f1_9, trivial, mt_f1_43, trivial, trivial, trivial, trivial, trivial, trivial, trivial, trivial, mt_f1_43, trivial, trivial, ⟨mt_f1_43, mt_p1_43 _⟩, trivial, trivial, rfl, trivial⟩
set_option maxRecDepth 100000 in
set_option maxHeartbeats 4000000 in
theorem mt_d21 : mt_c21.all (mt_ckD mt_b21) = true := by decide +kernel
theorem mt_g21 : mt_Good xs oA dA 21 := fun y bytes ret h => by
  obtain ⟨rfl, rfl, rfl⟩ := mt_inj (show some (mt_y21, mt_b21, mt_t21) = some (y, bytes, ret) from h)
  exact ⟨mt_pn1, fun pc en h => ⟨mt_find (mt_i21 xs oA dA) (show mt_at mt_c21 pc = some en from h), mt_findD mt_d21 (show mt_at mt_c21 pc = some en from h)⟩⟩
set_option maxRecDepth 100000 in
set_option maxHeartbeats 4000000 in
theorem mt_i22 : mt_All (mm_okI mt_Ts (mt_P xs) (mt_G oA dA) mt_cl mt_X mt_Mt mt_y22 mt_t22) mt_c22 := ⟨trivial, ⟨15, by decide⟩, trivial, trivial, mt_f0_10, mt_f0_74, ⟨17, by decide⟩, trivial, rfl, trivial, mt_f0_10, trivial, ⟨mt_f0_74, mt_p0_74 _⟩, trivial, rfl, trivial⟩
set_option maxRecDepth 100000 in
set_option maxHeartbeats 4000000 in
theorem mt_d22 : mt_c22.all (mt_ckD mt_b22) = true := by decide +kernel
theorem mt_g22 : mt_Good xs oA dA 22 := fun y bytes ret h => by
  obtain ⟨rfl, rfl, rfl⟩ := mt_inj (show some (mt_y22, mt_b22, mt_t22) = some (y, bytes, ret) from h)
  exact ⟨mt_pn0, fun pc en h => ⟨mt_find (mt_i22 xs oA dA) (show mt_at mt_c22 pc = some en from h), mt_findD mt_d22 (show mt_at mt_c22 pc = some en from h)⟩⟩
set_option maxRecDepth 100000 in
set_option maxHeartbeats 4000000 in
theorem mt_i23 : mt_All (mm_okI mt_Ts (mt_P xs) (mt_G oA dA) mt_cl mt_X mt_Mt mt_y23 mt_t23) mt_c23 := ⟨trivial, mt_f0_21, Or.inr ⟨by decide, by decide, mt_m0_80 xs⟩, rfl, trivial⟩
set_option maxRecDepth 100000 in
set_option maxHeartbeats 4000000 in
theorem mt_d23 : mt_c23.all (mt_ckD mt_b23) = true := by decide +kernel
theorem mt_g23 : mt_Good xs oA dA 23 := fun y bytes ret h => by
  obtain ⟨rfl, rfl, rfl⟩ := mt_inj (show some (mt_y23, mt_b23, mt_t23) = some (y, bytes, ret) from h)
  exact ⟨mt_pn0, fun pc en h => ⟨mt_find (mt_i23 xs oA dA) (show mt_at mt_c23 pc = some en from h), mt_findD mt_d23 (show mt_at mt_c23 pc = some en from h)⟩⟩
set_option maxRecDepth 100000 in
set_option maxHeartbeats 4000000 in
theorem mt_i24 : mt_All (mm_okI mt_Ts (mt_P xs) (mt_G oA dA) mt_cl mt_X mt_Mt mt_y24 mt_t24) mt_c24 := ⟨trivial, mt_f5_29, Or.inr ⟨by decide, by decide, mt_m5_33 xs⟩, trivial, trivial, ⟨mt_f5_38, mt_p5_38 _⟩, trivial, Or.inr ⟨by decide, by decide, mt_m5_41 xs⟩, trivial, ⟨22, by decide⟩, trivial, rfl, trivial, trivial, mt_f5_29, mt_f5_45, trivial, mt_f5_38, trivial, Or.inr ⟨by decide, by decide, mt_m5_48 xs⟩, trivial, trivial, trivial, mt_f5_38, trivial, trivial, ⟨mt_f5_38, mt_p5_38 _⟩, trivial, Or.inr ⟨by decide, by decide, mt_m5_41 xs⟩, trivial, ⟨61, by decide⟩, trivial, trivial, trivial, rfl, trivial⟩
set_option maxRecDepth 100000 in
set_option maxHeartbeats 4000000 in
theorem mt_d24 : mt_c24.all (mt_ckD mt_b24) = true := by decide +kernel
theorem mt_g24 : mt_Good xs oA dA 24 := fun y bytes ret h => by
  obtain ⟨rfl, rfl, rfl⟩ := mt_inj (show some (mt_y24, mt_b24, mt_t24) = some (y, bytes, ret) from h)
  exact ⟨mt_pn5, fun pc en h => ⟨mt_find (mt_i24 xs oA dA) (show mt_at mt_c24 pc = some en from h), mt_findD mt_d24 (show mt_at mt_c24 pc = some en from h)⟩⟩
set_option maxRecDepth 100000 in
set_option maxHeartbeats 4000000 in
theorem mt_i25 : mt_All (mm_okI mt_Ts (mt_P xs) (mt_G oA dA) mt_cl mt_X mt_Mt mt_y25 mt_t25) mt_c25 := ⟨trivial, trivial, ⟨mt_f1_46, mt_p1_46 _⟩, trivial, trivial, trivial, trivial, mt_f1_43, ⟨30, by decide⟩, trivial, trivial, trivial, trivial, Or.inr ⟨by decide, by decide, mt_m1_49 xs⟩, Or.inr (Or.inl ⟨rfl, mt_in3 (i := 126) rfl, mt_in3 (i := 83) rfl, mt_in1 (i := 18) rfl, mt_in3 (i := 84) rfl⟩), trivial, trivial, trivial, trivial, trivial, trivial, mt_f1_43, trivial, Or.inr ⟨by decide, by decide, mt_m1_58 xs⟩, trivial, trivial, ⟨mt_f1_43, mt_p1_43 _⟩, rfl, trivial⟩
set_option maxRecDepth 100000 in
set_option maxHeartbeats 4000000 in
theorem mt_d25 : mt_c25.all (mt_ckD mt_b25) = true := by decide +kernel
theorem mt_g25 : mt_Good xs oA dA 25 := fun y bytes ret h => by
  obtain ⟨rfl, rfl, rfl⟩ := mt_inj (show some (mt_y25, mt_b25, mt_t25) = some (y, bytes, ret) from h)
  exact ⟨mt_pn1, fun pc en h => ⟨mt_find (mt_i25 xs oA dA) (show mt_at mt_c25 pc = some en from h), mt_findD mt_d25 (show mt_at mt_c25 pc = some en from h)⟩⟩
set_option maxRecDepth 100000 in
set_option maxHeartbeats 4000000 in
theorem mt_i26 : mt_All (mm_okI mt_Ts (mt_P xs) (mt_G oA dA) mt_cl mt_X mt_Mt mt_y26 mt_t26) mt_c26 := ⟨trivial, mt_f1_9, trivial, trivial, trivial, trivial, trivial, ⟨19, by decide⟩, trivial, trivial, ⟨21, by decide⟩, trivial, rfl, trivial, Or.inr (Or.inr (Or.inr ⟨rfl, mt_m1_62 xs⟩)), ⟨34, by decide⟩, trivial, trivial, Or.inr ⟨by decide, by decide, mt_m1_66 xs⟩, rfl, trivial, Or.inr (Or.inr (Or.inr ⟨rfl, mt_m1_69 xs⟩)), ⟨47, by decide⟩, trivial, trivial, Or.inr ⟨by decide, by decide, mt_m1_72 xs⟩, rfl, trivial, trivial, ⟨87, by decide⟩, trivial, trivial, trivial, trivial, mt_f1_43, ⟨87, by decide⟩, trivial, mt_f1_9, trivial, trivial, trivial, trivial, trivial, ⟨87, by decide⟩, trivial, trivial, trivial, trivial, Or.inr ⟨by decide, by decide, mt_m1_58 xs⟩, trivial, rfl, trivial, Or.inr ⟨rfl, Or.inl ⟨mt_tx1, List.mem_of_getElem? (i := 1) rfl⟩⟩, trivial, trivial, Or.inr ⟨by decide, by decide, mt_m1_77 xs⟩, ⟨102, by decide⟩, trivial, trivial, trivial, trivial, trivial, Or.inr ⟨by decide, by decide, mt_m1_58 xs⟩, trivial, rfl, trivial⟩
set_option maxRecDepth 100000 in
set_option maxHeartbeats 4000000 in
theorem mt_d26 : mt_c26.all (mt_ckD mt_b26) = true := by decide +kernel
theorem mt_g26 : mt_Good xs oA dA 26 := fun y bytes ret h => by
  obtain ⟨rfl, rfl, rfl⟩ := mt_inj (show some (mt_y26, mt_b26, mt_t26) = some (y, bytes, ret) from h)
  exact ⟨mt_pn1, fun pc en h => ⟨mt_find (mt_i26 xs oA dA) (show mt_at mt_c26 pc = some en from h), mt_findD mt_d26 (show mt_at mt_c26 pc = some en from h)⟩⟩
set_option maxRecDepth 100000 in
set_option maxHeartbeats 4000000 in
theorem mt_i27 : mt_All (mm_okI mt_Ts (mt_P xs) (mt_G oA dA) mt_cl mt_X mt_Mt mt_y27 mt_t27) mt_c27 := ⟨trivial, trivial, ⟨16, by decide⟩, trivial, trivial, ⟨16, by decide⟩, trivial, trivial, trivial, rfl, trivial⟩
set_option maxRecDepth 100000 in
set_option maxHeartbeats 4000000 in
theorem mt_d27 : mt_c27.all (mt_ckD mt_b27) = true := by decide +kernel
theorem mt_g27 : mt_Good xs oA dA 27 := fun y bytes ret h => by
  obtain ⟨rfl, rfl, rfl⟩ := mt_inj (show some (mt_y27, mt_b27, mt_t27) = some (y, bytes, ret) from h)
  exact ⟨mt_pn1, fun pc en h => ⟨mt_find (mt_i27 xs oA dA) (show mt_at mt_c27 pc = some en from h), mt_findD mt_d27 (show mt_at mt_c27 pc = some en from h)⟩⟩
set_option maxRecDepth 100000 in
set_option maxHeartbeats 4000000 in
theorem mt_i28 : mt_All (mm_okI mt_Ts (mt_P xs) (mt_G oA dA) mt_cl mt_X mt_Mt mt_y28 mt_t28) mt_c28 := ⟨trivial, trivial, trivial, trivial, trivial, trivial, mt_f1_43, ⟨49, by decide⟩, trivial, mt_f1_9, trivial, trivial, Or.inr (Or.inr (Or.inr ⟨rfl, mt_m1_62 xs⟩)), ⟨49, by decide⟩, trivial, trivial, trivial, trivial, ⟨43, by decide⟩, trivial, trivial, mt_f1_9, trivial, trivial, Or.inr (Or.inr (Or.inr ⟨rfl, mt_m1_39 xs⟩)), trivial, trivial, trivial, trivial, mt_f1_24, trivial, trivial, Or.inr (Or.inr (Or.inr ⟨rfl, mt_m1_80 xs⟩)), trivial, trivial, trivial, trivial, trivial, ⟨79, by decide⟩, trivial, trivial, trivial, trivial, Or.inr ⟨by decide, by decide, mt_m1_58 xs⟩, trivial, trivial, trivial, ⟨100, by decide⟩, trivial, trivial, trivial, trivial, trivial, trivial, Or.inr ⟨by decide, by decide, mt_m1_58 xs⟩, trivial, trivial, trivial, trivial, trivial, Or.inr ⟨by decide, by decide, mt_m1_58 xs⟩, trivial, trivial, trivial, rfl, trivial⟩
set_option maxRecDepth 100000 in
set_option maxHeartbeats 4000000 in
theorem mt_d28 : mt_c28.all (mt_ckD mt_b28) = true := by decide +kernel
theorem mt_g28 : mt_Good xs oA dA 28 := fun y bytes ret h => by
  obtain ⟨rfl, rfl, rfl⟩ := mt_inj (show some (mt_y28, mt_b28, mt_t28) = some (y, bytes, ret) from h)
  exact ⟨mt_pn1, fun pc en h => ⟨mt_find (mt_i28 xs oA dA) (show mt_at mt_c28 pc = some en from h), mt_findD mt_d28 (show mt_at mt_c28 pc = some en from h)⟩⟩
set_option maxRecDepth 100000 in
set_option maxHeartbeats 4000000 in
theorem mt_i29 : mt_All (mm_okI mt_Ts (mt_P xs) (mt_G oA dA) mt_cl mt_X mt_Mt mt_y29 mt_t29) mt_c29 := ⟨trivial, trivial, trivial, trivial, ⟨28, by decide⟩, trivial, trivial, trivial, ⟨28, by decide⟩, trivial, trivial, trivial, trivial, ⟨22, by decide⟩, trivial, rfl, trivial, trivial, trivial, rfl, trivial⟩
set_option maxRecDepth 100000 in
set_option maxHeartbeats 4000000 in
theorem mt_d29 : mt_c29.all (mt_ckD mt_b29) = true := by decide +kernel
theorem mt_g29 : mt_Good xs oA dA 29 := fun y bytes ret h => by
  obtain ⟨rfl, rfl, rfl⟩ := mt_inj (show some (mt_y29, mt_b29, mt_t29) = some (y, bytes, ret) from h)
  exact ⟨mt_pn0, fun pc en h => ⟨mt_find (mt_i29 xs oA dA) (show mt_at mt_c29 pc = some en from h), mt_findD mt_d29 (show mt_at mt_c29 pc = some en from h)⟩⟩
set_option maxRecDepth 100000 in
set_option maxHeartbeats 4000000 in
theorem mt_i30 : mt_All (mm_okI mt_Ts (mt_P xs) (mt_G oA dA) mt_cl mt_X mt_Mt mt_y30 mt_t30) mt_c30 := ⟨trivial, mt_f1_46, trivial, mt_f1_15, trivial, ⟨52, by decide⟩, trivial, mt_f1_15, trivial, mt_f1_46, trivial, trivial, trivial, mt_f1_18, trivial, mt_f1_46, trivial, trivial, trivial, mt_f1_21, trivial, mt_f1_46, trivial, trivial, trivial, trivial, mt_f1_46, trivial, trivial, ⟨mt_f1_46, mt_p1_46 _⟩, rfl, trivial⟩
set_option maxRecDepth 100000 in
set_option maxHeartbeats 4000000 in
theorem mt_d30 : mt_c30.all (mt_ckD mt_b30) = true := by decide +kernel
theorem mt_g30 : mt_Good xs oA dA 30 := fun y bytes ret h => by
  obtain ⟨rfl, rfl, rfl⟩ := mt_inj (show some (mt_y30, mt_b30, mt_t30) = some (y, bytes, ret) from h)
  exact ⟨mt_pn1, fun pc en h => ⟨mt_find (mt_i30 xs oA dA) (show mt_at mt_c30 pc = some en from h), mt_findD mt_d30 (show mt_at mt_c30 pc = some en from h)⟩⟩
set_option maxRecDepth 100000 in
set_option maxHeartbeats 4000000 in
theorem mt_i31 : mt_All (mm_okI mt_Ts (mt_P xs) (mt_G oA dA) mt_cl mt_X mt_Mt mt_y31 mt_t31) mt_c31 := ⟨trivial, trivial, ⟨16, by decide⟩, trivial, trivial, ⟨16, by decide⟩, trivial, trivial, trivial, rfl, trivial⟩
set_option maxRecDepth 100000 in
set_option maxHeartbeats 4000000 in
theorem mt_d31 : mt_c31.all (mt_ckD mt_b31) = true := by decide +kernel
theorem mt_g31 : mt_Good xs oA dA 31 := fun y bytes ret h => by
  obtain ⟨rfl, rfl, rfl⟩ := mt_inj (show some (mt_y31, mt_b31, mt_t31) = some (y, bytes, ret) from h)
  exact ⟨mt_pn1, fun pc en h => ⟨mt_find (mt_i31 xs oA dA) (show mt_at mt_c31 pc = some en from h), mt_findD mt_d31 (show mt_at mt_c31 pc = some en from h)⟩⟩
set_option maxRecDepth 100000 in
set_option maxHeartbeats 4000000 in
theorem mt_i32 : mt_All (mm_okI mt_Ts (mt_P xs) (mt_G oA dA) mt_cl mt_X mt_Mt mt_y32 mt_t32) mt_c32 := ⟨trivial, trivial, trivial, trivial, trivial, trivial, mt_f1_43, ⟨53, by decide⟩, trivial, mt_f1_9, trivial, trivial, Or.inr (Or.inr (Or.inr ⟨rfl, mt_m1_69 xs⟩)), ⟨53, by decide⟩, trivial, trivial, trivial, trivial, ⟨47, by decide⟩, trivial, trivial, trivial, trivial, mt_f1_9, trivial, trivial, trivial, trivial, trivial, trivial, trivial, trivial, trivial, trivial, mt_f1_43, ⟨77, by decide⟩, trivial, mt_f1_9, trivial, trivial, Or.inr (Or.inr (Or.inr ⟨rfl, mt_m1_84 xs⟩)), ⟨77, by decide⟩, trivial, trivial, trivial, trivial, trivial, trivial, trivial, trivial, ⟨97, by decide⟩, trivial, ⟨97, by decide⟩, trivial, trivial, trivial, trivial, trivial, trivial, ⟨110, by decide⟩, trivial, trivial, trivial, trivial, trivial, Or.inr ⟨by decide, by decide, mt_m1_58 xs⟩, trivial, trivial, trivial, rfl, trivial⟩
set_option maxRecDepth 100000 in
set_option maxHeartbeats 4000000 in
theorem mt_d32 : mt_c32.all (mt_ckD mt_b32) = true := by decide +kernel
theorem mt_g32 : mt_Good xs oA dA 32 := fun y bytes ret h => by
  obtain ⟨rfl, rfl, rfl⟩ := mt_inj (show some (mt_y32, mt_b32, mt_t32) = some (y, bytes, ret) from h)
  exact ⟨mt_pn1, fun pc en h => ⟨mt_find (mt_i32 xs oA dA) (show mt_at mt_c32 pc = some en from h), mt_findD mt_d32 (show mt_at mt_c32 pc = some en from h)⟩⟩
set_option maxRecDepth 100000 in
set_option maxHeartbeats 4000000 in
theorem mt_i33 : mt_All (mm_okI mt_Ts (mt_P xs) (mt_G oA dA) mt_cl mt_X mt_Mt mt_y33 mt_t33) mt_c33 := ⟨trivial, Or.inr (Or.inr (Or.inr ⟨rfl, mt_m1_62 xs⟩)), ⟨19, by decide⟩, trivial, trivial, ⟨23, by decide⟩, trivial, trivial, ⟨23, by decide⟩, trivial, trivial, trivial, rfl, trivial⟩
set_option maxRecDepth 100000 in
set_option maxHeartbeats 4000000 in
theorem mt_d33 : mt_c33.all (mt_ckD mt_b33) = true := by decide +kernel
theorem mt_g33 : mt_Good xs oA dA 33 := fun y bytes ret h => by
  obtain ⟨rfl, rfl, rfl⟩ := mt_inj (show some (mt_y33, mt_b33, mt_t33) = some (y, bytes, ret) from h)
  exact ⟨mt_pn1, fun pc en h => ⟨mt_find (mt_i33 xs oA dA) (show mt_at mt_c33 pc = some en from h), mt_findD mt_d33 (show mt_at mt_c33 pc = some en from h)⟩⟩
set_option maxRecDepth 100000 in
set_option maxHeartbeats 4000000 in
theorem mt_i34 : mt_All (mm_okI mt_Ts (mt_P xs) (mt_G oA dA) mt_cl mt_X mt_Mt mt_y34 mt_t34) mt_c34 := ⟨trivial, trivial, trivial, Or.inr ⟨by decide, by decide, mt_m2_633 xs⟩, rfl, trivial⟩
set_option maxRecDepth 100000 in
set_option maxHeartbeats 4000000 in
theorem mt_d34 : mt_c34.all (mt_ckD mt_b34) = true := by decide +kernel
theorem mt_g34 : mt_Good xs oA dA 34 := fun y bytes ret h => by
  obtain ⟨rfl, rfl, rfl⟩ := mt_inj (show some (mt_y34, mt_b34, mt_t34) = some (y, bytes, ret) from h)
  exact ⟨mt_pn2, fun pc en h => ⟨mt_find (mt_i34 xs oA dA) (show mt_at mt_c34 pc = some en from h), mt_findD mt_d34 (show mt_at mt_c34 pc = some en from h)⟩⟩
set_option maxRecDepth 100000 in
set_option maxHeartbeats 4000000 in
theorem mt_i35 : mt_All (mm_okI mt_Ts (mt_P xs) (mt_G oA dA) mt_cl mt_X mt_Mt mt_y35 mt_t35) mt_c35 := ⟨trivial, Or.inr ⟨by decide, by decide, mt_m2_492 xs⟩, ⟨23, by decide⟩, trivial, mt_f2_9, trivial, trivial, trivial, Or.inr ⟨by decide, by decide, mt_m2_505 xs⟩, Or.inr (Or.inr (Or.inr ⟨rfl, mt_m2_637 xs⟩)), trivial, trivial, mt_f2_9, trivial, trivial, trivial, Or.inr ⟨by decide, by decide, mt_m2_505 xs⟩, rfl, trivial⟩
set_option maxRecDepth 100000 in
set_option maxHeartbeats 4000000 in
theorem mt_d35 : mt_c35.all (mt_ckD mt_b35) = true := by decide +kernel
theorem mt_g35 : mt_Good xs oA dA 35 := fun y bytes ret h => by
  obtain ⟨rfl, rfl, rfl⟩ := mt_inj (show some (mt_y35, mt_b35, mt_t35) = some (y, bytes, ret) from h)
  exact ⟨mt_pn2, fun pc en h => ⟨mt_find (mt_i35 xs oA dA) (show mt_at mt_c35 pc = some en from h), mt_findD mt_d35 (show mt_at mt_c35 pc = some en from h)⟩⟩
set_option maxRecDepth 100000 in
set_option maxHeartbeats 4000000 in
theorem mt_i36 : mt_All (mm_okI mt_Ts (mt_P xs) (mt_G oA dA) mt_cl mt_X mt_Mt mt_y36 mt_t36) mt_c36 := ⟨trivial, Or.inr (Or.inr (Or.inr ⟨rfl, mt_m3_88 xs⟩)), ⟨9, by decide⟩, trivial, rfl, trivial, trivial, Or.inr (Or.inl ⟨rfl, mt_in3 (i := 82) rfl, mt_in3 (i := 83) rfl, mt_in1 (i := 18) rfl, mt_in3 (i := 84) rfl⟩), trivial, trivial, trivial, trivial, Or.inr (Or.inr (Or.inl ⟨rfl, mt_in3 (i := 85) rfl, mt_in3 (i := 86) rfl, mt_in1 (i := 18) rfl, mt_in3 (i := 87) rfl⟩)), trivial, trivial, trivial, ⟨29, by decide⟩, trivial, rfl, trivial, trivial, trivial, trivial, Or.inr (Or.inr (Or.inr ⟨rfl, mt_m3_95 xs⟩)), rfl, trivial⟩
set_option maxRecDepth 100000 in
set_option maxHeartbeats 4000000 in
theorem mt_d36 : mt_c36.all (mt_ckD mt_b36) = true := by decide +kernel
theorem mt_g36 : mt_Good xs oA dA 36 := fun y bytes ret h => by
  obtain ⟨rfl, rfl, rfl⟩ := mt_inj (show some (mt_y36, mt_b36, mt_t36) = some (y, bytes, ret) from h)
  exact ⟨mt_pn3, fun pc en h => ⟨mt_find (mt_i36 xs oA dA) (show mt_at mt_c36 pc = some en from h), mt_findD mt_d36 (show mt_at mt_c36 pc = some en from h)⟩⟩
set_option maxRecDepth 100000 in
set_option maxHeartbeats 4000000 in
theorem mt_i37 : mt_All (mm_okI mt_Ts (mt_P xs) (mt_G oA dA) mt_cl mt_X mt_Mt mt_y37 mt_t37) mt_c37 := ⟨trivial, ⟨15, by decide⟩, trivial, trivial, ⟨15, by decide⟩, trivial, trivial, trivial, rfl, trivial⟩
set_option maxRecDepth 100000 in
set_option maxHeartbeats 4000000 in
theorem mt_d37 : mt_c37.all (mt_ckD mt_b37) = true := by decide +kernel
theorem mt_g37 : mt_Good xs oA dA 37 := fun y bytes ret h => by
  obtain ⟨rfl, rfl, rfl⟩ := mt_inj (show some (mt_y37, mt_b37, mt_t37) = some (y, bytes, ret) from h)
  exact ⟨mt_pn3, fun pc en h => ⟨mt_find (mt_i37 xs oA dA) (show mt_at mt_c37 pc = some en from h), mt_findD mt_d37 (show mt_at mt_c37 pc = some en from h)⟩⟩
set_option maxRecDepth 100000 in
set_option maxHeartbeats 4000000 in
theorem mt_i38 : mt_All (mm_okI mt_Ts (mt_P xs) (mt_G oA dA) mt_cl mt_X mt_Mt mt_y38 mt_t38) mt_c38 := ⟨trivial, trivial, trivial, trivial, trivial, trivial, trivial, ⟨31, by decide⟩, trivial, trivial, trivial, trivial, ⟨25, by decide⟩, trivial, rfl, trivial, trivial, trivial, rfl, trivial⟩
set_option maxRecDepth 100000 in
set_option maxHeartbeats 4000000 in
theorem mt_d38 : mt_c38.all (mt_ckD mt_b38) = true := by decide +kernel
theorem mt_g38 : mt_Good xs oA dA 38 := fun y bytes ret h => by
  obtain ⟨rfl, rfl, rfl⟩ := mt_inj (show some (mt_y38, mt_b38, mt_t38) = some (y, bytes, ret) from h)
  exact ⟨mt_pn3, fun pc en h => ⟨mt_find (mt_i38 xs oA dA) (show mt_at mt_c38 pc = some en from h), mt_findD mt_d38 (show mt_at mt_c38 pc = some en from h)⟩⟩
set_option maxRecDepth 100000 in
set_option maxHeartbeats 4000000 in
theorem mt_i39 : mt_All (mm_okI mt_Ts (mt_P xs) (mt_G oA dA) mt_cl mt_X mt_Mt mt_y39 mt_t39) mt_c39 := ⟨trivial, mt_f5_38, ⟨36, by decide⟩, trivial, mt_f5_38, trivial, mt_f5_29, mt_f5_184, ⟨36, by decide⟩, trivial, mt_f5_29, mt_f5_185, trivial, mt_f5_38, trivial, trivial, trivial, rfl, trivial⟩
set_option maxRecDepth 100000 in
set_option maxHeartbeats 4000000 in
theorem mt_d39 : mt_c39.all (mt_ckD mt_b39) = true := by decide +kernel
theorem mt_g39 : mt_Good xs oA dA 39 := fun y bytes ret h => by
  obtain ⟨rfl, rfl, rfl⟩ := mt_inj (show some (mt_y39, mt_b39, mt_t39) = some (y, bytes, ret) from h)
  exact ⟨mt_pn5, fun pc en h => ⟨mt_find (mt_i39 xs oA dA) (show mt_at mt_c39 pc = some en from h), mt_findD mt_d39 (show mt_at mt_c39 pc = some en from h)⟩⟩
set_option maxRecDepth 100000 in
set_option maxHeartbeats 4000000 in
theorem mt_i40 : mt_All (mm_okI mt_Ts (mt_P xs) (mt_G oA dA) mt_cl mt_X mt_Mt mt_y40 mt_t40) mt_c40 := ⟨trivial, trivial, trivial, trivial, mt_f5_181, ⟨28, by decide⟩, trivial, mt_f5_9, trivial, trivial, trivial, ⟨22, by decide⟩, trivial, rfl, trivial, trivial, trivial, mt_f5_181, trivial, ⟨39, by decide⟩, trivial, rfl, trivial, mt_f5_9, trivial, mt_f5_181, trivial, trivial, trivial, trivial, mt_f5_181, trivial, trivial, ⟨mt_f5_181, mt_p5_181 _⟩, trivial, mt_f5_181, trivial, trivial, rfl, trivial⟩
set_option maxRecDepth 100000 in
set_option maxHeartbeats 4000000 in
theorem mt_d40 : mt_c40.all (mt_ckD mt_b40) = true := by decide +kernel
theorem mt_g40 : mt_Good xs oA dA 40 := fun y bytes ret h => by
  obtain ⟨rfl, rfl, rfl⟩ := mt_inj (show some (mt_y40, mt_b40, mt_t40) = some (y, bytes, ret) from h)
  exact ⟨mt_pn5, fun pc en h => ⟨mt_find (mt_i40 xs oA dA) (show mt_at mt_c40 pc = some en from h), mt_findD mt_d40 (show mt_at mt_c40 pc = some en from h)⟩⟩
set_option maxRecDepth 100000 in
set_option maxHeartbeats 4000000 in
theorem mt_i41 : mt_All (mm_okI mt_Ts (mt_P xs) (mt_G oA dA) mt_cl mt_X mt_Mt mt_y41 mt_t41) mt_c41 := ⟨mt_n0_59 xs, trivial, Or.inr ⟨rfl, mt_m0_61 xs⟩, trivial, trivial, mt_f0_21, trivial, Or.inr ⟨by decide, by decide, mt_m0_84 xs⟩, ⟨21, by decide⟩, trivial, rfl, trivial, trivial, trivial, Or.inr ⟨by decide, by decide, mt_m0_88 xs⟩, trivial, trivial, ⟨mt_f0_62, mt_p0_62 _⟩, trivial, trivial, trivial, trivial, ⟨56, by decide⟩, trivial, mt_f0_27, trivial, trivial, trivial, ⟨mt_f0_92, mt_p0_92 _⟩, trivial, trivial, trivial, trivial, trivial, trivial, ⟨90, by decide⟩, trivial, mt_f0_37, trivial, trivial, trivial, ⟨mt_f0_96, mt_p0_96 _⟩, trivial, mt_f0_37, trivial, trivial, trivial, ⟨mt_f0_99, mt_p0_99 _⟩, trivial, trivial, trivial, trivial, ⟨mt_f0_102, mt_p0_102 _⟩, trivial, trivial, ⟨mt_f0_66, mt_p0_66 _⟩, trivial, mt_f0_55, Or.inr ⟨by decide, by decide, mt_m0_105 xs⟩, trivial, mt_f0_62, mt_f0_108, rfl, trivial⟩
set_option maxRecDepth 100000 in
set_option maxHeartbeats 4000000 in
theorem mt_d41 : mt_c41.all (mt_ckD mt_b41) = true := by decide +kernel
theorem mt_g41 : mt_Good xs oA dA 41 := fun y bytes ret h => by
  obtain ⟨rfl, rfl, rfl⟩ := mt_inj (show some (mt_y41, mt_b41, mt_t41) = some (y, bytes, ret) from h)
  exact ⟨mt_pn0, fun pc en h => ⟨mt_find (mt_i41 xs oA dA) (show mt_at mt_c41 pc = some en from h), mt_findD mt_d41 (show mt_at mt_c41 pc = some en from h)⟩⟩
set_option maxRecDepth 100000 in
set_option maxHeartbeats 4000000 in
theorem mt_i42 : mt_All (mm_okI mt_Ts (mt_P xs) (mt_G oA dA) mt_cl mt_X mt_Mt mt_y42 mt_t42) mt_c42 := ⟨trivial, mt_f5_29, Or.inr ⟨by decide, by decide, mt_m5_33 xs⟩, trivial, trivial, ⟨mt_f5_61, mt_p5_61 _⟩, trivial, mt_n5_22 xs, trivial, Or.inr ⟨rfl, mt_m5_24 xs⟩, ⟨mt_f5_25, mt_p5_25 _⟩, trivial, trivial, ⟨mt_f5_38, mt_p5_38 _⟩, trivial, Or.inr ⟨by decide, by decide, mt_m5_55 xs⟩, trivial, trivial, trivial, trivial, ⟨mt_f5_65, mt_p5_65 _⟩, trivial, ⟨179, by decide⟩, trivial, mt_f5_65, trivial, ⟨179, by decide⟩, trivial, Or.inr ⟨by decide, by decide, mt_m5_41 xs⟩, trivial, trivial, mt_f5_61, trivial, trivial, trivial, trivial, trivial, trivial, trivial, ⟨87, by decide⟩, trivial, Or.inr ⟨by decide, by decide, mt_m5_68 xs⟩, trivial, trivial, trivial, ⟨107, by decide⟩, trivial, trivial, ⟨107, by decide⟩, trivial, Or.inr ⟨by decide, by decide, mt_m5_72 xs⟩, trivial, trivial, trivial, ⟨142, by decide⟩, trivial, trivial, ⟨133, by decide⟩, trivial, trivial, ⟨133, by decide⟩, trivial, trivial, ⟨142, by decide⟩, trivial, trivial, Or.inr ⟨by decide, by decide, mt_m5_75 xs⟩, trivial, trivial, trivial, mt_f5_65, ⟨156, by decide⟩, trivial, trivial, ⟨156, by decide⟩, trivial, rfl, trivial, trivial, trivial, mt_f5_38, Or.inr ⟨by decide, by decide, mt_m5_79 xs⟩, trivial, trivial, trivial, mt_f5_65, trivial, trivial, ⟨mt_f5_65, mt_p5_65 _⟩, trivial, trivial, rfl, trivial⟩
set_option maxRecDepth 100000 in
set_option maxHeartbeats 4000000 in
theorem mt_d42 : mt_c42.all (mt_ckD mt_b42) = true := by decide +kernel
theorem mt_g42 : mt_Good xs oA dA 42 := fun y bytes ret h => by
  obtain ⟨rfl, rfl, rfl⟩ := mt_inj (show some (mt_y42, mt_b42, mt_t42) = some (y, bytes, ret) from h)
  exact ⟨mt_pn5, fun pc en h => ⟨mt_find (mt_i42 xs oA dA) (show mt_at mt_c42 pc = some en from h), mt_findD mt_d42 (show mt_at mt_c42 pc = some en from h)⟩⟩
set_option maxRecDepth 100000 in
set_option maxHeartbeats 4000000 in
theorem mt_i43 : mt_All (mm_okI mt_Ts (mt_P xs) (mt_G oA dA) mt_cl mt_X mt_Mt mt_y43 mt_t43) mt_c43 := ⟨trivial, trivial, ⟨mt_f5_58, mt_p5_58 _⟩, trivial, trivial, ⟨mt_f5_15, mt_p5_15 _⟩, rfl, trivial⟩
set_option maxRecDepth 100000 in
set_option maxHeartbeats 4000000 in
theorem mt_d43 : mt_c43.all (mt_ckD mt_b43) = true := by decide +kernel
theorem mt_g43 : mt_Good xs oA dA 43 := fun y bytes ret h => by
  obtain ⟨rfl, rfl, rfl⟩ := mt_inj (show some (mt_y43, mt_b43, mt_t43) = some (y, bytes, ret) from h)
  exact ⟨mt_pn5, fun pc en h => ⟨mt_find (mt_i43 xs oA dA) (show mt_at mt_c43 pc = some en from h), mt_findD mt_d43 (show mt_at mt_c43 pc = some en from h)⟩⟩
set_option maxRecDepth 100000 in
set_option maxHeartbeats 4000000 in
theorem mt_i44 : mt_All (mm_okI mt_Ts (mt_P xs) (mt_G oA dA) mt_cl mt_X mt_Mt mt_y44 mt_t44) mt_c44 := ⟨trivial, trivial, mt_f5_38, trivial, trivial, ⟨mt_f5_38, mt_p5_38 _⟩, trivial, mt_f5_38, trivial, trivial, Or.inr ⟨by decide, by decide, mt_m5_83 xs⟩, trivial, trivial, trivial, ⟨27, by decide⟩, trivial, rfl, trivial, mt_f5_61, trivial, trivial, mt_f5_61, trivial, Or.inr ⟨by decide, by decide, mt_m5_86 xs⟩, trivial, trivial, trivial, trivial, Or.inr ⟨by decide, by decide, mt_m5_79 xs⟩, rfl, trivial, mt_f5_61, trivial, trivial, mt_f5_61, mt_f5_92, trivial, ⟨78, by decide⟩, trivial, trivial, trivial, Or.inr ⟨by decide, by decide, mt_m5_79 xs⟩, rfl, trivial, trivial, trivial, Or.inr ⟨by decide, by decide, mt_m5_41 xs⟩, trivial, ⟨142, by decide⟩, trivial, trivial, mt_f5_38, trivial, trivial, ⟨mt_f5_38, mt_p5_38 _⟩, trivial, mt_f5_38, trivial, trivial, Or.inr ⟨by decide, by decide, mt_m5_83 xs⟩, trivial, trivial, trivial, ⟨117, by decide⟩, trivial, rfl, trivial, mt_f5_61, trivial, trivial, mt_f5_61, trivial, Or.inr ⟨by decide, by decide, mt_m5_86 xs⟩, trivial, trivial, trivial, trivial, Or.inr ⟨by decide, by decide, mt_m5_79 xs⟩, rfl, mt_n5_95 xs, trivial, trivial, trivial, mt_f5_65, trivial, trivial, trivial, trivial, Or.inr ⟨rfl, mt_m5_97 xs⟩, trivial, trivial, trivial, trivial, mt_f5_61, trivial, trivial, mt_f5_25, trivial, Or.inr ⟨by decide, by decide, mt_m5_100 xs⟩, trivial, trivial, trivial, mt_f5_61, trivial, Or.inr ⟨by decide, by decide, mt_m5_104 xs⟩, trivial, trivial, mt_f5_61, trivial, Or.inr ⟨by decide, by decide, mt_m5_86 xs⟩, trivial, trivial, trivial, Or.inr ⟨by decide, by decide, mt_m5_108 xs⟩, ⟨216, by decide⟩, trivial, rfl, trivial, trivial, trivial, trivial, ⟨254, by decide⟩, trivial, Or.inr ⟨by decide, by decide, mt_m5_41 xs⟩, trivial, ⟨254, by decide⟩, trivial, trivial, trivial, Or.inr ⟨by decide, by decide, mt_m5_111 xs⟩, ⟨248, by decide⟩, trivial, rfl, trivial, trivial, trivial, trivial, Or.inr ⟨by decide, by decide, mt_m5_108 xs⟩, rfl, trivial⟩
set_option maxRecDepth 100000 in
set_option maxHeartbeats 4000000 in
theorem mt_d44 : mt_c44.all (mt_ckD mt_b44) = true := by decide +kernel
theorem mt_g44 : mt_Good xs oA dA 44 := fun y bytes ret h => by
  obtain ⟨rfl, rfl, rfl⟩ := mt_inj (show some (mt_y44, mt_b44, mt_t44) = some (y, bytes, ret) from h)
  exact ⟨mt_pn5, fun pc en h => ⟨mt_find (mt_i44 xs oA dA) (show mt_at mt_c44 pc = some en from h), mt_findD mt_d44 (show mt_at mt_c44 pc = some en from h)⟩⟩
set_option maxRecDepth 100000 in
set_option maxHeartbeats 4000000 in
theorem mt_i45 : mt_All (mm_okI mt_Ts (mt_P xs) (mt_G oA dA) mt_cl mt_X mt_Mt mt_y45 mt_t45) mt_c45 := ⟨trivial, Or.inr ⟨by decide, by decide, mt_m5_41 xs⟩, trivial, ⟨20, by decide⟩, trivial, trivial, trivial, mt_f5_38, Or.inr ⟨by decide, by decide, mt_m5_79 xs⟩, trivial, trivial, rfl, trivial, trivial, mt_f5_29, mt_f5_45, trivial, mt_f5_38, trivial, Or.inr ⟨by decide, by decide, mt_m5_48 xs⟩, trivial, trivial, trivial, ⟨54, by decide⟩, trivial, trivial, trivial, mt_f5_38, Or.inr ⟨by decide, by decide, mt_m5_79 xs⟩, trivial, trivial, rfl, trivial, trivial, mt_f5_38, trivial, trivial, ⟨mt_f5_38, mt_p5_38 _⟩, trivial, rfl, trivial⟩
set_option maxRecDepth 100000 in
set_option maxHeartbeats 4000000 in
theorem mt_d45 : mt_c45.all (mt_ckD mt_b45) = true := by decide +kernel
theorem mt_g45 : mt_Good xs oA dA 45 := fun y bytes ret h => by
  obtain ⟨rfl, rfl, rfl⟩ := mt_inj (show some (mt_y45, mt_b45, mt_t45) = some (y, bytes, ret) from h)
  exact ⟨mt_pn5, fun pc en h => ⟨mt_find (mt_i45 xs oA dA) (show mt_at mt_c45 pc = some en from h), mt_findD mt_d45 (show mt_at mt_c45 pc = some en from h)⟩⟩
set_option maxRecDepth 100000 in
set_option maxHeartbeats 4000000 in
theorem mt_i46 : mt_All (mm_okI mt_Ts (mt_P xs) (mt_G oA dA) mt_cl mt_X mt_Mt mt_y46 mt_t46) mt_c46 := ⟨trivial, trivial, ⟨mt_f5_58, mt_p5_58 _⟩, trivial, trivial, ⟨33, by decide⟩, trivial, trivial, mt_f5_29, mt_f5_184, ⟨33, by decide⟩, trivial, mt_f5_29, mt_f5_188, trivial, trivial, trivial, trivial, ⟨mt_f5_15, mt_p5_15 _⟩, trivial, rfl, trivial⟩
set_option maxRecDepth 100000 in
set_option maxHeartbeats 4000000 in
theorem mt_d46 : mt_c46.all (mt_ckD mt_b46) = true := by decide +kernel
theorem mt_g46 : mt_Good xs oA dA 46 := fun y bytes ret h => by
  obtain ⟨rfl, rfl, rfl⟩ := mt_inj (show some (mt_y46, mt_b46, mt_t46) = some (y, bytes, ret) from h)
  exact ⟨mt_pn5, fun pc en h => ⟨mt_find (mt_i46 xs oA dA) (show mt_at mt_c46 pc = some en from h), mt_findD mt_d46 (show mt_at mt_c46 pc = some en from h)⟩⟩
set_option maxRecDepth 100000 in
set_option maxHeartbeats 4000000 in
theorem mt_i47 : mt_All (mm_okI mt_Ts (mt_P xs) (mt_G oA dA) mt_cl mt_X mt_Mt mt_y47 mt_t47) mt_c47 := ⟨trivial, trivial, trivial, trivial, mt_f13_17, ⟨36, by decide⟩, trivial, mt_f13_11, trivial, trivial, mt_f13_21, trivial, ⟨30, by decide⟩, trivial, mt_f13_11, trivial, trivial, ⟨_, rfl, Or.inl ⟨_, rfl⟩⟩, trivial, trivial, trivial, ⟨_, rfl, Or.inl ⟨_, rfl⟩⟩, trivial⟩
set_option maxRecDepth 100000 in
set_option maxHeartbeats 4000000 in
theorem mt_d47 : mt_c47.all (mt_ckD mt_b47) = true := by decide +kernel
theorem mt_g47 : mt_Good xs oA dA 47 := fun y bytes ret h => by
  obtain ⟨rfl, rfl, rfl⟩ := mt_inj (show some (mt_y47, mt_b47, mt_t47) = some (y, bytes, ret) from h)
  exact ⟨mt_pn13, fun pc en h => ⟨mt_find (mt_i47 xs oA dA) (show mt_at mt_c47 pc = some en from h), mt_findD mt_d47 (show mt_at mt_c47 pc = some en from h)⟩⟩
set_option maxRecDepth 100000 in
set_option maxHeartbeats 4000000 in
theorem mt_i48 : mt_All (mm_okI mt_Ts (mt_P xs) (mt_G oA dA) mt_cl mt_X mt_Mt mt_y48 mt_t48) mt_c48 := ⟨trivial, Or.inl ⟨rfl, mt_in3 (i := 168) rfl, mt_in1 (i := 33) rfl, mt_in1 (i := 34) rfl⟩, trivial, trivial, ⟨mt_f15_7, mt_p15_7i⟩, trivial, trivial, ⟨mt_f15_13, mt_p15_13i⟩, trivial, trivial, ⟨mt_f15_16, mt_p15_16i⟩, trivial, trivial, ⟨mt_f15_19, mt_p15_19i⟩, trivial, trivial, ⟨mt_f15_22, mt_p15_22i⟩, trivial, trivial, ⟨mt_f15_25, mt_p15_25i⟩, rfl, trivial⟩
set_option maxRecDepth 100000 in
set_option maxHeartbeats 4000000 in
theorem mt_d48 : mt_c48.all (mt_ckD mt_b48) = true := by decide +kernel
theorem mt_g48 : mt_Good xs oA dA 48 := fun y bytes ret h => by
  obtain ⟨rfl, rfl, rfl⟩ := mt_inj (show some (mt_y48, mt_b48, mt_t48) = some (y, bytes, ret) from h)
  exact ⟨mt_pn15, fun pc en h => ⟨mt_find (mt_i48 xs oA dA) (show mt_at mt_c48 pc = some en from h), mt_findD mt_d48 (show mt_at mt_c48 pc = some en from h)⟩⟩
set_option maxRecDepth 100000 in
set_option maxHeartbeats 4000000 in
theorem mt_i49 : mt_All (mm_okI mt_Ts (mt_P xs) (mt_G oA dA) mt_cl mt_X mt_Mt mt_y49 mt_t49) mt_c49 := ⟨trivial, trivial, mt_f6_63, trivial, trivial, ⟨mt_f6_63, mt_p6_63 _⟩, trivial, trivial, trivial, mt_f6_9, trivial, mt_f6_48, Or.inr ⟨by decide, by decide, mt_m6_131 xs⟩, trivial, rfl, trivial⟩
set_option maxRecDepth 100000 in
set_option maxHeartbeats 4000000 in
theorem mt_d49 : mt_c49.all (mt_ckD mt_b49) = true := by decide +kernel
theorem mt_g49 : mt_Good xs oA dA 49 := fun y bytes ret h => by
  obtain ⟨rfl, rfl, rfl⟩ := mt_inj (show some (mt_y49, mt_b49, mt_t49) = some (y, bytes, ret) from h)
  exact ⟨mt_pn6, fun pc en h => ⟨mt_find (mt_i49 xs oA dA) (show mt_at mt_c49 pc = some en from h), mt_findD mt_d49 (show mt_at mt_c49 pc = some en from h)⟩⟩
set_option maxRecDepth 100000 in
set_option maxHeartbeats 4000000 in
theorem mt_i50 : mt_All (mm_okI mt_Ts (mt_P xs) (mt_G oA dA) mt_cl mt_X mt_Mt mt_y50 mt_t50) mt_c50 := ⟨trivial, trivial, trivial, ⟨11, by decide⟩, trivial, Or.inr ⟨by decide, by decide, mt_m6_129 xs⟩, trivial, trivial, trivial, trivial, trivial, trivial, trivial, trivial, trivial, ⟨mt_f6_48, mt_p6_48 _⟩, rfl, trivial⟩
set_option maxRecDepth 100000 in
set_option maxHeartbeats 4000000 in
theorem mt_d50 : mt_c50.all (mt_ckD mt_b50) = true := by decide +kernel
theorem mt_g50 : mt_Good xs oA dA 50 := fun y bytes ret h => by
  obtain ⟨rfl, rfl, rfl⟩ := mt_inj (show some (mt_y50, mt_b50, mt_t50) = some (y, bytes, ret) from h)
  exact ⟨mt_pn6, fun pc en h => ⟨mt_find (mt_i50 xs oA dA) (show mt_at mt_c50 pc = some en from h), mt_findD mt_d50 (show mt_at mt_c50 pc = some en from h)⟩⟩
set_option maxRecDepth 100000 in
set_option maxHeartbeats 4000000 in
theorem mt_i51 : mt_All (mm_okI mt_Ts (mt_P xs) (mt_G oA dA) mt_cl mt_X mt_Mt mt_y51 mt_t51) mt_c51 := ⟨trivial, trivial, mt_f6_48, trivial, trivial, Or.inr ⟨by decide, by decide, mt_m6_69 xs⟩, ⟨_, rfl, Or.inr ⟨_, rfl⟩⟩, trivial⟩
set_option maxRecDepth 100000 in
set_option maxHeartbeats 4000000 in
theorem mt_d51 : mt_c51.all (mt_ckD mt_b51) = true := by decide +kernel
theorem mt_g51 : mt_Good xs oA dA 51 := fun y bytes ret h => by
  obtain ⟨rfl, rfl, rfl⟩ := mt_inj (show some (mt_y51, mt_b51, mt_t51) = some (y, bytes, ret) from h)
  exact ⟨mt_pn6, fun pc en h => ⟨mt_find (mt_i51 xs oA dA) (show mt_at mt_c51 pc = some en from h), mt_findD mt_d51 (show mt_at mt_c51 pc = some en from h)⟩⟩
set_option maxRecDepth 100000 in
set_option maxHeartbeats 4000000 in
theorem mt_i52 : mt_All (mm_okI mt_Ts (mt_P xs) (mt_G oA dA) mt_cl mt_X mt_Mt mt_y52 mt_t52) mt_c52 := ⟨trivial, mt_f6_9, trivial, trivial, trivial, ⟨20, by decide⟩, trivial, mt_f6_9, ⟨"java/util/ArrayList", "DEFAULTCAPACITY_EMPTY_ELEMENTDATA", "[Ljava/lang/Object;", mt_in1 (i := 141) rfl, List.mem_of_getElem? (i := 1) rfl⟩, ⟨45, by decide⟩, trivial, trivial, trivial, trivial, trivial, trivial, trivial, Or.inr (Or.inr (Or.inr ⟨rfl, mt_m6_73 xs⟩)), trivial, trivial, trivial, mt_f6_9, trivial, Or.inr (Or.inr (Or.inr ⟨rfl, mt_m6_66 xs⟩)), trivial, ⟨mt_f6_9, mt_p6_9 _⟩, ⟨_, rfl, Or.inr ⟨_, rfl⟩⟩, trivial, trivial, trivial, Or.inr (Or.inl ⟨rfl, mt_in4 (i := 17) rfl, mt_in3 (i := 83) rfl, mt_in1 (i := 18) rfl, mt_in3 (i := 84) rfl⟩), mt_a6_7 oA dA, trivial, ⟨mt_f6_9, mt_p6_9 _⟩, ⟨_, rfl, Or.inr ⟨_, rfl⟩⟩, trivial⟩
set_option maxRecDepth 100000 in
set_option maxHeartbeats 4000000 in
theorem mt_d52 : mt_c52.all (mt_ckD mt_b52) = true := by decide +kernel
theorem mt_g52 : mt_Good xs oA dA 52 := fun y bytes ret h => by
  obtain ⟨rfl, rfl, rfl⟩ := mt_inj (show some (mt_y52, mt_b52, mt_t52) = some (y, bytes, ret) from h)
  exact ⟨mt_pn6, fun pc en h => ⟨mt_find (mt_i52 xs oA dA) (show mt_at mt_c52 pc = some en from h), mt_findD mt_d52 (show mt_at mt_c52 pc = some en from h)⟩⟩
set_option maxRecDepth 100000 in
set_option maxHeartbeats 4000000 in
theorem mt_i53 : mt_All (mm_okI mt_Ts (mt_P xs) (mt_G oA dA) mt_cl mt_X mt_Mt mt_y53 mt_t53) mt_c53 := ⟨trivial, trivial, trivial, Or.inr (Or.inl ⟨rfl, mt_in3 (i := 221) rfl, mt_in3 (i := 83) rfl, mt_in1 (i := 18) rfl, mt_in3 (i := 84) rfl⟩), trivial, trivial, trivial, trivial, ⟨21, by decide⟩, trivial, Or.inl ⟨rfl, mt_in3 (i := 222) rfl⟩, ⟨21, by decide⟩, trivial, rfl, trivial, trivial, rfl, trivial⟩
set_option maxRecDepth 100000 in
set_option maxHeartbeats 4000000 in
theorem mt_d53 : mt_c53.all (mt_ckD mt_b53) = true := by decide +kernel
theorem mt_g53 : mt_Good xs oA dA 53 := fun y bytes ret h => by
  obtain ⟨rfl, rfl, rfl⟩ := mt_inj (show some (mt_y53, mt_b53, mt_t53) = some (y, bytes, ret) from h)
  exact ⟨mt_pn16, fun pc en h => ⟨mt_find (mt_i53 xs oA dA) (show mt_at mt_c53 pc = some en from h), mt_findD mt_d53 (show mt_at mt_c53 pc = some en from h)⟩⟩
set_option maxRecDepth 100000 in
set_option maxHeartbeats 4000000 in
theorem mt_i54 : mt_All (mm_okI mt_Ts (mt_P xs) (mt_G oA dA) mt_cl mt_X mt_Mt mt_y54 mt_t54) mt_c54 := ⟨trivial, trivial, trivial, Or.inl ⟨rfl, "java/lang/Object", by decide, rfl, mt_in3 (i := 229) rfl, mt_in9 (i := 239) rfl, mt_in9 (i := 238) rfl, mt_in3 (i := 230) rfl, mt_in4 (i := 6) rfl, List.mem_of_getElem? (i := 0) (by decide +kernel)⟩, Or.inr (Or.inr (Or.inr ⟨rfl, mt_m17_300 xs⟩)), ⟨_, rfl, Or.inr ⟨_, rfl⟩⟩, trivial⟩
set_option maxRecDepth 100000 in
set_option maxHeartbeats 4000000 in
theorem mt_d54 : mt_c54.all (mt_ckD mt_b54) = true := by decide +kernel
theorem mt_g54 : mt_Good xs oA dA 54 := fun y bytes ret h => by
  obtain ⟨rfl, rfl, rfl⟩ := mt_inj (show some (mt_y54, mt_b54, mt_t54) = some (y, bytes, ret) from h)
  exact ⟨mt_pn17, fun pc en h => ⟨mt_find (mt_i54 xs oA dA) (show mt_at mt_c54 pc = some en from h), mt_findD mt_d54 (show mt_at mt_c54 pc = some en from h)⟩⟩
set_option maxRecDepth 100000 in
set_option maxHeartbeats 4000000 in
theorem mt_i55 : mt_All (mm_okI mt_Ts (mt_P xs) (mt_G oA dA) mt_cl mt_X mt_Mt mt_y55 mt_t55) mt_c55 := ⟨trivial, Or.inr ⟨rfl, Or.inr ⟨"[Ljava/lang/Object;", mt_in4 (i := 10) rfl, List.mem_of_getElem? (i := 0) rfl⟩⟩, ⟨13, by decide⟩, trivial, mt_a17_2 oA dA, trivial, trivial, trivial, trivial, trivial, trivial, trivial, trivial, trivial, trivial, trivial, Or.inr (Or.inr (Or.inl ⟨rfl, mt_in4 (i := 13) rfl, mt_in3 (i := 86) rfl, mt_in1 (i := 18) rfl, mt_in3 (i := 87) rfl⟩)), Or.inl ⟨rfl, mt_in4 (i := 14) rfl, mt_in4 (i := 16) rfl, mt_in4 (i := 15) rfl, mt_in1 (i := 23) rfl⟩, trivial, ⟨_, rfl, Or.inr ⟨_, rfl⟩⟩, trivial⟩
set_option maxRecDepth 100000 in
set_option maxHeartbeats 4000000 in
theorem mt_d55 : mt_c55.all (mt_ckD mt_b55) = true := by decide +kernel
theorem mt_g55 : mt_Good xs oA dA 55 := fun y bytes ret h => by
  obtain ⟨rfl, rfl, rfl⟩ := mt_inj (show some (mt_y55, mt_b55, mt_t55) = some (y, bytes, ret) from h)
  exact ⟨mt_pn17, fun pc en h => ⟨mt_find (mt_i55 xs oA dA) (show mt_at mt_c55 pc = some en from h), mt_findD mt_d55 (show mt_at mt_c55 pc = some en from h)⟩⟩
set_option maxRecDepth 100000 in
set_option maxHeartbeats 4000000 in
theorem mt_i56 : mt_All (mm_okI mt_Ts (mt_P xs) (mt_G oA dA) mt_cl mt_X mt_Mt mt_y56 mt_t56) mt_c56 := ⟨trivial, trivial, mt_f13_46, Or.inr ⟨by decide, by decide, mt_m13_33 xs⟩, trivial, trivial, rfl, trivial, mt_f13_17, trivial, ⟨25, by decide⟩, trivial, rfl, trivial, trivial, mt_f13_57, Or.inr ⟨by decide, by decide, mt_m13_33 xs⟩, trivial, trivial, mt_f13_57, trivial, ⟨48, by decide⟩, trivial, trivial, trivial, rfl, mt_n13_9 xs, trivial, trivial, mt_f13_46, Or.inr ⟨rfl, mt_m13_67 xs⟩, trivial, trivial, trivial, ⟨mt_f13_29, mt_p13_29 _⟩, trivial, trivial, ⟨mt_f13_49, mt_p13_49 _⟩, trivial, mt_f13_11, trivial, mt_f13_17, trivial, trivial, trivial, trivial, mt_f13_17, trivial, trivial, ⟨mt_f13_17, mt_p13_17 _⟩, trivial, rfl, trivial⟩
set_option maxRecDepth 100000 in
set_option maxHeartbeats 4000000 in
theorem mt_d56 : mt_c56.all (mt_ckD mt_b56) = true := by decide +kernel
theorem mt_g56 : mt_Good xs oA dA 56 := fun y bytes ret h => by
  obtain ⟨rfl, rfl, rfl⟩ := mt_inj (show some (mt_y56, mt_b56, mt_t56) = some (y, bytes, ret) from h)
  exact ⟨mt_pn13, fun pc en h => ⟨mt_find (mt_i56 xs oA dA) (show mt_at mt_c56 pc = some en from h), mt_findD mt_d56 (show mt_at mt_c56 pc = some en from h)⟩⟩
set_option maxRecDepth 100000 in
set_option maxHeartbeats 4000000 in
theorem mt_i57 : mt_All (mm_okI mt_Ts (mt_P xs) (mt_G oA dA) mt_cl mt_X mt_Mt mt_y57 mt_t57) mt_c57 := ⟨trivial, Or.inl ⟨rfl, mt_in4 (i := 28) rfl, mt_in1 (i := 33) rfl, mt_in1 (i := 34) rfl⟩, trivial, trivial, mt_na0 oA dA, ⟨mt_f18_9, mt_p18_9i⟩, trivial, trivial, mt_na0 oA dA, ⟨mt_f18_15, mt_p18_15i⟩, trivial, trivial, mt_na0 oA dA, ⟨mt_f18_18, mt_p18_18i⟩, trivial, trivial, mt_na0 oA dA, ⟨mt_f18_21, mt_p18_21i⟩, trivial, trivial, mt_na0 oA dA, ⟨mt_f18_24, mt_p18_24i⟩, trivial, trivial, mt_na0 oA dA, ⟨mt_f18_27, mt_p18_27i⟩, trivial, trivial, mt_a18_30 oA dA, ⟨mt_f18_31, mt_p18_31i⟩, trivial, trivial, mt_na1 oA dA, ⟨mt_f18_35, mt_p18_35i⟩, trivial, trivial, mt_a18_10 oA dA, ⟨mt_f18_39, mt_p18_39i⟩, trivial, trivial, mt_na0 oA dA, ⟨mt_f18_43, mt_p18_43i⟩, trivial, trivial, mt_a18_10 oA dA, ⟨mt_f18_46, mt_p18_46i⟩, trivial, trivial, mt_na0 oA dA, ⟨mt_f18_49, mt_p18_49i⟩, trivial, trivial, ⟨mt_f18_52, mt_p18_52i⟩, rfl, trivial⟩
set_option maxRecDepth 100000 in
set_option maxHeartbeats 4000000 in
theorem mt_d57 : mt_c57.all (mt_ckD mt_b57) = true := by decide +kernel
theorem mt_g57 : mt_Good xs oA dA 57 := fun y bytes ret h => by
  obtain ⟨rfl, rfl, rfl⟩ := mt_inj (show some (mt_y57, mt_b57, mt_t57) = some (y, bytes, ret) from h)
  exact ⟨mt_pn18, fun pc en h => ⟨mt_find (mt_i57 xs oA dA) (show mt_at mt_c57 pc = some en from h), mt_findD mt_d57 (show mt_at mt_c57 pc = some en from h)⟩⟩
set_option maxRecDepth 100000 in
set_option maxHeartbeats 4000000 in
theorem mt_i58 : mt_All (mm_okI mt_Ts (mt_P xs) (mt_G oA dA) mt_cl mt_X mt_Mt mt_y58 mt_t58) mt_c58 := ⟨trivial, Or.inr ⟨by decide, by decide, mt_m5_41 xs⟩, trivial, ⟨18, by decide⟩, trivial, trivial, trivial, mt_f5_38, Or.inr ⟨by decide, by decide, mt_m5_79 xs⟩, rfl, trivial, trivial, mt_f5_38, trivial, trivial, ⟨mt_f5_38, mt_p5_38 _⟩, trivial, rfl, trivial⟩
set_option maxRecDepth 100000 in
set_option maxHeartbeats 4000000 in
theorem mt_d58 : mt_c58.all (mt_ckD mt_b58) = true := by decide +kernel
theorem mt_g58 : mt_Good xs oA dA 58 := fun y bytes ret h => by
  obtain ⟨rfl, rfl, rfl⟩ := mt_inj (show some (mt_y58, mt_b58, mt_t58) = some (y, bytes, ret) from h)
  exact ⟨mt_pn5, fun pc en h => ⟨mt_find (mt_i58 xs oA dA) (show mt_at mt_c58 pc = some en from h), mt_findD mt_d58 (show mt_at mt_c58 pc = some en from h)⟩⟩
set_option maxRecDepth 100000 in
set_option maxHeartbeats 4000000 in
theorem mt_i59 : mt_All (mm_okI mt_Ts (mt_P xs) (mt_G oA dA) mt_cl mt_X mt_Mt mt_y59 mt_t59) mt_c59 := ⟨trivial, Or.inr ⟨by decide, by decide, mt_m5_41 xs⟩, trivial, trivial, trivial, ⟨43, by decide⟩, trivial, trivial, ⟨43, by decide⟩, trivial, trivial, ⟨43, by decide⟩, trivial, trivial, ⟨43, by decide⟩, trivial, trivial, trivial, mt_f5_38, Or.inr ⟨by decide, by decide, mt_m5_79 xs⟩, rfl, trivial, trivial, mt_f5_38, trivial, trivial, ⟨mt_f5_38, mt_p5_38 _⟩, trivial, mt_f5_38, trivial, trivial, Or.inr ⟨by decide, by decide, mt_m5_83 xs⟩, trivial, trivial, trivial, ⟨73, by decide⟩, trivial, rfl, trivial, trivial, trivial, trivial, trivial, trivial, trivial, Or.inr ⟨by decide, by decide, mt_m5_115 xs⟩, trivial, trivial, ⟨104, by decide⟩, trivial, trivial, trivial, Or.inr ⟨by decide, by decide, mt_m5_79 xs⟩, rfl, trivial, trivial, trivial, trivial, ⟨mt_f5_121, mt_p5_121 _⟩, trivial, trivial, ⟨129, by decide⟩, trivial, trivial, Or.inr ⟨by decide, by decide, mt_m5_124 xs⟩, ⟨129, by decide⟩, trivial, rfl, trivial, trivial, ⟨174, by decide⟩, trivial, trivial, ⟨mt_f5_127, mt_p5_127 _⟩, trivial, trivial, ⟨mt_f5_130, mt_p5_130 _⟩, trivial, trivial, Or.inr ⟨by decide, by decide, mt_m5_133 xs⟩, ⟨156, by decide⟩, trivial, rfl, trivial, trivial, Or.inr ⟨by decide, by decide, mt_m5_136 xs⟩, trivial, mt_f5_19, trivial, mt_f5_127, Or.inr (Or.inr (Or.inr ⟨rfl, mt_m5_140 xs⟩)), trivial, mt_n5_95 xs, trivial, trivial, trivial, mt_f5_65, trivial, trivial, trivial, mt_f5_121, trivial, Or.inr ⟨rfl, mt_m5_97 xs⟩, trivial, trivial, trivial, trivial, mt_f5_25, trivial, Or.inr ⟨by decide, by decide, mt_m5_100 xs⟩, trivial, trivial, trivial, trivial, Or.inr ⟨by decide, by decide, mt_m5_146 xs⟩, trivial, trivial, rfl, trivial⟩
set_option maxRecDepth 100000 in
set_option maxHeartbeats 4000000 in
theorem mt_d59 : mt_c59.all (mt_ckD mt_b59) = true := by decide +kernel
theorem mt_g59 : mt_Good xs oA dA 59 := fun y bytes ret h => by
  obtain ⟨rfl, rfl, rfl⟩ := mt_inj (show some (mt_y59, mt_b59, mt_t59) = some (y, bytes, ret) from h)
  exact ⟨mt_pn5, fun pc en h => ⟨mt_find (mt_i59 xs oA dA) (show mt_at mt_c59 pc = some en from h), mt_findD mt_d59 (show mt_at mt_c59 pc = some en from h)⟩⟩
set_option maxRecDepth 100000 in
set_option maxHeartbeats 4000000 in
theorem mt_i60 : mt_All (mm_okI mt_Ts (mt_P xs) (mt_G oA dA) mt_cl mt_X mt_Mt mt_y60 mt_t60) mt_c60 := ⟨trivial, trivial, ⟨40, by decide⟩, trivial, mt_f18_27, trivial, mt_f18_74, trivial, Or.inr (Or.inr (Or.inr ⟨rfl, mt_m18_77 xs⟩)), trivial, ⟨25, by decide⟩, trivial, rfl, trivial, mt_f18_74, trivial, ⟨38, by decide⟩, trivial, trivial, trivial, rfl, trivial, trivial, trivial, trivial, trivial, trivial, Or.inr ⟨by decide, by decide, mt_m18_85 xs⟩, ⟨56, by decide⟩, trivial, rfl, trivial, mt_f18_81, trivial, trivial, trivial, trivial, ⟨87, by decide⟩, trivial, mt_f18_71, trivial, ⟨83, by decide⟩, trivial, trivial, trivial, trivial, trivial, mt_f18_62, trivial, ⟨100, by decide⟩, trivial, trivial, trivial, trivial, trivial, ⟨110, by decide⟩, trivial, trivial, trivial, rfl, trivial⟩
set_option maxRecDepth 100000 in
set_option maxHeartbeats 4000000 in
theorem mt_d60 : mt_c60.all (mt_ckD mt_b60) = true := by decide +kernel
theorem mt_g60 : mt_Good xs oA dA 60 := fun y bytes ret h => by
  obtain ⟨rfl, rfl, rfl⟩ := mt_inj (show some (mt_y60, mt_b60, mt_t60) = some (y, bytes, ret) from h)
  exact ⟨mt_pn18, fun pc en h => ⟨mt_find (mt_i60 xs oA dA) (show mt_at mt_c60 pc = some en from h), mt_findD mt_d60 (show mt_at mt_c60 pc = some en from h)⟩⟩
set_option maxRecDepth 100000 in
set_option maxHeartbeats 4000000 in
theorem mt_i61 : mt_All (mm_okI mt_Ts (mt_P xs) (mt_G oA dA) mt_cl mt_X mt_Mt mt_y61 mt_t61) mt_c61 := ⟨trivial, mt_f18_9, trivial, mt_f18_62, trivial, Or.inr (Or.inr (Or.inr ⟨rfl, mt_m18_77 xs⟩)), trivial, ⟨32, by decide⟩, trivial, mt_f18_21, trivial, mt_f18_71, trivial, Or.inr (Or.inr (Or.inr ⟨rfl, mt_m18_77 xs⟩)), trivial, ⟨36, by decide⟩, trivial, trivial, trivial, rfl, trivial⟩
set_option maxRecDepth 100000 in
set_option maxHeartbeats 4000000 in
theorem mt_d61 : mt_c61.all (mt_ckD mt_b61) = true := by decide +kernel
theorem mt_g61 : mt_Good xs oA dA 61 := fun y bytes ret h => by
  obtain ⟨rfl, rfl, rfl⟩ := mt_inj (show some (mt_y61, mt_b61, mt_t61) = some (y, bytes, ret) from h)
  exact ⟨mt_pn18, fun pc en h => ⟨mt_find (mt_i61 xs oA dA) (show mt_at mt_c61 pc = some en from h), mt_findD mt_d61 (show mt_at mt_c61 pc = some en from h)⟩⟩
set_option maxRecDepth 100000 in
set_option maxHeartbeats 4000000 in
theorem mt_i62 : mt_All (mm_okI mt_Ts (mt_P xs) (mt_G oA dA) mt_cl mt_X mt_Mt mt_y62 mt_t62) mt_c62 := ⟨trivial, trivial, ⟨14, by decide⟩, trivial, trivial, Or.inr ⟨by decide, by decide, mt_m5_108 xs⟩, rfl, trivial, trivial, Or.inr ⟨by decide, by decide, mt_m5_108 xs⟩, ⟨25, by decide⟩, trivial, rfl, trivial, Or.inr ⟨by decide, by decide, mt_m5_41 xs⟩, trivial, ⟨38, by decide⟩, trivial, trivial, trivial, trivial, trivial, ⟨54, by decide⟩, trivial, trivial, mt_f5_38, trivial, trivial, ⟨mt_f5_38, mt_p5_38 _⟩, trivial, Or.inr ⟨by decide, by decide, mt_m5_41 xs⟩, trivial, ⟨72, by decide⟩, trivial, trivial, trivial, mt_f5_38, Or.inr ⟨by decide, by decide, mt_m5_79 xs⟩, rfl, trivial, trivial, ⟨93, by decide⟩, trivial, mt_f5_29, mt_f5_45, trivial, mt_f5_38, trivial, trivial, trivial, trivial, mt_f5_29, mt_f5_45, trivial, mt_f5_38, trivial, ⟨mt_f5_121, mt_p5_121 _⟩, trivial, trivial, mt_f5_38, trivial, trivial, ⟨mt_f5_38, mt_p5_38 _⟩, trivial, trivial, Or.inr ⟨by decide, by decide, mt_m5_108 xs⟩, rfl, trivial⟩
set_option maxRecDepth 100000 in
set_option maxHeartbeats 4000000 in
theorem mt_d62 : mt_c62.all (mt_ckD mt_b62) = true := by decide +kernel
theorem mt_g62 : mt_Good xs oA dA 62 := fun y bytes ret h => by
  obtain ⟨rfl, rfl, rfl⟩ := mt_inj (show some (mt_y62, mt_b62, mt_t62) = some (y, bytes, ret) from h)
  exact ⟨mt_pn5, fun pc en h => ⟨mt_find (mt_i62 xs oA dA) (show mt_at mt_c62 pc = some en from h), mt_findD mt_d62 (show mt_at mt_c62 pc = some en from h)⟩⟩
set_option maxRecDepth 100000 in
set_option maxHeartbeats 4000000 in
theorem mt_i63 : mt_All (mm_okI mt_Ts (mt_P xs) (mt_G oA dA) mt_cl mt_X mt_Mt mt_y63 mt_t63) mt_c63 := ⟨trivial, trivial, Or.inr ⟨by decide, by decide, mt_m5_108 xs⟩, ⟨11, by decide⟩, trivial, rfl, trivial, trivial, trivial, trivial, ⟨44, by decide⟩, trivial, Or.inr ⟨by decide, by decide, mt_m5_41 xs⟩, trivial, ⟨44, by decide⟩, trivial, trivial, Or.inr ⟨by decide, by decide, mt_m5_159 xs⟩, ⟨38, by decide⟩, trivial, rfl, trivial, trivial, trivial, trivial, Or.inr ⟨by decide, by decide, mt_m5_108 xs⟩, rfl, trivial⟩
set_option maxRecDepth 100000 in
set_option maxHeartbeats 4000000 in
theorem mt_d63 : mt_c63.all (mt_ckD mt_b63) = true := by decide +kernel
theorem mt_g63 : mt_Good xs oA dA 63 := fun y bytes ret h => by
  obtain ⟨rfl, rfl, rfl⟩ := mt_inj (show some (mt_y63, mt_b63, mt_t63) = some (y, bytes, ret) from h)
  exact ⟨mt_pn5, fun pc en h => ⟨mt_find (mt_i63 xs oA dA) (show mt_at mt_c63 pc = some en from h), mt_findD mt_d63 (show mt_at mt_c63 pc = some en from h)⟩⟩
set_option maxRecDepth 100000 in
set_option maxHeartbeats 4000000 in
theorem mt_i64 : mt_All (mm_okI mt_Ts (mt_P xs) (mt_G oA dA) mt_cl mt_X mt_Mt mt_y64 mt_t64) mt_c64 := ⟨trivial, Or.inr ⟨by decide, by decide, mt_m5_41 xs⟩, trivial, trivial, trivial, ⟨34, by decide⟩, trivial, trivial, ⟨24, by decide⟩, trivial, trivial, ⟨34, by decide⟩, trivial, trivial, trivial, mt_f5_38, Or.inr ⟨by decide, by decide, mt_m5_79 xs⟩, rfl, trivial, trivial, ⟨55, by decide⟩, trivial, ⟨55, by decide⟩, trivial, trivial, trivial, mt_f5_38, Or.inr ⟨by decide, by decide, mt_m5_79 xs⟩, rfl, trivial, mt_f5_130, trivial, ⟨74, by decide⟩, trivial, trivial, trivial, mt_f5_38, Or.inr ⟨by decide, by decide, mt_m5_79 xs⟩, rfl, trivial, trivial, mt_f5_130, trivial, trivial, ⟨mt_f5_130, mt_p5_130 _⟩, trivial, trivial, Or.inr ⟨by decide, by decide, mt_m5_136 xs⟩, trivial, trivial, trivial, trivial, Or.inr ⟨by decide, by decide, mt_m5_162 xs⟩, rfl, trivial, Or.inr ⟨by decide, by decide, mt_m5_83 xs⟩, trivial, trivial, trivial, ⟨170, by decide⟩, trivial, trivial, Or.inr ⟨by decide, by decide, mt_m5_108 xs⟩, ⟨170, by decide⟩, trivial, trivial, trivial, Or.inr ⟨by decide, by decide, mt_m5_156 xs⟩, ⟨172, by decide⟩, trivial, rfl, trivial, trivial, Or.inr ⟨by decide, by decide, mt_m5_136 xs⟩, trivial, trivial, Or.inr ⟨by decide, by decide, mt_m5_136 xs⟩, trivial, trivial, Or.inr ⟨by decide, by decide, mt_m5_108 xs⟩, rfl, trivial, trivial, mt_f5_38, trivial, trivial, ⟨mt_f5_38, mt_p5_38 _⟩, trivial, trivial, trivial, Or.inr ⟨by decide, by decide, mt_m5_156 xs⟩, ⟨211, by decide⟩, trivial, rfl, trivial, trivial, Or.inr ⟨by decide, by decide, mt_m5_136 xs⟩, trivial, trivial, Or.inr ⟨by decide, by decide, mt_m5_108 xs⟩, rfl, trivial, trivial, Or.inr ⟨by decide, by decide, mt_m5_165 xs⟩, ⟨244, by decide⟩, trivial, trivial, Or.inr ⟨by decide, by decide, mt_m5_108 xs⟩, ⟨244, by decide⟩, trivial, trivial, trivial, rfl, trivial⟩
set_option maxRecDepth 100000 in
set_option maxHeartbeats 4000000 in
theorem mt_d64 : mt_c64.all (mt_ckD mt_b64) = true := by decide +kernel
theorem mt_g64 : mt_Good xs oA dA 64 := fun y bytes ret h => by
  obtain ⟨rfl, rfl, rfl⟩ := mt_inj (show some (mt_y64, mt_b64, mt_t64) = some (y, bytes, ret) from h)
  exact ⟨mt_pn5, fun pc en h => ⟨mt_find (mt_i64 xs oA dA) (show mt_at mt_c64 pc = some en from h), mt_findD mt_d64 (show mt_at mt_c64 pc = some en from h)⟩⟩
set_option maxRecDepth 100000 in
set_option maxHeartbeats 4000000 in
theorem mt_i65 : mt_All (mm_okI mt_Ts (mt_P xs) (mt_G oA dA) mt_cl mt_X mt_Mt mt_y65 mt_t65) mt_c65 := ⟨trivial, mt_f5_127, trivial, mt_f5_19, trivial, ⟨32, by decide⟩, trivial, mt_f5_19, trivial, mt_f5_127, trivial, trivial, trivial, trivial, mt_f5_127, trivial, trivial, ⟨mt_f5_127, mt_p5_127 _⟩, rfl, trivial⟩
set_option maxRecDepth 100000 in
set_option maxHeartbeats 4000000 in
theorem mt_d65 : mt_c65.all (mt_ckD mt_b65) = true := by decide +kernel
theorem mt_g65 : mt_Good xs oA dA 65 := fun y bytes ret h => by
  obtain ⟨rfl, rfl, rfl⟩ := mt_inj (show some (mt_y65, mt_b65, mt_t65) = some (y, bytes, ret) from h)
  exact ⟨mt_pn5, fun pc en h => ⟨mt_find (mt_i65 xs oA dA) (show mt_at mt_c65 pc = some en from h), mt_findD mt_d65 (show mt_at mt_c65 pc = some en from h)⟩⟩
set_option maxRecDepth 100000 in
set_option maxHeartbeats 4000000 in
theorem mt_i66 : mt_All (mm_okI mt_Ts (mt_P xs) (mt_G oA dA) mt_cl mt_X mt_Mt mt_y66 mt_t66) mt_c66 := ⟨trivial, trivial, ⟨16, by decide⟩, trivial, trivial, trivial, mt_f5_38, Or.inr ⟨by decide, by decide, mt_m5_79 xs⟩, rfl, trivial, trivial, mt_f5_38, trivial, trivial, ⟨mt_f5_38, mt_p5_38 _⟩, trivial, trivial, trivial, trivial, trivial, Or.inr ⟨by decide, by decide, mt_m5_156 xs⟩, ⟨39, by decide⟩, trivial, rfl, trivial, trivial, Or.inr ⟨by decide, by decide, mt_m5_136 xs⟩, trivial, mt_f5_127, trivial, trivial, trivial, Or.inr ⟨by decide, by decide, mt_m5_136 xs⟩, trivial, trivial, trivial, trivial, Or.inr ⟨by decide, by decide, mt_m5_133 xs⟩, ⟨68, by decide⟩, trivial, rfl, trivial, Or.inr ⟨by decide, by decide, mt_m5_41 xs⟩, trivial, ⟨89, by decide⟩, trivial, trivial, trivial, mt_f5_127, Or.inr ⟨by decide, by decide, mt_m5_168 xs⟩, trivial, rfl, trivial, trivial, mt_f5_38, trivial, trivial, ⟨mt_f5_38, mt_p5_38 _⟩, trivial, trivial, Or.inr ⟨by decide, by decide, mt_m5_136 xs⟩, trivial, mt_f5_127, trivial, trivial, trivial, Or.inr ⟨by decide, by decide, mt_m5_136 xs⟩, trivial, trivial, trivial, mt_f5_127, Or.inr ⟨by decide, by decide, mt_m5_168 xs⟩, trivial, trivial, trivial, trivial, Or.inr ⟨by decide, by decide, mt_m5_133 xs⟩, ⟨137, by decide⟩, trivial, rfl, trivial, trivial, trivial, mt_f5_127, Or.inr ⟨by decide, by decide, mt_m5_168 xs⟩, trivial, rfl, trivial⟩
set_option maxRecDepth 100000 in
set_option maxHeartbeats 4000000 in
theorem mt_d66 : mt_c66.all (mt_ckD mt_b66) = true := by decide +kernel
theorem mt_g66 : mt_Good xs oA dA 66 := fun y bytes ret h => by
  obtain ⟨rfl, rfl, rfl⟩ := mt_inj (show some (mt_y66, mt_b66, mt_t66) = some (y, bytes, ret) from h)
  exact ⟨mt_pn5, fun pc en h => ⟨mt_find (mt_i66 xs oA dA) (show mt_at mt_c66 pc = some en from h), mt_findD mt_d66 (show mt_at mt_c66 pc = some en from h)⟩⟩
set_option maxRecDepth 100000 in
set_option maxHeartbeats 4000000 in
theorem mt_i67 : mt_All (mm_okI mt_Ts (mt_P xs) (mt_G oA dA) mt_cl mt_X mt_Mt mt_y67 mt_t67) mt_c67 := ⟨trivial, trivial, ⟨11, by decide⟩, trivial, trivial, Or.inr ⟨by decide, by decide, mt_m5_172 xs⟩, rfl, trivial, trivial, trivial, trivial, trivial, Or.inr ⟨by decide, by decide, mt_m5_156 xs⟩, ⟨24, by decide⟩, trivial, rfl, trivial, ⟨32, by decide⟩, trivial, trivial, trivial, trivial, trivial, trivial, trivial, trivial, ⟨97, by decide⟩, trivial, trivial, Or.inr ⟨by decide, by decide, mt_m5_41 xs⟩, Or.inr (Or.inr (Or.inr ⟨rfl, mt_m5_175 xs⟩)), ⟨97, by decide⟩, trivial, Or.inr ⟨by decide, by decide, mt_m5_41 xs⟩, trivial, trivial, trivial, mt_f5_38, trivial, trivial, ⟨mt_f5_38, mt_p5_38 _⟩, trivial, trivial, trivial, trivial, trivial, Or.inr ⟨by decide, by decide, mt_m5_156 xs⟩, ⟨85, by decide⟩, trivial, rfl, trivial, trivial, Or.inr ⟨by decide, by decide, mt_m5_136 xs⟩, trivial, trivial, trivial, rfl, trivial⟩
set_option maxRecDepth 100000 in
set_option maxHeartbeats 4000000 in
theorem mt_d67 : mt_c67.all (mt_ckD mt_b67) = true := by decide +kernel
theorem mt_g67 : mt_Good xs oA dA 67 := fun y bytes ret h => by
  obtain ⟨rfl, rfl, rfl⟩ := mt_inj (show some (mt_y67, mt_b67, mt_t67) = some (y, bytes, ret) from h)
  exact ⟨mt_pn5, fun pc en h => ⟨mt_find (mt_i67 xs oA dA) (show mt_at mt_c67 pc = some en from h), mt_findD mt_d67 (show mt_at mt_c67 pc = some en from h)⟩⟩
set_option maxRecDepth 100000 in
set_option maxHeartbeats 4000000 in
theorem mt_i68 : mt_All (mm_okI mt_Ts (mt_P xs) (mt_G oA dA) mt_cl mt_X mt_Mt mt_y68 mt_t68) mt_c68 := ⟨trivial, Or.inr ⟨by decide, by decide, mt_m5_41 xs⟩, trivial, trivial, trivial, trivial, trivial, Or.inr ⟨by decide, by decide, mt_m5_136 xs⟩, trivial, trivial, mt_f5_29, mt_f5_45, trivial, mt_f5_38, trivial, Or.inr ⟨by decide, by decide, mt_m5_136 xs⟩, trivial, trivial, mt_f5_38, trivial, trivial, ⟨mt_f5_38, mt_p5_38 _⟩, trivial, rfl, trivial, Or.inr ⟨by decide, by decide, mt_m5_83 xs⟩, trivial, trivial, trivial, Or.inr ⟨by decide, by decide, mt_m5_136 xs⟩, trivial, trivial, Or.inr ⟨by decide, by decide, mt_m5_136 xs⟩, trivial, trivial, ⟨121, by decide⟩, trivial, trivial, trivial, rfl, trivial, trivial, Or.inr ⟨by decide, by decide, mt_m5_136 xs⟩, trivial, trivial, mt_f5_38, trivial, trivial, ⟨mt_f5_38, mt_p5_38 _⟩, trivial, rfl, trivial, trivial, trivial, Or.inr ⟨by decide, by decide, mt_m5_178 xs⟩, rfl, trivial, trivial, trivial, mt_f5_38, Or.inr ⟨by decide, by decide, mt_m5_79 xs⟩, rfl, trivial⟩
set_option maxRecDepth 100000 in
set_option maxHeartbeats 4000000 in
theorem mt_d68 : mt_c68.all (mt_ckD mt_b68) = true := by decide +kernel
theorem mt_g68 : mt_Good xs oA dA 68 := fun y bytes ret h => by
  obtain ⟨rfl, rfl, rfl⟩ := mt_inj (show some (mt_y68, mt_b68, mt_t68) = some (y, bytes, ret) from h)
  exact ⟨mt_pn5, fun pc en h => ⟨mt_find (mt_i68 xs oA dA) (show mt_at mt_c68 pc = some en from h), mt_findD mt_d68 (show mt_at mt_c68 pc = some en from h)⟩⟩
set_option maxRecDepth 100000 in
set_option maxHeartbeats 4000000 in
theorem mt_i69 : mt_All (mm_okI mt_Ts (mt_P xs) (mt_G oA dA) mt_cl mt_X mt_Mt mt_y69 mt_t69) mt_c69 := ⟨trivial, trivial, ⟨16, by decide⟩, trivial, trivial, trivial, mt_f5_38, Or.inr ⟨by decide, by decide, mt_m5_79 xs⟩, rfl, trivial, trivial, mt_f5_38, trivial, trivial, ⟨mt_f5_38, mt_p5_38 _⟩, trivial, trivial, ⟨58, by decide⟩, trivial, trivial, trivial, trivial, trivial, Or.inr ⟨by decide, by decide, mt_m5_156 xs⟩, ⟨56, by decide⟩, trivial, trivial, Or.inr ⟨by decide, by decide, mt_m5_108 xs⟩, ⟨56, by decide⟩, trivial, trivial, trivial, rfl, trivial, trivial, trivial, trivial, trivial, Or.inr ⟨by decide, by decide, mt_m5_156 xs⟩, ⟨71, by decide⟩, trivial, rfl, trivial, trivial, Or.inr ⟨by decide, by decide, mt_m5_136 xs⟩, trivial, rfl, trivial⟩
set_option maxRecDepth 100000 in
set_option maxHeartbeats 4000000 in
theorem mt_d69 : mt_c69.all (mt_ckD mt_b69) = true := by decide +kernel
theorem mt_g69 : mt_Good xs oA dA 69 := fun y bytes ret h => by
  obtain ⟨rfl, rfl, rfl⟩ := mt_inj (show some (mt_y69, mt_b69, mt_t69) = some (y, bytes, ret) from h)
  exact ⟨mt_pn5, fun pc en h => ⟨mt_find (mt_i69 xs oA dA) (show mt_at mt_c69 pc = some en from h), mt_findD mt_d69 (show mt_at mt_c69 pc = some en from h)⟩⟩
set_option maxRecDepth 100000 in
set_option maxHeartbeats 4000000 in
theorem mt_i70 : mt_All (mm_okI mt_Ts (mt_P xs) (mt_G oA dA) mt_cl mt_X mt_Mt mt_y70 mt_t70) mt_c70 := ⟨trivial, trivial, trivial, trivial, ⟨41, by decide⟩, trivial, trivial, ⟨45, by decide⟩, trivial, trivial, trivial, rfl, trivial, trivial, ⟨59, by decide⟩, trivial, trivial, ⟨63, by decide⟩, trivial, trivial, trivial, rfl, trivial, trivial, ⟨77, by decide⟩, trivial, trivial, ⟨81, by decide⟩, trivial, trivial, trivial, rfl, trivial⟩
set_option maxRecDepth 100000 in
set_option maxHeartbeats 4000000 in
theorem mt_d70 : mt_c70.all (mt_ckD mt_b70) = true := by decide +kernel
theorem mt_g70 : mt_Good xs oA dA 70 := fun y bytes ret h => by
  obtain ⟨rfl, rfl, rfl⟩ := mt_inj (show some (mt_y70, mt_b70, mt_t70) = some (y, bytes, ret) from h)
  exact ⟨mt_pn5, fun pc en h => ⟨mt_find (mt_i70 xs oA dA) (show mt_at mt_c70 pc = some en from h), mt_findD mt_d70 (show mt_at mt_c70 pc = some en from h)⟩⟩
set_option maxRecDepth 100000 in
set_option maxHeartbeats 4000000 in
theorem mt_i71 : mt_All (mm_okI mt_Ts (mt_P xs) (mt_G oA dA) mt_cl mt_X mt_Mt mt_y71 mt_t71) mt_c71 := ⟨trivial, ⟨19, by decide⟩, trivial, trivial, mt_f5_127, ⟨19, by decide⟩, trivial, mt_f5_19, trivial, trivial, trivial, rfl, trivial⟩
set_option maxRecDepth 100000 in
set_option maxHeartbeats 4000000 in
theorem mt_d71 : mt_c71.all (mt_ckD mt_b71) = true := by decide +kernel
theorem mt_g71 : mt_Good xs oA dA 71 := fun y bytes ret h => by
  obtain ⟨rfl, rfl, rfl⟩ := mt_inj (show some (mt_y71, mt_b71, mt_t71) = some (y, bytes, ret) from h)
  exact ⟨mt_pn5, fun pc en h => ⟨mt_find (mt_i71 xs oA dA) (show mt_at mt_c71 pc = some en from h), mt_findD mt_d71 (show mt_at mt_c71 pc = some en from h)⟩⟩
set_option maxRecDepth 100000 in
set_option maxHeartbeats 4000000 in
theorem mt_i72 : mt_All (mm_okI mt_Ts (mt_P xs) (mt_G oA dA) mt_cl mt_X mt_Mt mt_y72 mt_t72) mt_c72 := ⟨trivial, mt_f5_38, ⟨36, by decide⟩, trivial, mt_f5_38, trivial, mt_f5_29, mt_f5_184, ⟨36, by decide⟩, trivial, mt_f5_29, mt_f5_185, trivial, mt_f5_38, trivial, trivial, trivial, rfl, trivial⟩
set_option maxRecDepth 100000 in
set_option maxHeartbeats 4000000 in
theorem mt_d72 : mt_c72.all (mt_ckD mt_b72) = true := by decide +kernel
theorem mt_g72 : mt_Good xs oA dA 72 := fun y bytes ret h => by
  obtain ⟨rfl, rfl, rfl⟩ := mt_inj (show some (mt_y72, mt_b72, mt_t72) = some (y, bytes, ret) from h)
  exact ⟨mt_pn5, fun pc en h => ⟨mt_find (mt_i72 xs oA dA) (show mt_at mt_c72 pc = some en from h), mt_findD mt_d72 (show mt_at mt_c72 pc = some en from h)⟩⟩
set_option maxRecDepth 100000 in
set_option maxHeartbeats 4000000 in
theorem mt_i73 : mt_All (mm_okI mt_Ts (mt_P xs) (mt_G oA dA) mt_cl mt_X mt_Mt mt_y73 mt_t73) mt_c73 := ⟨trivial, trivial, mt_f5_38, trivial, trivial, ⟨mt_f5_38, mt_p5_38 _⟩, trivial, trivial, ⟨39, by decide⟩, trivial, Or.inr ⟨by decide, by decide, mt_m5_83 xs⟩, trivial, trivial, trivial, ⟨29, by decide⟩, trivial, rfl, trivial, trivial, Or.inr ⟨by decide, by decide, mt_m5_136 xs⟩, trivial, trivial, Or.inr ⟨by decide, by decide, mt_m5_136 xs⟩, trivial, trivial, Or.inr ⟨by decide, by decide, mt_m5_136 xs⟩, trivial, trivial, ⟨58, by decide⟩, trivial, trivial, ⟨79, by decide⟩, trivial, Or.inr ⟨by decide, by decide, mt_m5_83 xs⟩, trivial, trivial, trivial, Or.inr ⟨by decide, by decide, mt_m5_136 xs⟩, trivial, trivial, ⟨77, by decide⟩, trivial, trivial, trivial, rfl, trivial, rfl, trivial⟩
set_option maxRecDepth 100000 in
set_option maxHeartbeats 4000000 in
theorem mt_d73 : mt_c73.all (mt_ckD mt_b73) = true := by decide +kernel
theorem mt_g73 : mt_Good xs oA dA 73 := fun y bytes ret h => by
  obtain ⟨rfl, rfl, rfl⟩ := mt_inj (show some (mt_y73, mt_b73, mt_t73) = some (y, bytes, ret) from h)
  exact ⟨mt_pn5, fun pc en h => ⟨mt_find (mt_i73 xs oA dA) (show mt_at mt_c73 pc = some en from h), mt_findD mt_d73 (show mt_at mt_c73 pc = some en from h)⟩⟩
set_option maxRecDepth 100000 in
set_option maxHeartbeats 4000000 in
theorem mt_i74 : mt_All (mm_okI mt_Ts (mt_P xs) (mt_G oA dA) mt_cl mt_X mt_Mt mt_y74 mt_t74) mt_c74 := ⟨trivial, trivial, trivial, ⟨14, by decide⟩, trivial, ⟨_, rfl, Or.inr ⟨_, rfl⟩⟩, trivial, mt_na0 oA dA, trivial, trivial, trivial, trivial, trivial, trivial, trivial, trivial, Or.inr (Or.inr (Or.inl ⟨rfl, mt_in4 (i := 13) rfl, mt_in3 (i := 86) rfl, mt_in1 (i := 18) rfl, mt_in3 (i := 87) rfl⟩)), Or.inl ⟨rfl, mt_in4 (i := 14) rfl, mt_in4 (i := 16) rfl, mt_in4 (i := 15) rfl, mt_in1 (i := 23) rfl⟩, trivial, ⟨_, rfl, Or.inr ⟨_, rfl⟩⟩, trivial⟩
set_option maxRecDepth 100000 in
set_option maxHeartbeats 4000000 in
theorem mt_d74 : mt_c74.all (mt_ckD mt_b74) = true := by decide +kernel
theorem mt_g74 : mt_Good xs oA dA 74 := fun y bytes ret h => by
  obtain ⟨rfl, rfl, rfl⟩ := mt_inj (show some (mt_y74, mt_b74, mt_t74) = some (y, bytes, ret) from h)
  exact ⟨mt_pn17, fun pc en h => ⟨mt_find (mt_i74 xs oA dA) (show mt_at mt_c74 pc = some en from h), mt_findD mt_d74 (show mt_at mt_c74 pc = some en from h)⟩⟩
set_option maxRecDepth 100000 in
set_option maxHeartbeats 4000000 in
theorem mt_i75 : mt_All (mm_okI mt_Ts (mt_P xs) (mt_G oA dA) mt_cl mt_X mt_Mt mt_y75 mt_t75) mt_c75 := ⟨trivial, mt_f18_89, trivial, trivial, trivial, Or.inr ⟨by decide, by decide, mt_m18_94 xs⟩, rfl, trivial, trivial, Or.inr ⟨by decide, by decide, mt_m18_98 xs⟩, rfl, trivial, trivial, Or.inr ⟨by decide, by decide, mt_m18_101 xs⟩, rfl, trivial, trivial, mt_f18_104, Or.inr ⟨by decide, by decide, mt_m18_105 xs⟩, rfl, trivial, trivial, Or.inr ⟨by decide, by decide, mt_m18_109 xs⟩, rfl, trivial, rfl, trivial⟩
set_option maxRecDepth 100000 in
set_option maxHeartbeats 4000000 in
theorem mt_d75 : mt_c75.all (mt_ckD mt_b75) = true := by decide +kernel
theorem mt_g75 : mt_Good xs oA dA 75 := fun y bytes ret h => by
  obtain ⟨rfl, rfl, rfl⟩ := mt_inj (show some (mt_y75, mt_b75, mt_t75) = some (y, bytes, ret) from h)
  exact ⟨mt_pn18, fun pc en h => ⟨mt_find (mt_i75 xs oA dA) (show mt_at mt_c75 pc = some en from h), mt_findD mt_d75 (show mt_at mt_c75 pc = some en from h)⟩⟩
end MTI25
