/-! each entry of each method -/
section MTI26
variable (xs : List Int32) (oA : Nat → Nat) (dA : Nat → ClassId)
set_option maxRecDepth 100000 in
set_option maxHeartbeats 4000000 in
theorem mt_i76 : mt_All (mm_okI mt_Ts (mt_P xs) (mt_G oA dA) mt_cl mt_X mt_Mt mt_y76 mt_t76) mt_c76 := ⟨trivial, trivial, mt_f18_104, Or.inr ⟨by decide, by decide, mt_m18_85 xs⟩, ⟨13, by decide⟩, trivial, rfl, trivial, mt_f18_62, trivial, ⟨25, by decide⟩, trivial, rfl, trivial, mt_f18_9, trivial, mt_f18_62, trivial, mt_f18_104, trivial, trivial, mt_f18_15, trivial, mt_f18_62, trivial, mt_f18_112, trivial, trivial, mt_f18_18, trivial, mt_f18_62, trivial, trivial, trivial, trivial, mt_f18_62, trivial, trivial, ⟨mt_f18_62, mt_p18_62 _⟩, trivial, rfl, trivial⟩
set_option maxRecDepth 100000 in
set_option maxHeartbeats 4000000 in
theorem mt_d76 : mt_c76.all (mt_ckD mt_b76) = true := by decide +kernel
theorem mt_g76 : mt_Good xs oA dA 76 := fun y bytes ret h => by
  obtain ⟨rfl, rfl, rfl⟩ := mt_inj (show some (mt_y76, mt_b76, mt_t76) = some (y, bytes, ret) from h)
  exact ⟨mt_pn18, fun pc en h => ⟨mt_find (mt_i76 xs oA dA) (show mt_at mt_c76 pc = some en from h), mt_findD mt_d76 (show mt_at mt_c76 pc = some en from h)⟩⟩
set_option maxRecDepth 100000 in
set_option maxHeartbeats 4000000 in
theorem mt_i77 : mt_All (mm_okI mt_Ts (mt_P xs) (mt_G oA dA) mt_cl mt_X mt_Mt mt_y77 mt_t77) mt_c77 := ⟨trivial, trivial, mt_f18_104, Or.inr ⟨by decide, by decide, mt_m18_85 xs⟩, ⟨13, by decide⟩, trivial, rfl, trivial, mt_f18_71, trivial, ⟨24, by decide⟩, trivial, rfl, trivial, mt_f18_21, trivial, mt_f18_71, trivial, mt_f18_104, trivial, trivial, mt_f18_24, trivial, mt_f18_71, trivial, mt_f18_112, trivial, trivial, trivial, mt_f18_71, trivial, trivial, ⟨mt_f18_71, mt_p18_71 _⟩, trivial, rfl, trivial⟩
set_option maxRecDepth 100000 in
set_option maxHeartbeats 4000000 in
theorem mt_d77 : mt_c77.all (mt_ckD mt_b77) = true := by decide +kernel
theorem mt_g77 : mt_Good xs oA dA 77 := fun y bytes ret h => by
  obtain ⟨rfl, rfl, rfl⟩ := mt_inj (show some (mt_y77, mt_b77, mt_t77) = some (y, bytes, ret) from h)
  exact ⟨mt_pn18, fun pc en h => ⟨mt_find (mt_i77 xs oA dA) (show mt_at mt_c77 pc = some en from h), mt_findD mt_d77 (show mt_at mt_c77 pc = some en from h)⟩⟩
set_option maxRecDepth 100000 in
set_option maxHeartbeats 4000000 in
theorem mt_i78 : mt_All (mm_okI mt_Ts (mt_P xs) (mt_G oA dA) mt_cl mt_X mt_Mt mt_y78 mt_t78) mt_c78 := ⟨trivial, mt_f18_27, trivial, mt_f18_74, trivial, mt_f18_104, Or.inr (Or.inr (Or.inr ⟨rfl, mt_m18_77 xs⟩)), trivial, trivial, trivial, ⟨48, by decide⟩, trivial, mt_f18_74, trivial, ⟨33, by decide⟩, trivial, rfl, trivial, mt_f18_74, trivial, trivial, trivial, mt_f18_74, trivial, trivial, ⟨mt_f18_74, mt_p18_74 _⟩, trivial, mt_f18_27, trivial, trivial, mt_f18_104, trivial, trivial, mt_f18_31, trivial, trivial, mt_f18_115, trivial, trivial, rfl, trivial⟩
set_option maxRecDepth 100000 in
set_option maxHeartbeats 4000000 in
theorem mt_d78 : mt_c78.all (mt_ckD mt_b78) = true := by decide +kernel
theorem mt_g78 : mt_Good xs oA dA 78 := fun y bytes ret h => by
  obtain ⟨rfl, rfl, rfl⟩ := mt_inj (show some (mt_y78, mt_b78, mt_t78) = some (y, bytes, ret) from h)
  exact ⟨mt_pn18, fun pc en h => ⟨mt_find (mt_i78 xs oA dA) (show mt_at mt_c78 pc = some en from h), mt_findD mt_d78 (show mt_at mt_c78 pc = some en from h)⟩⟩
set_option maxRecDepth 100000 in
set_option maxHeartbeats 4000000 in
theorem mt_i79 : mt_All (mm_okI mt_Ts (mt_P xs) (mt_G oA dA) mt_cl mt_X mt_Mt mt_y79 mt_t79) mt_c79 := ⟨trivial, trivial, Or.inr ⟨by decide, by decide, mt_m18_118 xs⟩, trivial, trivial, trivial, Or.inr ⟨by decide, by decide, mt_m18_121 xs⟩, trivial, trivial, mt_f18_27, trivial, mt_f18_74, trivial, Or.inr (Or.inr (Or.inr ⟨rfl, mt_m18_77 xs⟩)), trivial, trivial, trivial, ⟨80, by decide⟩, trivial, mt_f18_9, trivial, mt_f18_62, trivial, Or.inr (Or.inr (Or.inr ⟨rfl, mt_m18_124 xs⟩)), trivial, mt_f18_15, trivial, mt_f18_62, trivial, Or.inr (Or.inr (Or.inr ⟨rfl, mt_m18_124 xs⟩)), trivial, mt_f18_18, trivial, mt_f18_62, trivial, Or.inr (Or.inr (Or.inr ⟨rfl, mt_m18_124 xs⟩)), trivial, trivial, mt_f18_62, trivial, trivial, ⟨mt_f18_62, mt_p18_62 _⟩, trivial, trivial, trivial, ⟨122, by decide⟩, trivial, mt_f18_21, trivial, mt_f18_71, trivial, Or.inr (Or.inr (Or.inr ⟨rfl, mt_m18_124 xs⟩)), trivial, mt_f18_24, trivial, mt_f18_71, trivial, Or.inr (Or.inr (Or.inr ⟨rfl, mt_m18_124 xs⟩)), trivial, trivial, mt_f18_71, trivial, trivial, ⟨mt_f18_71, mt_p18_71 _⟩, trivial, trivial, trivial, ⟨180, by decide⟩, trivial, mt_f18_27, trivial, mt_f18_74, trivial, Or.inr (Or.inr (Or.inr ⟨rfl, mt_m18_124 xs⟩)), trivial, mt_f18_31, trivial, trivial, trivial, trivial, mt_f18_31, trivial, trivial, mt_f18_74, trivial, trivial, trivial, trivial, Or.inl ⟨rfl, mt_in4 (i := 227) rfl, mt_in4 (i := 16) rfl, mt_in4 (i := 15) rfl, mt_in1 (i := 23) rfl⟩, trivial, trivial, mt_f18_74, trivial, trivial, ⟨mt_f18_74, mt_p18_74 _⟩, trivial, trivial, rfl, trivial, rfl, trivial⟩
set_option maxRecDepth 100000 in
set_option maxHeartbeats 4000000 in
theorem mt_d79 : mt_c79.all (mt_ckD mt_b79) = true := by decide +kernel
theorem mt_g79 : mt_Good xs oA dA 79 := fun y bytes ret h => by
  obtain ⟨rfl, rfl, rfl⟩ := mt_inj (show some (mt_y79, mt_b79, mt_t79) = some (y, bytes, ret) from h)
  exact ⟨mt_pn18, fun pc en h => ⟨mt_find (mt_i79 xs oA dA) (show mt_at mt_c79 pc = some en from h), mt_findD mt_d79 (show mt_at mt_c79 pc = some en from h)⟩⟩
set_option maxRecDepth 100000 in
set_option maxHeartbeats 4000000 in
theorem mt_i80 : mt_All (mm_okI mt_Ts (mt_P xs) (mt_G oA dA) mt_cl mt_X mt_Mt mt_y80 mt_t80) mt_c80 := ⟨trivial, mt_f18_9, trivial, mt_f18_62, trivial, Or.inr (Or.inr (Or.inr ⟨rfl, mt_m18_77 xs⟩)), rfl, trivial⟩
set_option maxRecDepth 100000 in
set_option maxHeartbeats 4000000 in
theorem mt_d80 : mt_c80.all (mt_ckD mt_b80) = true := by decide +kernel
theorem mt_g80 : mt_Good xs oA dA 80 := fun y bytes ret h => by
  obtain ⟨rfl, rfl, rfl⟩ := mt_inj (show some (mt_y80, mt_b80, mt_t80) = some (y, bytes, ret) from h)
  exact ⟨mt_pn18, fun pc en h => ⟨mt_find (mt_i80 xs oA dA) (show mt_at mt_c80 pc = some en from h), mt_findD mt_d80 (show mt_at mt_c80 pc = some en from h)⟩⟩
set_option maxRecDepth 100000 in
set_option maxHeartbeats 4000000 in
theorem mt_i81 : mt_All (mm_okI mt_Ts (mt_P xs) (mt_G oA dA) mt_cl mt_X mt_Mt mt_y81 mt_t81) mt_c81 := ⟨trivial, mt_f18_21, trivial, mt_f18_71, trivial, Or.inr (Or.inr (Or.inr ⟨rfl, mt_m18_77 xs⟩)), rfl, trivial⟩
set_option maxRecDepth 100000 in
set_option maxHeartbeats 4000000 in
theorem mt_d81 : mt_c81.all (mt_ckD mt_b81) = true := by decide +kernel
theorem mt_g81 : mt_Good xs oA dA 81 := fun y bytes ret h => by
  obtain ⟨rfl, rfl, rfl⟩ := mt_inj (show some (mt_y81, mt_b81, mt_t81) = some (y, bytes, ret) from h)
  exact ⟨mt_pn18, fun pc en h => ⟨mt_find (mt_i81 xs oA dA) (show mt_at mt_c81 pc = some en from h), mt_findD mt_d81 (show mt_at mt_c81 pc = some en from h)⟩⟩
set_option maxRecDepth 100000 in
set_option maxHeartbeats 4000000 in
theorem mt_i82 : mt_All (mm_okI mt_Ts (mt_P xs) (mt_G oA dA) mt_cl mt_X mt_Mt mt_y82 mt_t82) mt_c82 := ⟨trivial, trivial, trivial, trivial, trivial, trivial, trivial, trivial, trivial, trivial, trivial, Or.inl ⟨rfl, mt_in4 (i := 226) rfl, mt_in4 (i := 16) rfl, mt_in4 (i := 15) rfl, mt_in1 (i := 23) rfl⟩, rfl, trivial⟩
set_option maxRecDepth 100000 in
set_option maxHeartbeats 4000000 in
theorem mt_d82 : mt_c82.all (mt_ckD mt_b82) = true := by decide +kernel
theorem mt_g82 : mt_Good xs oA dA 82 := fun y bytes ret h => by
  obtain ⟨rfl, rfl, rfl⟩ := mt_inj (show some (mt_y82, mt_b82, mt_t82) = some (y, bytes, ret) from h)
  exact ⟨mt_pn0, fun pc en h => ⟨mt_find (mt_i82 xs oA dA) (show mt_at mt_c82 pc = some en from h), mt_findD mt_d82 (show mt_at mt_c82 pc = some en from h)⟩⟩
set_option maxRecDepth 100000 in
set_option maxHeartbeats 4000000 in
theorem mt_i83 : mt_All (mm_okI mt_Ts (mt_P xs) (mt_G oA dA) mt_cl mt_X mt_Mt mt_y83 mt_t83) mt_c83 := ⟨trivial, trivial, mt_f18_104, Or.inr ⟨by decide, by decide, mt_m18_118 xs⟩, trivial, trivial, trivial, ⟨16, by decide⟩, trivial, rfl, trivial, trivial, mt_f18_112, Or.inr ⟨by decide, by decide, mt_m18_85 xs⟩, ⟨29, by decide⟩, trivial, rfl, trivial, mt_f18_9, trivial, trivial, mt_f18_112, trivial, trivial, rfl, trivial⟩
set_option maxRecDepth 100000 in
set_option maxHeartbeats 4000000 in
theorem mt_d83 : mt_c83.all (mt_ckD mt_b83) = true := by decide +kernel
theorem mt_g83 : mt_Good xs oA dA 83 := fun y bytes ret h => by
  obtain ⟨rfl, rfl, rfl⟩ := mt_inj (show some (mt_y83, mt_b83, mt_t83) = some (y, bytes, ret) from h)
  exact ⟨mt_pn18, fun pc en h => ⟨mt_find (mt_i83 xs oA dA) (show mt_at mt_c83 pc = some en from h), mt_findD mt_d83 (show mt_at mt_c83 pc = some en from h)⟩⟩
set_option maxRecDepth 100000 in
set_option maxHeartbeats 4000000 in
theorem mt_i84 : mt_All (mm_okI mt_Ts (mt_P xs) (mt_G oA dA) mt_cl mt_X mt_Mt mt_y84 mt_t84) mt_c84 := ⟨trivial, trivial, mt_f5_38, trivial, trivial, ⟨mt_f5_38, mt_p5_38 _⟩, trivial, Or.inr ⟨by decide, by decide, mt_m5_83 xs⟩, trivial, trivial, trivial, ⟨29, by decide⟩, trivial, trivial, Or.inr ⟨by decide, by decide, mt_m5_108 xs⟩, ⟨31, by decide⟩, trivial, rfl, trivial, mt_f5_25, mt_n5_95 xs, trivial, trivial, trivial, mt_f5_65, trivial, trivial, trivial, trivial, Or.inr ⟨rfl, mt_m5_97 xs⟩, Or.inr ⟨by decide, by decide, mt_m5_100 xs⟩, trivial, trivial, trivial, trivial, trivial, ⟨142, by decide⟩, trivial, Or.inr ⟨by decide, by decide, mt_m5_41 xs⟩, trivial, ⟨142, by decide⟩, trivial, Or.inr ⟨by decide, by decide, mt_m5_41 xs⟩, trivial, trivial, trivial, ⟨101, by decide⟩, trivial, trivial, ⟨101, by decide⟩, trivial, trivial, ⟨105, by decide⟩, trivial, trivial, trivial, trivial, trivial, ⟨125, by decide⟩, trivial, trivial, trivial, Or.inr ⟨by decide, by decide, mt_m5_149 xs⟩, ⟨134, by decide⟩, trivial, trivial, trivial, trivial, Or.inr ⟨by decide, by decide, mt_m5_111 xs⟩, ⟨136, by decide⟩, trivial, rfl, trivial, trivial, trivial, trivial, Or.inr ⟨by decide, by decide, mt_m5_108 xs⟩, rfl, trivial⟩
set_option maxRecDepth 100000 in
set_option maxHeartbeats 4000000 in
theorem mt_d84 : mt_c84.all (mt_ckD mt_b84) = true := by decide +kernel
theorem mt_g84 : mt_Good xs oA dA 84 := fun y bytes ret h => by
  obtain ⟨rfl, rfl, rfl⟩ := mt_inj (show some (mt_y84, mt_b84, mt_t84) = some (y, bytes, ret) from h)
  exact ⟨mt_pn5, fun pc en h => ⟨mt_find (mt_i84 xs oA dA) (show mt_at mt_c84 pc = some en from h), mt_findD mt_d84 (show mt_at mt_c84 pc = some en from h)⟩⟩
set_option maxRecDepth 100000 in
set_option maxHeartbeats 4000000 in
theorem mt_i85 : mt_All (mm_okI mt_Ts (mt_P xs) (mt_G oA dA) mt_cl mt_X mt_Mt mt_y85 mt_t85) mt_c85 := ⟨trivial, trivial, mt_f5_38, trivial, trivial, ⟨mt_f5_38, mt_p5_38 _⟩, trivial, Or.inr ⟨by decide, by decide, mt_m5_83 xs⟩, trivial, trivial, trivial, ⟨22, by decide⟩, trivial, rfl, trivial, trivial, trivial, trivial, trivial, trivial, ⟨49, by decide⟩, trivial, Or.inr ⟨by decide, by decide, mt_m5_83 xs⟩, trivial, trivial, trivial, ⟨49, by decide⟩, trivial, rfl, trivial, trivial, ⟨69, by decide⟩, trivial, Or.inr ⟨by decide, by decide, mt_m5_152 xs⟩, trivial, trivial, trivial, trivial, rfl, trivial, mt_f5_25, mt_n5_95 xs, trivial, trivial, trivial, ⟨90, by decide⟩, trivial, trivial, trivial, trivial, mt_f5_65, trivial, trivial, trivial, trivial, Or.inr ⟨rfl, mt_m5_97 xs⟩, Or.inr ⟨by decide, by decide, mt_m5_100 xs⟩, trivial, trivial, trivial, Or.inr ⟨by decide, by decide, mt_m5_108 xs⟩, rfl, trivial⟩
set_option maxRecDepth 100000 in
set_option maxHeartbeats 4000000 in
theorem mt_d85 : mt_c85.all (mt_ckD mt_b85) = true := by decide +kernel
theorem mt_g85 : mt_Good xs oA dA 85 := fun y bytes ret h => by
  obtain ⟨rfl, rfl, rfl⟩ := mt_inj (show some (mt_y85, mt_b85, mt_t85) = some (y, bytes, ret) from h)
  exact ⟨mt_pn5, fun pc en h => ⟨mt_find (mt_i85 xs oA dA) (show mt_at mt_c85 pc = some en from h), mt_findD mt_d85 (show mt_at mt_c85 pc = some en from h)⟩⟩
set_option maxRecDepth 100000 in
set_option maxHeartbeats 4000000 in
theorem mt_i86 : mt_All (mm_okI mt_Ts (mt_P xs) (mt_G oA dA) mt_cl mt_X mt_Mt mt_y86 mt_t86) mt_c86 := ⟨trivial, trivial, ⟨mt_f5_127, mt_p5_127 _⟩, trivial, trivial, trivial, Or.inr ⟨by decide, by decide, mt_m5_156 xs⟩, ⟨16, by decide⟩, trivial, ⟨_, rfl, Or.inr ⟨_, rfl⟩⟩, trivial, trivial, Or.inr ⟨by decide, by decide, mt_m5_136 xs⟩, trivial, mt_f5_19, trivial, mt_f5_127, Or.inr (Or.inr (Or.inr ⟨rfl, mt_m5_140 xs⟩)), ⟨_, rfl, Or.inr ⟨_, rfl⟩⟩, trivial⟩
set_option maxRecDepth 100000 in
set_option maxHeartbeats 4000000 in
theorem mt_d86 : mt_c86.all (mt_ckD mt_b86) = true := by decide +kernel
theorem mt_g86 : mt_Good xs oA dA 86 := fun y bytes ret h => by
  obtain ⟨rfl, rfl, rfl⟩ := mt_inj (show some (mt_y86, mt_b86, mt_t86) = some (y, bytes, ret) from h)
  exact ⟨mt_pn5, fun pc en h => ⟨mt_find (mt_i86 xs oA dA) (show mt_at mt_c86 pc = some en from h), mt_findD mt_d86 (show mt_at mt_c86 pc = some en from h)⟩⟩
set_option maxRecDepth 100000 in
set_option maxHeartbeats 4000000 in
theorem mt_i87 : mt_All (mm_okI mt_Ts (mt_P xs) (mt_G oA dA) mt_cl mt_X mt_Mt mt_y87 mt_t87) mt_c87 := ⟨trivial, trivial, mt_f5_38, trivial, trivial, ⟨mt_f5_38, mt_p5_38 _⟩, trivial, Or.inr ⟨by decide, by decide, mt_m5_83 xs⟩, trivial, trivial, trivial, ⟨22, by decide⟩, trivial, rfl, trivial, trivial, trivial, trivial, trivial, trivial, ⟨66, by decide⟩, trivial, Or.inr ⟨by decide, by decide, mt_m5_41 xs⟩, trivial, ⟨66, by decide⟩, trivial, trivial, mt_f5_38, trivial, trivial, ⟨mt_f5_38, mt_p5_38 _⟩, trivial, Or.inr ⟨by decide, by decide, mt_m5_83 xs⟩, trivial, trivial, trivial, ⟨66, by decide⟩, trivial, rfl, trivial, trivial, ⟨86, by decide⟩, trivial, Or.inr ⟨by decide, by decide, mt_m5_152 xs⟩, trivial, trivial, trivial, trivial, rfl, trivial, mt_f5_25, mt_n5_95 xs, trivial, trivial, trivial, mt_f5_65, trivial, trivial, trivial, trivial, Or.inr ⟨rfl, mt_m5_97 xs⟩, Or.inr ⟨by decide, by decide, mt_m5_100 xs⟩, trivial, trivial, trivial, Or.inr ⟨by decide, by decide, mt_m5_108 xs⟩, rfl, trivial⟩
set_option maxRecDepth 100000 in
set_option maxHeartbeats 4000000 in
theorem mt_d87 : mt_c87.all (mt_ckD mt_b87) = true := by decide +kernel
theorem mt_g87 : mt_Good xs oA dA 87 := fun y bytes ret h => by
  obtain ⟨rfl, rfl, rfl⟩ := mt_inj (show some (mt_y87, mt_b87, mt_t87) = some (y, bytes, ret) from h)
  exact ⟨mt_pn5, fun pc en h => ⟨mt_find (mt_i87 xs oA dA) (show mt_at mt_c87 pc = some en from h), mt_findD mt_d87 (show mt_at mt_c87 pc = some en from h)⟩⟩
set_option maxRecDepth 100000 in
set_option maxHeartbeats 4000000 in
theorem mt_i88 : mt_All (mm_okI mt_Ts (mt_P xs) (mt_G oA dA) mt_cl mt_X mt_Mt mt_y88 mt_t88) mt_c88 := ⟨trivial, trivial, trivial, trivial, mt_f13_17, ⟨66, by decide⟩, trivial, mt_f13_11, trivial, trivial, trivial, trivial, trivial, trivial, mt_f13_49, ⟨41, by decide⟩, trivial, mt_f13_11, trivial, trivial, trivial, ⟨mt_f13_96, mt_p13_96 _⟩, trivial, mt_f13_29, trivial, trivial, trivial, mt_f13_11, trivial, trivial, Or.inr ⟨by decide, by decide, mt_m13_99 xs⟩, trivial, trivial, trivial, trivial, trivial, trivial, Or.inr ⟨by decide, by decide, mt_m13_102 xs⟩, rfl, trivial⟩
set_option maxRecDepth 100000 in
set_option maxHeartbeats 4000000 in
theorem mt_d88 : mt_c88.all (mt_ckD mt_b88) = true := by decide +kernel
theorem mt_g88 : mt_Good xs oA dA 88 := fun y bytes ret h => by
  obtain ⟨rfl, rfl, rfl⟩ := mt_inj (show some (mt_y88, mt_b88, mt_t88) = some (y, bytes, ret) from h)
  exact ⟨mt_pn13, fun pc en h => ⟨mt_find (mt_i88 xs oA dA) (show mt_at mt_c88 pc = some en from h), mt_findD mt_d88 (show mt_at mt_c88 pc = some en from h)⟩⟩
set_option maxRecDepth 100000 in
set_option maxHeartbeats 4000000 in
theorem mt_i89 : mt_All (mm_okI mt_Ts (mt_P xs) (mt_G oA dA) mt_cl mt_X mt_Mt mt_y89 mt_t89) mt_c89 := ⟨trivial, trivial, trivial, trivial, trivial, trivial, trivial, trivial, mt_f18_62, ⟨34, by decide⟩, trivial, mt_f18_35, trivial, mt_f18_9, trivial, trivial, trivial, trivial, trivial, trivial, trivial, trivial, trivial, trivial, mt_f18_71, ⟨74, by decide⟩, trivial, mt_f18_39, trivial, mt_f18_21, trivial, trivial, trivial, trivial, trivial, mt_f18_43, trivial, mt_f18_21, trivial, trivial, trivial, trivial, trivial, trivial, trivial, trivial, trivial, trivial, mt_f18_74, ⟨128, by decide⟩, trivial, mt_f18_46, trivial, mt_f18_27, trivial, trivial, trivial, trivial, trivial, mt_f18_46, trivial, mt_f18_27, trivial, trivial, trivial, trivial, trivial, mt_f18_49, trivial, mt_f18_27, trivial, trivial, trivial, trivial, trivial, trivial, trivial, mt_f18_81, trivial, trivial, rfl, trivial⟩
set_option maxRecDepth 100000 in
set_option maxHeartbeats 4000000 in
theorem mt_d89 : mt_c89.all (mt_ckD mt_b89) = true := by decide +kernel
theorem mt_g89 : mt_Good xs oA dA 89 := fun y bytes ret h => by
  obtain ⟨rfl, rfl, rfl⟩ := mt_inj (show some (mt_y89, mt_b89, mt_t89) = some (y, bytes, ret) from h)
  exact ⟨mt_pn18, fun pc en h => ⟨mt_find (mt_i89 xs oA dA) (show mt_at mt_c89 pc = some en from h), mt_findD mt_d89 (show mt_at mt_c89 pc = some en from h)⟩⟩
set_option maxRecDepth 100000 in
set_option maxHeartbeats 4000000 in
theorem mt_i90 : mt_All (mm_okI mt_Ts (mt_P xs) (mt_G oA dA) mt_cl mt_X mt_Mt mt_y90 mt_t90) mt_c90 := ⟨trivial, trivial, trivial, trivial, mt_f13_17, ⟨91, by decide⟩, trivial, mt_f13_11, trivial, trivial, trivial, trivial, trivial, mt_f13_21, Or.inr ⟨by decide, by decide, mt_m13_33 xs⟩, trivial, trivial, trivial, trivial, trivial, trivial, trivial, mt_f13_90, ⟨85, by decide⟩, trivial, trivial, mt_f13_93, trivial, trivial, Or.inr ⟨by decide, by decide, mt_m13_106 xs⟩, trivial, trivial, trivial, ⟨79, by decide⟩, trivial, mt_f13_110, trivial, trivial, mt_f13_110, trivial, trivial, trivial, trivial, trivial, trivial, trivial, rfl, trivial⟩
set_option maxRecDepth 100000 in
set_option maxHeartbeats 4000000 in
theorem mt_d90 : mt_c90.all (mt_ckD mt_b90) = true := by decide +kernel
theorem mt_g90 : mt_Good xs oA dA 90 := fun y bytes ret h => by
  obtain ⟨rfl, rfl, rfl⟩ := mt_inj (show some (mt_y90, mt_b90, mt_t90) = some (y, bytes, ret) from h)
  exact ⟨mt_pn13, fun pc en h => ⟨mt_find (mt_i90 xs oA dA) (show mt_at mt_c90 pc = some en from h), mt_findD mt_d90 (show mt_at mt_c90 pc = some en from h)⟩⟩
set_option maxRecDepth 100000 in
set_option maxHeartbeats 4000000 in
theorem mt_i91 : mt_All (mm_okI mt_Ts (mt_P xs) (mt_G oA dA) mt_cl mt_X mt_Mt mt_y91 mt_t91) mt_c91 := ⟨trivial, trivial, ⟨mt_f11_50, mt_p11_50 _⟩, trivial, trivial, ⟨mt_f11_53, mt_p11_53 _⟩, trivial, trivial, ⟨mt_f11_57, mt_p11_57 _⟩, trivial, trivial, ⟨mt_f11_60, mt_p11_60 _⟩, trivial, trivial, ⟨mt_f11_64, mt_p11_64 _⟩, rfl, trivial⟩
set_option maxRecDepth 100000 in
set_option maxHeartbeats 4000000 in
theorem mt_d91 : mt_c91.all (mt_ckD mt_b91) = true := by decide +kernel
theorem mt_g91 : mt_Good xs oA dA 91 := fun y bytes ret h => by
  obtain ⟨rfl, rfl, rfl⟩ := mt_inj (show some (mt_y91, mt_b91, mt_t91) = some (y, bytes, ret) from h)
  exact ⟨mt_pn11, fun pc en h => ⟨mt_find (mt_i91 xs oA dA) (show mt_at mt_c91 pc = some en from h), mt_findD mt_d91 (show mt_at mt_c91 pc = some en from h)⟩⟩
set_option maxRecDepth 100000 in
set_option maxHeartbeats 4000000 in
theorem mt_i92 : mt_All (mm_okI mt_Ts (mt_P xs) (mt_G oA dA) mt_cl mt_X mt_Mt mt_y92 mt_t92) mt_c92 := ⟨trivial, mt_f0_55, Or.inr ⟨by decide, by decide, mt_m0_111 xs⟩, ⟨19, by decide⟩, trivial, mt_f0_21, Or.inr ⟨by decide, by decide, mt_m0_115 xs⟩, trivial, rfl, trivial, mt_f0_21, trivial, Or.inr ⟨by decide, by decide, mt_m0_84 xs⟩, ⟨32, by decide⟩, trivial, rfl, trivial, mt_f0_55, trivial, mt_f0_21, mt_f0_118, Or.inr ⟨by decide, by decide, mt_m0_122 xs⟩, rfl, trivial⟩
set_option maxRecDepth 100000 in
set_option maxHeartbeats 4000000 in
theorem mt_d92 : mt_c92.all (mt_ckD mt_b92) = true := by decide +kernel
theorem mt_g92 : mt_Good xs oA dA 92 := fun y bytes ret h => by
  obtain ⟨rfl, rfl, rfl⟩ := mt_inj (show some (mt_y92, mt_b92, mt_t92) = some (y, bytes, ret) from h)
  exact ⟨mt_pn0, fun pc en h => ⟨mt_find (mt_i92 xs oA dA) (show mt_at mt_c92 pc = some en from h), mt_findD mt_d92 (show mt_at mt_c92 pc = some en from h)⟩⟩
set_option maxRecDepth 100000 in
set_option maxHeartbeats 4000000 in
theorem mt_i93 : mt_All (mm_okI mt_Ts (mt_P xs) (mt_G oA dA) mt_cl mt_X mt_Mt mt_y93 mt_t93) mt_c93 := ⟨trivial, mt_f11_50, trivial, ⟨13, by decide⟩, trivial, trivial, trivial, rfl, trivial⟩
set_option maxRecDepth 100000 in
set_option maxHeartbeats 4000000 in
theorem mt_d93 : mt_c93.all (mt_ckD mt_b93) = true := by decide +kernel
theorem mt_g93 : mt_Good xs oA dA 93 := fun y bytes ret h => by
  obtain ⟨rfl, rfl, rfl⟩ := mt_inj (show some (mt_y93, mt_b93, mt_t93) = some (y, bytes, ret) from h)
  exact ⟨mt_pn11, fun pc en h => ⟨mt_find (mt_i93 xs oA dA) (show mt_at mt_c93 pc = some en from h), mt_findD mt_d93 (show mt_at mt_c93 pc = some en from h)⟩⟩
set_option maxRecDepth 100000 in
set_option maxHeartbeats 4000000 in
theorem mt_i94 : mt_All (mm_okI mt_Ts (mt_P xs) (mt_G oA dA) mt_cl mt_X mt_Mt mt_y94 mt_t94) mt_c94 := ⟨trivial, mt_f5_29, trivial, ⟨mt_f5_52, mt_p5_52 _⟩, trivial, Or.inr ⟨by decide, by decide, mt_m5_55 xs⟩, rfl, trivial⟩
set_option maxRecDepth 100000 in
set_option maxHeartbeats 4000000 in
theorem mt_d94 : mt_c94.all (mt_ckD mt_b94) = true := by decide +kernel
theorem mt_g94 : mt_Good xs oA dA 94 := fun y bytes ret h => by
  obtain ⟨rfl, rfl, rfl⟩ := mt_inj (show some (mt_y94, mt_b94, mt_t94) = some (y, bytes, ret) from h)
  exact ⟨mt_pn5, fun pc en h => ⟨mt_find (mt_i94 xs oA dA) (show mt_at mt_c94 pc = some en from h), mt_findD mt_d94 (show mt_at mt_c94 pc = some en from h)⟩⟩
set_option maxRecDepth 100000 in
set_option maxHeartbeats 4000000 in
theorem mt_i95 : mt_All (mm_okI mt_Ts (mt_P xs) (mt_G oA dA) mt_cl mt_X mt_Mt mt_y95 mt_t95) mt_c95 := ⟨trivial, Or.inr ⟨by decide, by decide, mt_m11_67 xs⟩, ⟨9, by decide⟩, trivial, rfl, trivial, mt_f11_19, trivial, mt_f11_50, mt_n11_17 xs, trivial, trivial, Or.inr ⟨rfl, mt_m11_71 xs⟩, trivial, trivial, trivial, mt_f11_50, trivial, trivial, ⟨mt_f11_50, mt_p11_50 _⟩, trivial, mt_f11_50, trivial, trivial, rfl, trivial⟩
set_option maxRecDepth 100000 in
set_option maxHeartbeats 4000000 in
theorem mt_d95 : mt_c95.all (mt_ckD mt_b95) = true := by decide +kernel
theorem mt_g95 : mt_Good xs oA dA 95 := fun y bytes ret h => by
  obtain ⟨rfl, rfl, rfl⟩ := mt_inj (show some (mt_y95, mt_b95, mt_t95) = some (y, bytes, ret) from h)
  exact ⟨mt_pn11, fun pc en h => ⟨mt_find (mt_i95 xs oA dA) (show mt_at mt_c95 pc = some en from h), mt_findD mt_d95 (show mt_at mt_c95 pc = some en from h)⟩⟩
set_option maxRecDepth 100000 in
set_option maxHeartbeats 4000000 in
theorem mt_i96 : mt_All (mm_okI mt_Ts (mt_P xs) (mt_G oA dA) mt_cl mt_X mt_Mt mt_y96 mt_t96) mt_c96 := ⟨trivial, Or.inl ⟨rfl, mt_in5 (i := 46) rfl, mt_in1 (i := 33) rfl, mt_in1 (i := 34) rfl⟩, trivial, trivial, ⟨mt_f19_9, mt_p19_9i⟩, trivial, trivial, ⟨mt_f19_15, mt_p19_15i⟩, rfl, trivial⟩
set_option maxRecDepth 100000 in
set_option maxHeartbeats 4000000 in
theorem mt_d96 : mt_c96.all (mt_ckD mt_b96) = true := by decide +kernel
theorem mt_g96 : mt_Good xs oA dA 96 := fun y bytes ret h => by
  obtain ⟨rfl, rfl, rfl⟩ := mt_inj (show some (mt_y96, mt_b96, mt_t96) = some (y, bytes, ret) from h)
  exact ⟨mt_pn19, fun pc en h => ⟨mt_find (mt_i96 xs oA dA) (show mt_at mt_c96 pc = some en from h), mt_findD mt_d96 (show mt_at mt_c96 pc = some en from h)⟩⟩
set_option maxRecDepth 100000 in
set_option maxHeartbeats 4000000 in
theorem mt_i97 : mt_All (mm_okI mt_Ts (mt_P xs) (mt_G oA dA) mt_cl mt_X mt_Mt mt_y97 mt_t97) mt_c97 := ⟨trivial, trivial, trivial, mt_f0_21, mt_f0_126, rfl, trivial, mt_f0_21, mt_f0_129, rfl, trivial, rfl, trivial⟩
set_option maxRecDepth 100000 in
set_option maxHeartbeats 4000000 in
theorem mt_d97 : mt_c97.all (mt_ckD mt_b97) = true := by decide +kernel
theorem mt_g97 : mt_Good xs oA dA 97 := fun y bytes ret h => by
  obtain ⟨rfl, rfl, rfl⟩ := mt_inj (show some (mt_y97, mt_b97, mt_t97) = some (y, bytes, ret) from h)
  exact ⟨mt_pn0, fun pc en h => ⟨mt_find (mt_i97 xs oA dA) (show mt_at mt_c97 pc = some en from h), mt_findD mt_d97 (show mt_at mt_c97 pc = some en from h)⟩⟩
set_option maxRecDepth 100000 in
set_option maxHeartbeats 4000000 in
theorem mt_i98 : mt_All (mm_okI mt_Ts (mt_P xs) (mt_G oA dA) mt_cl mt_X mt_Mt mt_y98 mt_t98) mt_c98 := ⟨trivial, mt_f0_62, mt_f0_108, rfl, trivial⟩
set_option maxRecDepth 100000 in
set_option maxHeartbeats 4000000 in
theorem mt_d98 : mt_c98.all (mt_ckD mt_b98) = true := by decide +kernel
theorem mt_g98 : mt_Good xs oA dA 98 := fun y bytes ret h => by
  obtain ⟨rfl, rfl, rfl⟩ := mt_inj (show some (mt_y98, mt_b98, mt_t98) = some (y, bytes, ret) from h)
  exact ⟨mt_pn0, fun pc en h => ⟨mt_find (mt_i98 xs oA dA) (show mt_at mt_c98 pc = some en from h), mt_findD mt_d98 (show mt_at mt_c98 pc = some en from h)⟩⟩
set_option maxRecDepth 100000 in
set_option maxHeartbeats 4000000 in
theorem mt_i99 : mt_All (mm_okI mt_Ts (mt_P xs) (mt_G oA dA) mt_cl mt_X mt_Mt mt_y99 mt_t99) mt_c99 := ⟨trivial, ⟨15, by decide⟩, trivial, trivial, mt_f0_62, mt_f0_108, ⟨17, by decide⟩, trivial, rfl, trivial, mt_f0_62, mt_f0_132, trivial, trivial, trivial, trivial, trivial, trivial, mt_f0_136, rfl, trivial, mt_f0_141, trivial, trivial, trivial, trivial, mt_f0_141, mt_f0_136, rfl, trivial, mt_f0_145, rfl, trivial, mt_f0_148, rfl, trivial, mt_f0_151, rfl, trivial, mt_f0_154, rfl, trivial, rfl, trivial⟩
set_option maxRecDepth 100000 in
set_option maxHeartbeats 4000000 in
theorem mt_d99 : mt_c99.all (mt_ckD mt_b99) = true := by decide +kernel
theorem mt_g99 : mt_Good xs oA dA 99 := fun y bytes ret h => by
  obtain ⟨rfl, rfl, rfl⟩ := mt_inj (show some (mt_y99, mt_b99, mt_t99) = some (y, bytes, ret) from h)
  exact ⟨mt_pn0, fun pc en h => ⟨mt_find (mt_i99 xs oA dA) (show mt_at mt_c99 pc = some en from h), mt_findD mt_d99 (show mt_at mt_c99 pc = some en from h)⟩⟩
set_option maxRecDepth 100000 in
set_option maxHeartbeats 4000000 in
theorem mt_i100 : mt_All (mm_okI mt_Ts (mt_P xs) (mt_G oA dA) mt_cl mt_X mt_Mt mt_y100 mt_t100) mt_c100 := ⟨trivial, mt_f0_62, trivial, Or.inr ⟨by decide, by decide, mt_m0_157 xs⟩, trivial, trivial, trivial, trivial, mt_f0_102, trivial, ⟨24, by decide⟩, trivial, rfl, trivial, mt_f0_27, trivial, mt_f0_102, trivial, trivial, Or.inr ⟨by decide, by decide, mt_m0_161 xs⟩, trivial, mt_f0_31, trivial, mt_f0_102, trivial, trivial, trivial, trivial, mt_f0_102, trivial, trivial, ⟨mt_f0_102, mt_p0_102 _⟩, trivial, mt_f0_102, trivial, trivial, rfl, trivial⟩
set_option maxRecDepth 100000 in
set_option maxHeartbeats 4000000 in
theorem mt_d100 : mt_c100.all (mt_ckD mt_b100) = true := by decide +kernel
theorem mt_g100 : mt_Good xs oA dA 100 := fun y bytes ret h => by
  obtain ⟨rfl, rfl, rfl⟩ := mt_inj (show some (mt_y100, mt_b100, mt_t100) = some (y, bytes, ret) from h)
  exact ⟨mt_pn0, fun pc en h => ⟨mt_find (mt_i100 xs oA dA) (show mt_at mt_c100 pc = some en from h), mt_findD mt_d100 (show mt_at mt_c100 pc = some en from h)⟩⟩
set_option maxRecDepth 100000 in
set_option maxHeartbeats 4000000 in
theorem mt_i101 : mt_All (mm_okI mt_Ts (mt_P xs) (mt_G oA dA) mt_cl mt_X mt_Mt mt_y101 mt_t101) mt_c101 := ⟨trivial, trivial, ⟨mt_f12_26, mt_p12_26 _⟩, trivial, trivial, ⟨mt_f12_30, mt_p12_30 _⟩, trivial, trivial, trivial, trivial, ⟨31, by decide⟩, trivial, mt_f12_15, trivial, trivial, trivial, trivial, trivial, trivial, trivial, trivial, trivial, trivial, trivial, trivial, trivial, mt_f12_34, ⟨70, by decide⟩, trivial, mt_f12_9, trivial, mt_f12_39, trivial, trivial, trivial, mt_f12_42, trivial, trivial, trivial, trivial, trivial, trivial, mt_f12_45, trivial, trivial, rfl, trivial⟩
set_option maxRecDepth 100000 in
set_option maxHeartbeats 4000000 in
theorem mt_d101 : mt_c101.all (mt_ckD mt_b101) = true := by decide +kernel
theorem mt_g101 : mt_Good xs oA dA 101 := fun y bytes ret h => by
  obtain ⟨rfl, rfl, rfl⟩ := mt_inj (show some (mt_y101, mt_b101, mt_t101) = some (y, bytes, ret) from h)
  exact ⟨mt_pn12, fun pc en h => ⟨mt_find (mt_i101 xs oA dA) (show mt_at mt_c101 pc = some en from h), mt_findD mt_d101 (show mt_at mt_c101 pc = some en from h)⟩⟩
set_option maxRecDepth 100000 in
set_option maxHeartbeats 4000000 in
theorem mt_i102 : mt_All (mm_okI mt_Ts (mt_P xs) (mt_G oA dA) mt_cl mt_X mt_Mt mt_y102 mt_t102) mt_c102 := ⟨trivial, trivial, Or.inr ⟨by decide, by decide, mt_m0_165 xs⟩, ⟨23, by decide⟩, trivial, mt_f0_27, trivial, trivial, mt_f0_169, mt_f0_136, trivial, trivial, rfl, trivial⟩
set_option maxRecDepth 100000 in
set_option maxHeartbeats 4000000 in
theorem mt_d102 : mt_c102.all (mt_ckD mt_b102) = true := by decide +kernel
theorem mt_g102 : mt_Good xs oA dA 102 := fun y bytes ret h => by
  obtain ⟨rfl, rfl, rfl⟩ := mt_inj (show some (mt_y102, mt_b102, mt_t102) = some (y, bytes, ret) from h)
  exact ⟨mt_pn0, fun pc en h => ⟨mt_find (mt_i102 xs oA dA) (show mt_at mt_c102 pc = some en from h), mt_findD mt_d102 (show mt_at mt_c102 pc = some en from h)⟩⟩
set_option maxRecDepth 100000 in
set_option maxHeartbeats 4000000 in
theorem mt_i103 : mt_All (mm_okI mt_Ts (mt_P xs) (mt_G oA dA) mt_cl mt_X mt_Mt mt_y103 mt_t103) mt_c103 := ⟨trivial, ⟨26, by decide⟩, trivial, trivial, ⟨26, by decide⟩, trivial, mt_f0_27, trivial, trivial, mt_f0_92, ⟨26, by decide⟩, trivial, trivial, trivial, rfl, trivial⟩
set_option maxRecDepth 100000 in
set_option maxHeartbeats 4000000 in
theorem mt_d103 : mt_c103.all (mt_ckD mt_b103) = true := by decide +kernel
theorem mt_g103 : mt_Good xs oA dA 103 := fun y bytes ret h => by
  obtain ⟨rfl, rfl, rfl⟩ := mt_inj (show some (mt_y103, mt_b103, mt_t103) = some (y, bytes, ret) from h)
  exact ⟨mt_pn0, fun pc en h => ⟨mt_find (mt_i103 xs oA dA) (show mt_at mt_c103 pc = some en from h), mt_findD mt_d103 (show mt_at mt_c103 pc = some en from h)⟩⟩
set_option maxRecDepth 100000 in
set_option maxHeartbeats 4000000 in
theorem mt_i104 : mt_All (mm_okI mt_Ts (mt_P xs) (mt_G oA dA) mt_cl mt_X mt_Mt mt_y104 mt_t104) mt_c104 := ⟨trivial, trivial, Or.inr ⟨by decide, by decide, mt_m0_165 xs⟩, ⟨23, by decide⟩, trivial, mt_f0_27, trivial, trivial, mt_f0_169, mt_f0_145, trivial, trivial, rfl, trivial⟩
set_option maxRecDepth 100000 in
set_option maxHeartbeats 4000000 in
theorem mt_d104 : mt_c104.all (mt_ckD mt_b104) = true := by decide +kernel
theorem mt_g104 : mt_Good xs oA dA 104 := fun y bytes ret h => by
  obtain ⟨rfl, rfl, rfl⟩ := mt_inj (show some (mt_y104, mt_b104, mt_t104) = some (y, bytes, ret) from h)
  exact ⟨mt_pn0, fun pc en h => ⟨mt_find (mt_i104 xs oA dA) (show mt_at mt_c104 pc = some en from h), mt_findD mt_d104 (show mt_at mt_c104 pc = some en from h)⟩⟩
set_option maxRecDepth 100000 in
set_option maxHeartbeats 4000000 in
theorem mt_i105 : mt_All (mm_okI mt_Ts (mt_P xs) (mt_G oA dA) mt_cl mt_X mt_Mt mt_y105 mt_t105) mt_c105 := ⟨trivial, trivial, Or.inr ⟨by decide, by decide, mt_m0_165 xs⟩, ⟨28, by decide⟩, trivial, mt_f0_27, trivial, trivial, mt_f0_169, trivial, Or.inr ⟨by decide, by decide, mt_m0_172 xs⟩, ⟨28, by decide⟩, trivial, trivial, trivial, rfl, trivial⟩
set_option maxRecDepth 100000 in
set_option maxHeartbeats 4000000 in
theorem mt_d105 : mt_c105.all (mt_ckD mt_b105) = true := by decide +kernel
theorem mt_g105 : mt_Good xs oA dA 105 := fun y bytes ret h => by
  obtain ⟨rfl, rfl, rfl⟩ := mt_inj (show some (mt_y105, mt_b105, mt_t105) = some (y, bytes, ret) from h)
  exact ⟨mt_pn0, fun pc en h => ⟨mt_find (mt_i105 xs oA dA) (show mt_at mt_c105 pc = some en from h), mt_findD mt_d105 (show mt_at mt_c105 pc = some en from h)⟩⟩
set_option maxRecDepth 100000 in
set_option maxHeartbeats 4000000 in
theorem mt_i106 : mt_All (mm_okI mt_Ts (mt_P xs) (mt_G oA dA) mt_cl mt_X mt_Mt mt_y106 mt_t106) mt_c106 := ⟨trivial, ⟨23, by decide⟩, trivial, trivial, ⟨23, by decide⟩, trivial, mt_f18_35, trivial, trivial, ⟨23, by decide⟩, trivial, trivial, trivial, rfl, trivial⟩
set_option maxRecDepth 100000 in
set_option maxHeartbeats 4000000 in
theorem mt_d106 : mt_c106.all (mt_ckD mt_b106) = true := by decide +kernel
theorem mt_g106 : mt_Good xs oA dA 106 := fun y bytes ret h => by
  obtain ⟨rfl, rfl, rfl⟩ := mt_inj (show some (mt_y106, mt_b106, mt_t106) = some (y, bytes, ret) from h)
  exact ⟨mt_pn18, fun pc en h => ⟨mt_find (mt_i106 xs oA dA) (show mt_at mt_c106 pc = some en from h), mt_findD mt_d106 (show mt_at mt_c106 pc = some en from h)⟩⟩
set_option maxRecDepth 100000 in
set_option maxHeartbeats 4000000 in
theorem mt_i107 : mt_All (mm_okI mt_Ts (mt_P xs) (mt_G oA dA) mt_cl mt_X mt_Mt mt_y107 mt_t107) mt_c107 := ⟨trivial, trivial, Or.inr ⟨by decide, by decide, mt_m0_165 xs⟩, ⟨15, by decide⟩, trivial, Or.inr (Or.inr (Or.inr ⟨rfl, mt_m0_175 xs⟩)), ⟨17, by decide⟩, trivial, rfl, trivial, mt_f0_27, trivial, trivial, trivial, trivial, mt_f0_169, trivial, Or.inr ⟨by decide, by decide, mt_m0_172 xs⟩, ⟨42, by decide⟩, trivial, mt_f0_178, trivial, trivial, rfl, trivial, mt_f0_181, trivial, trivial, ⟨60, by decide⟩, trivial, mt_f0_185, trivial, trivial, trivial, trivial, rfl, trivial⟩
set_option maxRecDepth 100000 in
set_option maxHeartbeats 4000000 in
theorem mt_d107 : mt_c107.all (mt_ckD mt_b107) = true := by decide +kernel
theorem mt_g107 : mt_Good xs oA dA 107 := fun y bytes ret h => by
  obtain ⟨rfl, rfl, rfl⟩ := mt_inj (show some (mt_y107, mt_b107, mt_t107) = some (y, bytes, ret) from h)
  exact ⟨mt_pn0, fun pc en h => ⟨mt_find (mt_i107 xs oA dA) (show mt_at mt_c107 pc = some en from h), mt_findD mt_d107 (show mt_at mt_c107 pc = some en from h)⟩⟩
set_option maxRecDepth 100000 in
set_option maxHeartbeats 4000000 in
theorem mt_i108 : mt_All (mm_okI mt_Ts (mt_P xs) (mt_G oA dA) mt_cl mt_X mt_Mt mt_y108 mt_t108) mt_c108 := ⟨trivial, ⟨14, by decide⟩, trivial, trivial, ⟨14, by decide⟩, trivial, trivial, trivial, rfl, trivial⟩
set_option maxRecDepth 100000 in
set_option maxHeartbeats 4000000 in
theorem mt_d108 : mt_c108.all (mt_ckD mt_b108) = true := by decide +kernel
theorem mt_g108 : mt_Good xs oA dA 108 := fun y bytes ret h => by
  obtain ⟨rfl, rfl, rfl⟩ := mt_inj (show some (mt_y108, mt_b108, mt_t108) = some (y, bytes, ret) from h)
  exact ⟨mt_pn0, fun pc en h => ⟨mt_find (mt_i108 xs oA dA) (show mt_at mt_c108 pc = some en from h), mt_findD mt_d108 (show mt_at mt_c108 pc = some en from h)⟩⟩
set_option maxRecDepth 100000 in
set_option maxHeartbeats 4000000 in
theorem mt_i109 : mt_All (mm_okI mt_Ts (mt_P xs) (mt_G oA dA) mt_cl mt_X mt_Mt mt_y109 mt_t109) mt_c109 := ⟨trivial, trivial, Or.inr ⟨by decide, by decide, mt_m0_165 xs⟩, ⟨24, by decide⟩, trivial, mt_f0_27, trivial, trivial, mt_f0_169, trivial, Or.inr ⟨by decide, by decide, mt_m0_172 xs⟩, ⟨26, by decide⟩, trivial, rfl, trivial, mt_f0_27, trivial, trivial, mt_f0_178, trivial, trivial, trivial, trivial, rfl, trivial⟩
set_option maxRecDepth 100000 in
set_option maxHeartbeats 4000000 in
theorem mt_d109 : mt_c109.all (mt_ckD mt_b109) = true := by decide +kernel
theorem mt_g109 : mt_Good xs oA dA 109 := fun y bytes ret h => by
  obtain ⟨rfl, rfl, rfl⟩ := mt_inj (show some (mt_y109, mt_b109, mt_t109) = some (y, bytes, ret) from h)
  exact ⟨mt_pn0, fun pc en h => ⟨mt_find (mt_i109 xs oA dA) (show mt_at mt_c109 pc = some en from h), mt_findD mt_d109 (show mt_at mt_c109 pc = some en from h)⟩⟩
set_option maxRecDepth 100000 in
set_option maxHeartbeats 4000000 in
theorem mt_i110 : mt_All (mm_okI mt_Ts (mt_P xs) (mt_G oA dA) mt_cl mt_X mt_Mt mt_y110 mt_t110) mt_c110 := ⟨trivial, mt_f0_62, trivial, Or.inr ⟨by decide, by decide, mt_m0_157 xs⟩, trivial, trivial, trivial, trivial, trivial, trivial, trivial, Or.inr ⟨by decide, by decide, mt_m0_188 xs⟩, trivial, trivial, trivial, trivial, trivial, trivial, mt_f0_191, trivial, mt_f0_194, trivial, trivial, trivial, rfl, trivial⟩
set_option maxRecDepth 100000 in
set_option maxHeartbeats 4000000 in
theorem mt_d110 : mt_c110.all (mt_ckD mt_b110) = true := by decide +kernel
theorem mt_g110 : mt_Good xs oA dA 110 := fun y bytes ret h => by
  obtain ⟨rfl, rfl, rfl⟩ := mt_inj (show some (mt_y110, mt_b110, mt_t110) = some (y, bytes, ret) from h)
  exact ⟨mt_pn0, fun pc en h => ⟨mt_find (mt_i110 xs oA dA) (show mt_at mt_c110 pc = some en from h), mt_findD mt_d110 (show mt_at mt_c110 pc = some en from h)⟩⟩
set_option maxRecDepth 100000 in
set_option maxHeartbeats 4000000 in
theorem mt_i111 : mt_All (mm_okI mt_Ts (mt_P xs) (mt_G oA dA) mt_cl mt_X mt_Mt mt_y111 mt_t111) mt_c111 := ⟨trivial, ⟨19, by decide⟩, trivial, trivial, ⟨19, by decide⟩, trivial, mt_f18_39, trivial, trivial, trivial, trivial, ⟨_, rfl, Or.inl ⟨_, rfl⟩⟩, trivial⟩
set_option maxRecDepth 100000 in
set_option maxHeartbeats 4000000 in
theorem mt_d111 : mt_c111.all (mt_ckD mt_b111) = true := by decide +kernel
theorem mt_g111 : mt_Good xs oA dA 111 := fun y bytes ret h => by
  obtain ⟨rfl, rfl, rfl⟩ := mt_inj (show some (mt_y111, mt_b111, mt_t111) = some (y, bytes, ret) from h)
  exact ⟨mt_pn18, fun pc en h => ⟨mt_find (mt_i111 xs oA dA) (show mt_at mt_c111 pc = some en from h), mt_findD mt_d111 (show mt_at mt_c111 pc = some en from h)⟩⟩
set_option maxRecDepth 100000 in
set_option maxHeartbeats 4000000 in
theorem mt_i112 : mt_All (mm_okI mt_Ts (mt_P xs) (mt_G oA dA) mt_cl mt_X mt_Mt mt_y112 mt_t112) mt_c112 := ⟨trivial, trivial, trivial, trivial, ⟨mt_f0_197, mt_p0_197 _⟩, trivial, trivial, ⟨mt_f0_200, mt_p0_200 _⟩, trivial, trivial, ⟨mt_f0_203, mt_p0_203 _⟩, trivial, trivial, Or.inr ⟨by decide, by decide, mt_m0_165 xs⟩, ⟨76, by decide⟩, trivial, mt_f0_46, trivial, mt_f0_27, trivial, trivial, trivial, trivial, Or.inr ⟨by decide, by decide, mt_m0_206 xs⟩, trivial, trivial, trivial, mt_f0_46, mt_f0_210, ⟨mt_f0_197, mt_p0_197 _⟩, trivial, trivial, mt_f0_46, mt_f0_213, ⟨mt_f0_200, mt_p0_200 _⟩, trivial, trivial, mt_f0_46, mt_f0_216, ⟨mt_f0_203, mt_p0_203 _⟩, trivial, rfl, trivial⟩
set_option maxRecDepth 100000 in
set_option maxHeartbeats 4000000 in
theorem mt_d112 : mt_c112.all (mt_ckD mt_b112) = true := by decide +kernel
theorem mt_g112 : mt_Good xs oA dA 112 := fun y bytes ret h => by
  obtain ⟨rfl, rfl, rfl⟩ := mt_inj (show some (mt_y112, mt_b112, mt_t112) = some (y, bytes, ret) from h)
  exact ⟨mt_pn0, fun pc en h => ⟨mt_find (mt_i112 xs oA dA) (show mt_at mt_c112 pc = some en from h), mt_findD mt_d112 (show mt_at mt_c112 pc = some en from h)⟩⟩
set_option maxRecDepth 100000 in
set_option maxHeartbeats 4000000 in
theorem mt_i113 : mt_All (mm_okI mt_Ts (mt_P xs) (mt_G oA dA) mt_cl mt_X mt_Mt mt_y113 mt_t113) mt_c113 := ⟨trivial, Or.inr ⟨by decide, by decide, mt_m9_33 xs⟩, trivial, mt_f9_36, trivial, Or.inr ⟨by decide, by decide, mt_m9_42 xs⟩, trivial, trivial, trivial, trivial, rfl, trivial, mt_f9_18, trivial, trivial, trivial, trivial, Or.inr ⟨by decide, by decide, mt_m9_48 xs⟩, trivial, trivial, mt_f9_18, Or.inr ⟨by decide, by decide, mt_m9_52 xs⟩, trivial, trivial, mt_f9_18, trivial, Or.inr ⟨by decide, by decide, mt_m9_56 xs⟩, rfl, trivial⟩
set_option maxRecDepth 100000 in
set_option maxHeartbeats 4000000 in
theorem mt_d113 : mt_c113.all (mt_ckD mt_b113) = true := by decide +kernel
theorem mt_g113 : mt_Good xs oA dA 113 := fun y bytes ret h => by
  obtain ⟨rfl, rfl, rfl⟩ := mt_inj (show some (mt_y113, mt_b113, mt_t113) = some (y, bytes, ret) from h)
  exact ⟨mt_pn9, fun pc en h => ⟨mt_find (mt_i113 xs oA dA) (show mt_at mt_c113 pc = some en from h), mt_findD mt_d113 (show mt_at mt_c113 pc = some en from h)⟩⟩
set_option maxRecDepth 100000 in
set_option maxHeartbeats 4000000 in
theorem mt_i114 : mt_All (mm_okI mt_Ts (mt_P xs) (mt_G oA dA) mt_cl mt_X mt_Mt mt_y114 mt_t114) mt_c114 := ⟨trivial, trivial, ⟨mt_f9_60, mt_p9_60 _⟩, trivial, trivial, ⟨mt_f9_64, mt_p9_64 _⟩, trivial, trivial, ⟨mt_f9_67, mt_p9_67 _⟩, rfl, trivial⟩
set_option maxRecDepth 100000 in
set_option maxHeartbeats 4000000 in
theorem mt_d114 : mt_c114.all (mt_ckD mt_b114) = true := by decide +kernel
theorem mt_g114 : mt_Good xs oA dA 114 := fun y bytes ret h => by
  obtain ⟨rfl, rfl, rfl⟩ := mt_inj (show some (mt_y114, mt_b114, mt_t114) = some (y, bytes, ret) from h)
  exact ⟨mt_pn9, fun pc en h => ⟨mt_find (mt_i114 xs oA dA) (show mt_at mt_c114 pc = some en from h), mt_findD mt_d114 (show mt_at mt_c114 pc = some en from h)⟩⟩
set_option maxRecDepth 100000 in
set_option maxHeartbeats 4000000 in
theorem mt_i115 : mt_All (mm_okI mt_Ts (mt_P xs) (mt_G oA dA) mt_cl mt_X mt_Mt mt_y115 mt_t115) mt_c115 := ⟨trivial, ⟨19, by decide⟩, trivial, trivial, ⟨19, by decide⟩, trivial, mt_f18_46, trivial, trivial, trivial, trivial, ⟨_, rfl, Or.inl ⟨_, rfl⟩⟩, trivial⟩
set_option maxRecDepth 100000 in
set_option maxHeartbeats 4000000 in
theorem mt_d115 : mt_c115.all (mt_ckD mt_b115) = true := by decide +kernel
theorem mt_g115 : mt_Good xs oA dA 115 := fun y bytes ret h => by
  obtain ⟨rfl, rfl, rfl⟩ := mt_inj (show some (mt_y115, mt_b115, mt_t115) = some (y, bytes, ret) from h)
  exact ⟨mt_pn18, fun pc en h => ⟨mt_find (mt_i115 xs oA dA) (show mt_at mt_c115 pc = some en from h), mt_findD mt_d115 (show mt_at mt_c115 pc = some en from h)⟩⟩
set_option maxRecDepth 100000 in
set_option maxHeartbeats 4000000 in
theorem mt_i116 : mt_All (mm_okI mt_Ts (mt_P xs) (mt_G oA dA) mt_cl mt_X mt_Mt mt_y116 mt_t116) mt_c116 := ⟨trivial, trivial, ⟨mt_f10_9, mt_p10_9 _⟩, trivial, trivial, ⟨mt_f10_15, mt_p10_15 _⟩, trivial, trivial, ⟨mt_f10_19, mt_p10_19 _⟩, trivial, trivial, mt_f10_23, trivial, mt_f10_29, trivial, trivial, trivial, ⟨mt_f10_33, mt_p10_33 _⟩, trivial, trivial, ⟨mt_f10_36, mt_p10_36 _⟩, trivial, trivial, ⟨mt_f10_39, mt_p10_39 _⟩, trivial, trivial, ⟨mt_f10_42, mt_p10_42 _⟩, rfl, trivial⟩
set_option maxRecDepth 100000 in
set_option maxHeartbeats 4000000 in
theorem mt_d116 : mt_c116.all (mt_ckD mt_b116) = true := by decide +kernel
theorem mt_g116 : mt_Good xs oA dA 116 := fun y bytes ret h => by
  obtain ⟨rfl, rfl, rfl⟩ := mt_inj (show some (mt_y116, mt_b116, mt_t116) = some (y, bytes, ret) from h)
  exact ⟨mt_pn10, fun pc en h => ⟨mt_find (mt_i116 xs oA dA) (show mt_at mt_c116 pc = some en from h), mt_findD mt_d116 (show mt_at mt_c116 pc = some en from h)⟩⟩
set_option maxRecDepth 100000 in
set_option maxHeartbeats 4000000 in
theorem mt_i117 : mt_All (mm_okI mt_Ts (mt_P xs) (mt_G oA dA) mt_cl mt_X mt_Mt mt_y117 mt_t117) mt_c117 := ⟨trivial, mt_f9_164, ⟨16, by decide⟩, trivial, mt_f9_167, trivial, ⟨17, by decide⟩, rfl, trivial, mt_f9_167, trivial, trivial, trivial, trivial, mt_f9_26, trivial, trivial, mt_f9_106, mt_f9_170, trivial, trivial, mt_f9_26, trivial, trivial, trivial, trivial, mt_f9_155, trivial, trivial, mt_f9_26, trivial, trivial, trivial, trivial, mt_f9_149, mt_f9_173, trivial, trivial, mt_f9_26, trivial, trivial, trivial, trivial, mt_f9_149, mt_f9_176, trivial, trivial, trivial, mt_f9_167, trivial, trivial, ⟨mt_f9_167, mt_p9_167 _⟩, rfl, trivial⟩
set_option maxRecDepth 100000 in
set_option maxHeartbeats 4000000 in
theorem mt_d117 : mt_c117.all (mt_ckD mt_b117) = true := by decide +kernel
theorem mt_g117 : mt_Good xs oA dA 117 := fun y bytes ret h => by
  obtain ⟨rfl, rfl, rfl⟩ := mt_inj (show some (mt_y117, mt_b117, mt_t117) = some (y, bytes, ret) from h)
  exact ⟨mt_pn9, fun pc en h => ⟨mt_find (mt_i117 xs oA dA) (show mt_at mt_c117 pc = some en from h), mt_findD mt_d117 (show mt_at mt_c117 pc = some en from h)⟩⟩
set_option maxRecDepth 100000 in
set_option maxHeartbeats 4000000 in
theorem mt_i118 : mt_All (mm_okI mt_Ts (mt_P xs) (mt_G oA dA) mt_cl mt_X mt_Mt mt_y118 mt_t118) mt_c118 := ⟨trivial, mt_f9_11, trivial, trivial, trivial, trivial, trivial, ⟨mt_f9_91, mt_p9_91 _⟩, trivial, trivial, ⟨mt_f9_74, mt_p9_74 _⟩, trivial, trivial, ⟨mt_f9_93, mt_p9_93 _⟩, trivial, trivial, ⟨mt_f9_77, mt_p9_77 _⟩, trivial, trivial, trivial, Or.inl ⟨rfl, mt_in5 (i := 145) rfl⟩, ⟨86, by decide⟩, trivial, mt_f9_77, trivial, ⟨86, by decide⟩, trivial, mt_f9_11, trivial, mt_f9_91, trivial, trivial, trivial, Or.inr ⟨by decide, by decide, mt_m9_80 xs⟩, trivial, trivial, trivial, trivial, Or.inr ⟨by decide, by decide, mt_m9_84 xs⟩, ⟨80, by decide⟩, trivial, trivial, trivial, Or.inr ⟨by decide, by decide, mt_m9_98 xs⟩, trivial, trivial, trivial, mt_f9_77, trivial, ⟨98, by decide⟩, trivial, trivial, trivial, mt_f9_77, rfl, trivial⟩
set_option maxRecDepth 100000 in
set_option maxHeartbeats 4000000 in
theorem mt_d118 : mt_c118.all (mt_ckD mt_b118) = true := by decide +kernel
theorem mt_g118 : mt_Good xs oA dA 118 := fun y bytes ret h => by
  obtain ⟨rfl, rfl, rfl⟩ := mt_inj (show some (mt_y118, mt_b118, mt_t118) = some (y, bytes, ret) from h)
  exact ⟨mt_pn9, fun pc en h => ⟨mt_find (mt_i118 xs oA dA) (show mt_at mt_c118 pc = some en from h), mt_findD mt_d118 (show mt_at mt_c118 pc = some en from h)⟩⟩
set_option maxRecDepth 100000 in
set_option maxHeartbeats 4000000 in
theorem mt_i119 : mt_All (mm_okI mt_Ts (mt_P xs) (mt_G oA dA) mt_cl mt_X mt_Mt mt_y119 mt_t119) mt_c119 := ⟨trivial, mt_f10_33, trivial, trivial, mt_f10_36, ⟨26, by decide⟩, trivial, mt_f10_36, trivial, mt_f10_33, trivial, ⟨28, by decide⟩, trivial, rfl, trivial, trivial, mt_f10_36, trivial, trivial, ⟨mt_f10_36, mt_p10_36 _⟩, trivial, mt_f10_33, trivial, mt_f10_36, trivial, trivial, trivial, rfl, trivial⟩
set_option maxRecDepth 100000 in
set_option maxHeartbeats 4000000 in
theorem mt_d119 : mt_c119.all (mt_ckD mt_b119) = true := by decide +kernel
theorem mt_g119 : mt_Good xs oA dA 119 := fun y bytes ret h => by
  obtain ⟨rfl, rfl, rfl⟩ := mt_inj (show some (mt_y119, mt_b119, mt_t119) = some (y, bytes, ret) from h)
  exact ⟨mt_pn10, fun pc en h => ⟨mt_find (mt_i119 xs oA dA) (show mt_at mt_c119 pc = some en from h), mt_findD mt_d119 (show mt_at mt_c119 pc = some en from h)⟩⟩
set_option maxRecDepth 100000 in
set_option maxHeartbeats 4000000 in
theorem mt_i120 : mt_All (mm_okI mt_Ts (mt_P xs) (mt_G oA dA) mt_cl mt_X mt_Mt mt_y120 mt_t120) mt_c120 := ⟨trivial, trivial, trivial, trivial, Or.inr ⟨by decide, by decide, mt_m9_80 xs⟩, Or.inr ⟨by decide, by decide, mt_m9_102 xs⟩, trivial, rfl, trivial, trivial, mt_f9_106, trivial, Or.inr ⟨by decide, by decide, mt_m9_80 xs⟩, Or.inr ⟨by decide, by decide, mt_m9_110 xs⟩, trivial, rfl, trivial, trivial, mt_f9_114, Or.inr ⟨by decide, by decide, mt_m9_102 xs⟩, trivial, rfl, trivial, trivial, mt_f9_117, Or.inr ⟨by decide, by decide, mt_m9_102 xs⟩, trivial, rfl, trivial, trivial, Or.inr ⟨by decide, by decide, mt_m9_88 xs⟩, trivial, Or.inr ⟨by decide, by decide, mt_m9_102 xs⟩, trivial, rfl, trivial, trivial, mt_f9_106, trivial, Or.inr ⟨by decide, by decide, mt_m9_80 xs⟩, trivial, Or.inr ⟨by decide, by decide, mt_m9_88 xs⟩, Or.inr ⟨by decide, by decide, mt_m9_120 xs⟩, trivial, rfl, trivial, trivial, Or.inr ⟨by decide, by decide, mt_m9_124 xs⟩, trivial, rfl, trivial, rfl, trivial⟩
set_option maxRecDepth 100000 in
set_option maxHeartbeats 4000000 in
theorem mt_d120 : mt_c120.all (mt_ckD mt_b120) = true := by decide +kernel
theorem mt_g120 : mt_Good xs oA dA 120 := fun y bytes ret h => by
  obtain ⟨rfl, rfl, rfl⟩ := mt_inj (show some (mt_y120, mt_b120, mt_t120) = some (y, bytes, ret) from h)
  exact ⟨mt_pn9, fun pc en h => ⟨mt_find (mt_i120 xs oA dA) (show mt_at mt_c120 pc = some en from h), mt_findD mt_d120 (show mt_at mt_c120 pc = some en from h)⟩⟩
set_option maxRecDepth 100000 in
set_option maxHeartbeats 4000000 in
theorem mt_i121 : mt_All (mm_okI mt_Ts (mt_P xs) (mt_G oA dA) mt_cl mt_X mt_Mt mt_y121 mt_t121) mt_c121 := ⟨trivial, mt_f9_74, trivial, mt_f9_22, trivial, ⟨32, by decide⟩, trivial, mt_f9_22, trivial, mt_f9_74, trivial, trivial, trivial, trivial, mt_f9_74, trivial, trivial, ⟨mt_f9_74, mt_p9_74 _⟩, rfl, trivial⟩
set_option maxRecDepth 100000 in
set_option maxHeartbeats 4000000 in
theorem mt_d121 : mt_c121.all (mt_ckD mt_b121) = true := by decide +kernel
theorem mt_g121 : mt_Good xs oA dA 121 := fun y bytes ret h => by
  obtain ⟨rfl, rfl, rfl⟩ := mt_inj (show some (mt_y121, mt_b121, mt_t121) = some (y, bytes, ret) from h)
  exact ⟨mt_pn9, fun pc en h => ⟨mt_find (mt_i121 xs oA dA) (show mt_at mt_c121 pc = some en from h), mt_findD mt_d121 (show mt_at mt_c121 pc = some en from h)⟩⟩
set_option maxRecDepth 100000 in
set_option maxHeartbeats 4000000 in
theorem mt_i122 : mt_All (mm_okI mt_Ts (mt_P xs) (mt_G oA dA) mt_cl mt_X mt_Mt mt_y122 mt_t122) mt_c122 := ⟨trivial, mt_f9_36, trivial, trivial, trivial, Or.inr ⟨by decide, by decide, mt_m9_179 xs⟩, trivial, trivial, trivial, Or.inr ⟨by decide, by decide, mt_m9_182 xs⟩, ⟨33, by decide⟩, trivial, trivial, mt_f9_186, trivial, trivial, Or.inr ⟨by decide, by decide, mt_m9_102 xs⟩, trivial, trivial, trivial, trivial, trivial, mt_f9_189, trivial, mt_f9_192, trivial, trivial, trivial, Or.inr ⟨by decide, by decide, mt_m9_102 xs⟩, trivial, trivial, Or.inr (Or.inr (Or.inr ⟨rfl, mt_m9_195 xs⟩)), ⟨86, by decide⟩, trivial, mt_f9_198, trivial, trivial, ⟨86, by decide⟩, trivial, trivial, mt_f9_202, trivial, trivial, Or.inr ⟨by decide, by decide, mt_m9_102 xs⟩, trivial, trivial, trivial, Or.inr ⟨by decide, by decide, mt_m9_136 xs⟩, rfl, trivial⟩
set_option maxRecDepth 100000 in
set_option maxHeartbeats 4000000 in
theorem mt_d122 : mt_c122.all (mt_ckD mt_b122) = true := by decide +kernel
theorem mt_g122 : mt_Good xs oA dA 122 := fun y bytes ret h => by
  obtain ⟨rfl, rfl, rfl⟩ := mt_inj (show some (mt_y122, mt_b122, mt_t122) = some (y, bytes, ret) from h)
  exact ⟨mt_pn9, fun pc en h => ⟨mt_find (mt_i122 xs oA dA) (show mt_at mt_c122 pc = some en from h), mt_findD mt_d122 (show mt_at mt_c122 pc = some en from h)⟩⟩
set_option maxRecDepth 100000 in
set_option maxHeartbeats 4000000 in
theorem mt_i123 : mt_All (mm_okI mt_Ts (mt_P xs) (mt_G oA dA) mt_cl mt_X mt_Mt mt_y123 mt_t123) mt_c123 := ⟨trivial, trivial, ⟨mt_f9_64, mt_p9_64 _⟩, trivial, trivial, ⟨mt_f9_77, mt_p9_77 _⟩, rfl, trivial⟩
set_option maxRecDepth 100000 in
set_option maxHeartbeats 4000000 in
theorem mt_d123 : mt_c123.all (mt_ckD mt_b123) = true := by decide +kernel
theorem mt_g123 : mt_Good xs oA dA 123 := fun y bytes ret h => by
  obtain ⟨rfl, rfl, rfl⟩ := mt_inj (show some (mt_y123, mt_b123, mt_t123) = some (y, bytes, ret) from h)
  exact ⟨mt_pn9, fun pc en h => ⟨mt_find (mt_i123 xs oA dA) (show mt_at mt_c123 pc = some en from h), mt_findD mt_d123 (show mt_at mt_c123 pc = some en from h)⟩⟩
set_option maxRecDepth 100000 in
set_option maxHeartbeats 4000000 in
theorem mt_i124 : mt_All (mm_okI mt_Ts (mt_P xs) (mt_G oA dA) mt_cl mt_X mt_Mt mt_y124 mt_t124) mt_c124 := ⟨trivial, mt_f9_74, ⟨9, by decide⟩, trivial, rfl, trivial, trivial, mt_f9_74, trivial, trivial, ⟨mt_f9_74, mt_p9_74 _⟩, trivial, mt_f9_22, trivial, mt_f9_74, trivial, rfl, trivial⟩
set_option maxRecDepth 100000 in
set_option maxHeartbeats 4000000 in
theorem mt_d124 : mt_c124.all (mt_ckD mt_b124) = true := by decide +kernel
theorem mt_g124 : mt_Good xs oA dA 124 := fun y bytes ret h => by
  obtain ⟨rfl, rfl, rfl⟩ := mt_inj (show some (mt_y124, mt_b124, mt_t124) = some (y, bytes, ret) from h)
  exact ⟨mt_pn9, fun pc en h => ⟨mt_find (mt_i124 xs oA dA) (show mt_at mt_c124 pc = some en from h), mt_findD mt_d124 (show mt_at mt_c124 pc = some en from h)⟩⟩
set_option maxRecDepth 100000 in
set_option maxHeartbeats 4000000 in
theorem mt_i125 : mt_All (mm_okI mt_Ts (mt_P xs) (mt_G oA dA) mt_cl mt_X mt_Mt mt_y125 mt_t125) mt_c125 := ⟨trivial, mt_f9_36, trivial, trivial, trivial, Or.inr ⟨by decide, by decide, mt_m9_179 xs⟩, trivial, trivial, trivial, Or.inr ⟨by decide, by decide, mt_m9_182 xs⟩, ⟨33, by decide⟩, trivial, mt_f9_186, trivial, trivial, trivial, trivial, trivial, trivial, trivial, mt_f9_189, trivial, mt_f9_192, trivial, trivial, trivial, trivial, trivial, trivial, Or.inr (Or.inr (Or.inr ⟨rfl, mt_m9_195 xs⟩)), ⟨81, by decide⟩, trivial, mt_f9_198, trivial, trivial, ⟨81, by decide⟩, trivial, mt_f9_202, trivial, trivial, trivial, trivial, trivial, trivial, Or.inr ⟨by decide, by decide, mt_m9_136 xs⟩, rfl, trivial⟩
set_option maxRecDepth 100000 in
set_option maxHeartbeats 4000000 in
theorem mt_d125 : mt_c125.all (mt_ckD mt_b125) = true := by decide +kernel
theorem mt_g125 : mt_Good xs oA dA 125 := fun y bytes ret h => by
  obtain ⟨rfl, rfl, rfl⟩ := mt_inj (show some (mt_y125, mt_b125, mt_t125) = some (y, bytes, ret) from h)
  exact ⟨mt_pn9, fun pc en h => ⟨mt_find (mt_i125 xs oA dA) (show mt_at mt_c125 pc = some en from h), mt_findD mt_d125 (show mt_at mt_c125 pc = some en from h)⟩⟩
set_option maxRecDepth 100000 in
set_option maxHeartbeats 4000000 in
theorem mt_i126 : mt_All (mm_okI mt_Ts (mt_P xs) (mt_G oA dA) mt_cl mt_X mt_Mt mt_y126 mt_t126) mt_c126 := ⟨trivial, Or.inr ⟨by decide, by decide, mt_m9_88 xs⟩, trivial, trivial, Or.inr ⟨by decide, by decide, mt_m9_88 xs⟩, trivial, trivial, trivial, trivial, trivial, trivial, trivial, Or.inr ⟨by decide, by decide, mt_m9_102 xs⟩, trivial, trivial, trivial, trivial, trivial, Or.inr ⟨by decide, by decide, mt_m9_102 xs⟩, trivial, trivial, trivial, trivial, trivial, Or.inr ⟨by decide, by decide, mt_m9_102 xs⟩, trivial, trivial, ⟨104, by decide⟩, trivial, trivial, Or.inr ⟨by decide, by decide, mt_m9_136 xs⟩, trivial, trivial, trivial, trivial, trivial, Or.inr ⟨by decide, by decide, mt_m9_102 xs⟩, trivial, trivial, trivial, trivial, ⟨124, by decide⟩, trivial, trivial, trivial, Or.inr ⟨by decide, by decide, mt_m9_102 xs⟩, trivial, trivial, trivial, trivial, ⟨141, by decide⟩, trivial, trivial, trivial, Or.inr ⟨by decide, by decide, mt_m9_102 xs⟩, rfl, trivial⟩
set_option maxRecDepth 100000 in
set_option maxHeartbeats 4000000 in
theorem mt_d126 : mt_c126.all (mt_ckD mt_b126) = true := by decide +kernel
theorem mt_g126 : mt_Good xs oA dA 126 := fun y bytes ret h => by
  obtain ⟨rfl, rfl, rfl⟩ := mt_inj (show some (mt_y126, mt_b126, mt_t126) = some (y, bytes, ret) from h)
  exact ⟨mt_pn9, fun pc en h => ⟨mt_find (mt_i126 xs oA dA) (show mt_at mt_c126 pc = some en from h), mt_findD mt_d126 (show mt_at mt_c126 pc = some en from h)⟩⟩
set_option maxRecDepth 100000 in
set_option maxHeartbeats 4000000 in
theorem mt_i127 : mt_All (mm_okI mt_Ts (mt_P xs) (mt_G oA dA) mt_cl mt_X mt_Mt mt_y127 mt_t127) mt_c127 := ⟨trivial, trivial, trivial, Or.inr ⟨by decide, by decide, mt_m9_127 xs⟩, trivial, trivial, Or.inr ⟨by decide, by decide, mt_m9_80 xs⟩, trivial, trivial, trivial, Or.inr ⟨by decide, by decide, mt_m9_88 xs⟩, ⟨108, by decide⟩, trivial, trivial, trivial, mt_f9_130, ⟨mt_f9_130, mt_p9_130 _⟩, trivial, trivial, trivial, Or.inr ⟨by decide, by decide, mt_m9_80 xs⟩, ⟨mt_f9_130, mt_p9_130 _⟩, trivial, trivial, trivial, Or.inr ⟨by decide, by decide, mt_m9_88 xs⟩, Or.inr ⟨by decide, by decide, mt_m9_133 xs⟩, trivial, trivial, trivial, Or.inr ⟨by decide, by decide, mt_m9_88 xs⟩, Or.inr ⟨by decide, by decide, mt_m9_136 xs⟩, trivial, trivial, trivial, Or.inr ⟨by decide, by decide, mt_m9_139 xs⟩, trivial, trivial, trivial, mt_f9_106, trivial, Or.inr ⟨by decide, by decide, mt_m9_80 xs⟩, Or.inr ⟨by decide, by decide, mt_m9_142 xs⟩, trivial, trivial, trivial, Or.inr ⟨by decide, by decide, mt_m9_88 xs⟩, trivial, Or.inr ⟨by decide, by decide, mt_m9_80 xs⟩, Or.inr ⟨by decide, by decide, mt_m9_145 xs⟩, trivial, trivial, mt_f9_93, ⟨216, by decide⟩, trivial, mt_f9_91, ⟨216, by decide⟩, trivial, trivial, ⟨mt_f9_77, mt_p9_77 _⟩, trivial, trivial, trivial, Or.inr ⟨by decide, by decide, mt_m9_133 xs⟩, rfl, trivial⟩
set_option maxRecDepth 100000 in
set_option maxHeartbeats 4000000 in
theorem mt_d127 : mt_c127.all (mt_ckD mt_b127) = true := by decide +kernel
theorem mt_g127 : mt_Good xs oA dA 127 := fun y bytes ret h => by
  obtain ⟨rfl, rfl, rfl⟩ := mt_inj (show some (mt_y127, mt_b127, mt_t127) = some (y, bytes, ret) from h)
  exact ⟨mt_pn9, fun pc en h => ⟨mt_find (mt_i127 xs oA dA) (show mt_at mt_c127 pc = some en from h), mt_findD mt_d127 (show mt_at mt_c127 pc = some en from h)⟩⟩
set_option maxRecDepth 100000 in
set_option maxHeartbeats 4000000 in
theorem mt_i128 : mt_All (mm_okI mt_Ts (mt_P xs) (mt_G oA dA) mt_cl mt_X mt_Mt mt_y128 mt_t128) mt_c128 := ⟨trivial, mt_f9_67, trivial, ⟨18, by decide⟩, trivial, trivial, ⟨mt_f9_77, mt_p9_77 _⟩, trivial, trivial, trivial, mt_f9_67, trivial, trivial, ⟨mt_f9_67, mt_p9_67 _⟩, rfl, trivial⟩
set_option maxRecDepth 100000 in
set_option maxHeartbeats 4000000 in
theorem mt_d128 : mt_c128.all (mt_ckD mt_b128) = true := by decide +kernel
theorem mt_g128 : mt_Good xs oA dA 128 := fun y bytes ret h => by
  obtain ⟨rfl, rfl, rfl⟩ := mt_inj (show some (mt_y128, mt_b128, mt_t128) = some (y, bytes, ret) from h)
  exact ⟨mt_pn9, fun pc en h => ⟨mt_find (mt_i128 xs oA dA) (show mt_at mt_c128 pc = some en from h), mt_findD mt_d128 (show mt_at mt_c128 pc = some en from h)⟩⟩
set_option maxRecDepth 100000 in
set_option maxHeartbeats 4000000 in
theorem mt_i129 : mt_All (mm_okI mt_Ts (mt_P xs) (mt_G oA dA) mt_cl mt_X mt_Mt mt_y129 mt_t129) mt_c129 := ⟨trivial, mt_f9_91, ⟨20, by decide⟩, trivial, trivial, ⟨mt_f9_60, mt_p9_60 _⟩, trivial, trivial, ⟨mt_f9_77, mt_p9_77 _⟩, trivial, trivial, trivial, mt_f9_91, trivial, trivial, ⟨mt_f9_91, mt_p9_91 _⟩, trivial, mt_f9_11, trivial, mt_f9_91, trivial, trivial, ⟨mt_f9_117, mt_p9_117 _⟩, rfl, trivial⟩
set_option maxRecDepth 100000 in
set_option maxHeartbeats 4000000 in
theorem mt_d129 : mt_c129.all (mt_ckD mt_b129) = true := by decide +kernel
theorem mt_g129 : mt_Good xs oA dA 129 := fun y bytes ret h => by
  obtain ⟨rfl, rfl, rfl⟩ := mt_inj (show some (mt_y129, mt_b129, mt_t129) = some (y, bytes, ret) from h)
  exact ⟨mt_pn9, fun pc en h => ⟨mt_find (mt_i129 xs oA dA) (show mt_at mt_c129 pc = some en from h), mt_findD mt_d129 (show mt_at mt_c129 pc = some en from h)⟩⟩
set_option maxRecDepth 100000 in
set_option maxHeartbeats 4000000 in
theorem mt_i130 : mt_All (mm_okI mt_Ts (mt_P xs) (mt_G oA dA) mt_cl mt_X mt_Mt mt_y130 mt_t130) mt_c130 := ⟨trivial, mt_f9_149, mt_f9_152, trivial, trivial, trivial, trivial, trivial, trivial, trivial, mt_f9_155, Or.inr ⟨by decide, by decide, mt_m9_42 xs⟩, trivial, trivial, trivial, trivial, trivial, ⟨mt_f9_117, mt_p9_117 _⟩, trivial, trivial, trivial, mt_f9_106, trivial, trivial, mt_f9_155, trivial, mt_f9_114, Or.inr ⟨by decide, by decide, mt_m9_158 xs⟩, rfl, trivial⟩
set_option maxRecDepth 100000 in
set_option maxHeartbeats 4000000 in
theorem mt_d130 : mt_c130.all (mt_ckD mt_b130) = true := by decide +kernel
theorem mt_g130 : mt_Good xs oA dA 130 := fun y bytes ret h => by
  obtain ⟨rfl, rfl, rfl⟩ := mt_inj (show some (mt_y130, mt_b130, mt_t130) = some (y, bytes, ret) from h)
  exact ⟨mt_pn9, fun pc en h => ⟨mt_find (mt_i130 xs oA dA) (show mt_at mt_c130 pc = some en from h), mt_findD mt_d130 (show mt_at mt_c130 pc = some en from h)⟩⟩
set_option maxRecDepth 100000 in
set_option maxHeartbeats 4000000 in
theorem mt_i131 : mt_All (mm_okI mt_Ts (mt_P xs) (mt_G oA dA) mt_cl mt_X mt_Mt mt_y131 mt_t131) mt_c131 := ⟨trivial, mt_f9_91, trivial, ⟨17, by decide⟩, trivial, trivial, Or.inr ⟨by decide, by decide, mt_m9_136 xs⟩, rfl, trivial, trivial, mt_f9_91, trivial, trivial, ⟨mt_f9_91, mt_p9_91 _⟩, trivial, mt_f9_11, trivial, mt_f9_91, trivial, trivial, trivial, trivial, trivial, Or.inr ⟨by decide, by decide, mt_m9_48 xs⟩, trivial, trivial, mt_f9_11, trivial, mt_f9_91, trivial, Or.inr ⟨by decide, by decide, mt_m9_52 xs⟩, rfl, trivial⟩
set_option maxRecDepth 100000 in
set_option maxHeartbeats 4000000 in
theorem mt_d131 : mt_c131.all (mt_ckD mt_b131) = true := by decide +kernel
theorem mt_g131 : mt_Good xs oA dA 131 := fun y bytes ret h => by
  obtain ⟨rfl, rfl, rfl⟩ := mt_inj (show some (mt_y131, mt_b131, mt_t131) = some (y, bytes, ret) from h)
  exact ⟨mt_pn9, fun pc en h => ⟨mt_find (mt_i131 xs oA dA) (show mt_at mt_c131 pc = some en from h), mt_findD mt_d131 (show mt_at mt_c131 pc = some en from h)⟩⟩
set_option maxRecDepth 100000 in
set_option maxHeartbeats 4000000 in
theorem mt_i132 : mt_All (mm_okI mt_Ts (mt_P xs) (mt_G oA dA) mt_cl mt_X mt_Mt mt_y132 mt_t132) mt_c132 := ⟨trivial, mt_f9_36, trivial, Or.inr ⟨by decide, by decide, mt_m9_42 xs⟩, trivial, trivial, trivial, trivial, trivial, Or.inr ⟨by decide, by decide, mt_m9_136 xs⟩, trivial, trivial, trivial, trivial, trivial, trivial, Or.inr ⟨by decide, by decide, mt_m9_158 xs⟩, rfl, trivial⟩
set_option maxRecDepth 100000 in
set_option maxHeartbeats 4000000 in
theorem mt_d132 : mt_c132.all (mt_ckD mt_b132) = true := by decide +kernel
theorem mt_g132 : mt_Good xs oA dA 132 := fun y bytes ret h => by
  obtain ⟨rfl, rfl, rfl⟩ := mt_inj (show some (mt_y132, mt_b132, mt_t132) = some (y, bytes, ret) from h)
  exact ⟨mt_pn9, fun pc en h => ⟨mt_find (mt_i132 xs oA dA) (show mt_at mt_c132 pc = some en from h), mt_findD mt_d132 (show mt_at mt_c132 pc = some en from h)⟩⟩
set_option maxRecDepth 100000 in
set_option maxHeartbeats 4000000 in
theorem mt_i133 : mt_All (mm_okI mt_Ts (mt_P xs) (mt_G oA dA) mt_cl mt_X mt_Mt mt_y133 mt_t133) mt_c133 := ⟨trivial, ⟨25, by decide⟩, trivial, trivial, mt_f9_29, trivial, ⟨25, by decide⟩, trivial, mt_f9_29, trivial, trivial, mt_f9_161, ⟨35, by decide⟩, trivial, trivial, Or.inr ⟨by decide, by decide, mt_m9_136 xs⟩, trivial, trivial, trivial, mt_f9_29, trivial, trivial, trivial, Or.inr ⟨by decide, by decide, mt_m9_142 xs⟩, rfl, trivial⟩
set_option maxRecDepth 100000 in
set_option maxHeartbeats 4000000 in
theorem mt_d133 : mt_c133.all (mt_ckD mt_b133) = true := by decide +kernel
theorem mt_g133 : mt_Good xs oA dA 133 := fun y bytes ret h => by
  obtain ⟨rfl, rfl, rfl⟩ := mt_inj (show some (mt_y133, mt_b133, mt_t133) = some (y, bytes, ret) from h)
  exact ⟨mt_pn9, fun pc en h => ⟨mt_find (mt_i133 xs oA dA) (show mt_at mt_c133 pc = some en from h), mt_findD mt_d133 (show mt_at mt_c133 pc = some en from h)⟩⟩
set_option maxRecDepth 100000 in
set_option maxHeartbeats 4000000 in
theorem mt_i134 : mt_All (mm_okI mt_Ts (mt_P xs) (mt_G oA dA) mt_cl mt_X mt_Mt mt_y134 mt_t134) mt_c134 := ⟨trivial, trivial, trivial, mt_f0_197, rfl, trivial, mt_f0_200, rfl, trivial, mt_f0_203, rfl, trivial, rfl, trivial⟩
set_option maxRecDepth 100000 in
set_option maxHeartbeats 4000000 in
theorem mt_d134 : mt_c134.all (mt_ckD mt_b134) = true := by decide +kernel
theorem mt_g134 : mt_Good xs oA dA 134 := fun y bytes ret h => by
  obtain ⟨rfl, rfl, rfl⟩ := mt_inj (show some (mt_y134, mt_b134, mt_t134) = some (y, bytes, ret) from h)
  exact ⟨mt_pn0, fun pc en h => ⟨mt_find (mt_i134 xs oA dA) (show mt_at mt_c134 pc = some en from h), mt_findD mt_d134 (show mt_at mt_c134 pc = some en from h)⟩⟩
set_option maxRecDepth 100000 in
set_option maxHeartbeats 4000000 in
theorem mt_i135 : mt_All (mm_okI mt_Ts (mt_P xs) (mt_G oA dA) mt_cl mt_X mt_Mt mt_y135 mt_t135) mt_c135 := ⟨trivial, trivial, ⟨22, by decide⟩, trivial, ⟨20, by decide⟩, trivial, trivial, mt_f0_21, mt_f0_219, ⟨22, by decide⟩, trivial, rfl, trivial, trivial, ⟨mt_f0_66, mt_p0_66 _⟩, trivial, rfl, trivial⟩
set_option maxRecDepth 100000 in
set_option maxHeartbeats 4000000 in
theorem mt_d135 : mt_c135.all (mt_ckD mt_b135) = true := by decide +kernel
theorem mt_g135 : mt_Good xs oA dA 135 := fun y bytes ret h => by
  obtain ⟨rfl, rfl, rfl⟩ := mt_inj (show some (mt_y135, mt_b135, mt_t135) = some (y, bytes, ret) from h)
  exact ⟨mt_pn0, fun pc en h => ⟨mt_find (mt_i135 xs oA dA) (show mt_at mt_c135 pc = some en from h), mt_findD mt_d135 (show mt_at mt_c135 pc = some en from h)⟩⟩
set_option maxRecDepth 100000 in
set_option maxHeartbeats 4000000 in
theorem mt_i136 : mt_All (mm_okI mt_Ts (mt_P xs) (mt_G oA dA) mt_cl mt_X mt_Mt mt_y136 mt_t136) mt_c136 := ⟨trivial, mt_f0_222, trivial, ⟨12, by decide⟩, trivial, rfl, trivial, trivial, mt_f0_222, trivial, trivial, ⟨mt_f0_222, mt_p0_222 _⟩, trivial, mt_f0_46, trivial, ⟨mt_f0_225, mt_p0_225 _⟩, trivial, mt_f0_46, trivial, ⟨mt_f0_228, mt_p0_228 _⟩, trivial, trivial, trivial, trivial, ⟨91, by decide⟩, trivial, mt_f0_31, trivial, trivial, trivial, Or.inr ⟨by decide, by decide, mt_m0_165 xs⟩, ⟨83, by decide⟩, trivial, mt_f0_46, trivial, mt_f0_27, trivial, trivial, trivial, mt_f0_66, trivial, mt_f0_222, Or.inr ⟨by decide, by decide, mt_m0_206 xs⟩, trivial, trivial, trivial, trivial, trivial, trivial, trivial, trivial, trivial, trivial, trivial, ⟨165, by decide⟩, trivial, mt_f0_37, trivial, trivial, trivial, trivial, mt_f0_99, ⟨137, by decide⟩, trivial, trivial, mt_f0_46, trivial, mt_f0_231, Or.inr ⟨by decide, by decide, mt_m0_235 xs⟩, trivial, mt_f0_46, mt_f0_210, Or.inr ⟨by decide, by decide, mt_m0_239 xs⟩, trivial, trivial, mt_f0_99, ⟨156, by decide⟩, trivial, mt_f0_243, ⟨156, by decide⟩, trivial, trivial, trivial, trivial, trivial, trivial, trivial, trivial, mt_f0_46, trivial, ⟨mt_f0_228, mt_p0_228 _⟩, trivial, trivial, mt_f0_55, trivial, mt_f0_62, trivial, Or.inr ⟨by decide, by decide, mt_m0_246 xs⟩, ⟨mt_f0_62, mt_p0_62 _⟩, trivial, Or.inr ⟨by decide, by decide, mt_m0_250 xs⟩, trivial, mt_f0_222, rfl, trivial⟩
set_option maxRecDepth 100000 in
set_option maxHeartbeats 4000000 in
theorem mt_d136 : mt_c136.all (mt_ckD mt_b136) = true := by decide +kernel
theorem mt_g136 : mt_Good xs oA dA 136 := fun y bytes ret h => by
  obtain ⟨rfl, rfl, rfl⟩ := mt_inj (show some (mt_y136, mt_b136, mt_t136) = some (y, bytes, ret) from h)
  exact ⟨mt_pn0, fun pc en h => ⟨mt_find (mt_i136 xs oA dA) (show mt_at mt_c136 pc = some en from h), mt_findD mt_d136 (show mt_at mt_c136 pc = some en from h)⟩⟩
set_option maxRecDepth 100000 in
set_option maxHeartbeats 4000000 in
theorem mt_i137 : mt_All (mm_okI mt_Ts (mt_P xs) (mt_G oA dA) mt_cl mt_X mt_Mt mt_y137 mt_t137) mt_c137 := ⟨trivial, Or.inr ⟨by decide, by decide, mt_m9_33 xs⟩, trivial, trivial, trivial, Or.inr ⟨by decide, by decide, mt_m9_56 xs⟩, rfl, trivial⟩
set_option maxRecDepth 100000 in
set_option maxHeartbeats 4000000 in
theorem mt_d137 : mt_c137.all (mt_ckD mt_b137) = true := by decide +kernel
theorem mt_g137 : mt_Good xs oA dA 137 := fun y bytes ret h => by
  obtain ⟨rfl, rfl, rfl⟩ := mt_inj (show some (mt_y137, mt_b137, mt_t137) = some (y, bytes, ret) from h)
  exact ⟨mt_pn9, fun pc en h => ⟨mt_find (mt_i137 xs oA dA) (show mt_at mt_c137 pc = some en from h), mt_findD mt_d137 (show mt_at mt_c137 pc = some en from h)⟩⟩
set_option maxRecDepth 100000 in
set_option maxHeartbeats 4000000 in
theorem mt_i138 : mt_All (mm_okI mt_Ts (mt_P xs) (mt_G oA dA) mt_cl mt_X mt_Mt mt_y138 mt_t138) mt_c138 := ⟨trivial, trivial, ⟨15, by decide⟩, trivial, trivial, mt_f14_32, trivial, trivial, ⟨mt_f14_32, mt_p14_32 _⟩, trivial, trivial, ⟨43, by decide⟩, trivial, trivial, ⟨mt_f14_26, mt_p14_26 _⟩, trivial, trivial, ⟨mt_f14_36, mt_p14_36 _⟩, trivial, trivial, ⟨39, by decide⟩, trivial, trivial, trivial, ⟨mt_f14_39, mt_p14_39 _⟩, rfl, trivial⟩
set_option maxRecDepth 100000 in
set_option maxHeartbeats 4000000 in
theorem mt_d138 : mt_c138.all (mt_ckD mt_b138) = true := by decide +kernel
theorem mt_g138 : mt_Good xs oA dA 138 := fun y bytes ret h => by
  obtain ⟨rfl, rfl, rfl⟩ := mt_inj (show some (mt_y138, mt_b138, mt_t138) = some (y, bytes, ret) from h)
  exact ⟨mt_pn14, fun pc en h => ⟨mt_find (mt_i138 xs oA dA) (show mt_at mt_c138 pc = some en from h), mt_findD mt_d138 (show mt_at mt_c138 pc = some en from h)⟩⟩
set_option maxRecDepth 100000 in
set_option maxHeartbeats 4000000 in
theorem mt_i139 : mt_All (mm_okI mt_Ts (mt_P xs) (mt_G oA dA) mt_cl mt_X mt_Mt mt_y139 mt_t139) mt_c139 := ⟨trivial, mt_f11_53, trivial, trivial, trivial, trivial, ⟨_, rfl, Or.inl ⟨_, rfl⟩⟩, trivial, ⟨46, by decide⟩, trivial, trivial, mt_f11_77, trivial, trivial, ⟨mt_f11_77, mt_p11_77 _⟩, trivial, mt_f11_77, trivial, ⟨44, by decide⟩, trivial, trivial, ⟨mt_f11_74, mt_p11_74 _⟩, trivial, trivial, ⟨mt_f11_53, mt_p11_53 _⟩, trivial, ⟨_, rfl, Or.inl ⟨_, rfl⟩⟩, trivial, trivial, ⟨mt_f11_53, mt_p11_53 _⟩, trivial, Or.inr ⟨by decide, by decide, mt_m11_80 xs⟩, trivial, trivial, trivial, trivial, trivial, Or.inr ⟨by decide, by decide, mt_m11_86 xs⟩, ⟨86, by decide⟩, trivial, trivial, trivial, Or.inr ⟨by decide, by decide, mt_m11_90 xs⟩, ⟨86, by decide⟩, trivial, trivial, Or.inr ⟨by decide, by decide, mt_m11_94 xs⟩, ⟨93, by decide⟩, trivial, trivial, ⟨mt_f11_74, mt_p11_74 _⟩, trivial, ⟨_, rfl, Or.inl ⟨_, rfl⟩⟩, trivial, trivial, trivial, trivial, ⟨126, by decide⟩, trivial, mt_f11_40, trivial, trivial, trivial, mt_f11_11, trivial, trivial, Or.inr ⟨by decide, by decide, mt_m11_98 xs⟩, trivial, trivial, trivial, trivial, mt_f11_64, trivial, trivial, ⟨mt_f11_64, mt_p11_64 _⟩, trivial, trivial, ⟨mt_f11_74, mt_p11_74 _⟩, trivial, trivial, ⟨mt_f11_57, mt_p11_57 _⟩, trivial, trivial, ⟨mt_f11_60, mt_p11_60 _⟩, trivial, ⟨_, rfl, Or.inl ⟨_, rfl⟩⟩, trivial⟩
set_option maxRecDepth 100000 in
set_option maxHeartbeats 4000000 in
theorem mt_d139 : mt_c139.all (mt_ckD mt_b139) = true := by decide +kernel
theorem mt_g139 : mt_Good xs oA dA 139 := fun y bytes ret h => by
  obtain ⟨rfl, rfl, rfl⟩ := mt_inj (show some (mt_y139, mt_b139, mt_t139) = some (y, bytes, ret) from h)
  exact ⟨mt_pn11, fun pc en h => ⟨mt_find (mt_i139 xs oA dA) (show mt_at mt_c139 pc = some en from h), mt_findD mt_d139 (show mt_at mt_c139 pc = some en from h)⟩⟩
set_option maxRecDepth 100000 in
set_option maxHeartbeats 4000000 in
theorem mt_i140 : mt_All (mm_okI mt_Ts (mt_P xs) (mt_G oA dA) mt_cl mt_X mt_Mt mt_y140 mt_t140) mt_c140 := ⟨mt_n13_12 xs, trivial, Or.inr ⟨rfl, mt_m13_24 xs⟩, trivial, trivial, trivial, mt_f13_17, ⟨mt_f13_17, mt_p13_17 _⟩, trivial, trivial, trivial, trivial, mt_f13_17, ⟨47, by decide⟩, trivial, mt_f13_11, trivial, trivial, mt_f13_11, trivial, trivial, Or.inr ⟨by decide, by decide, mt_m13_25 xs⟩, trivial, trivial, trivial, trivial, trivial, trivial, trivial, mt_f13_17, ⟨98, by decide⟩, trivial, mt_f13_11, trivial, trivial, mt_f13_29, trivial, trivial, mt_f13_11, trivial, trivial, trivial, trivial, trivial, trivial, trivial, trivial, mt_f13_21, Or.inr ⟨by decide, by decide, mt_m13_33 xs⟩, ⟨mt_f13_29, mt_p13_29 _⟩, trivial, trivial, trivial, ⟨_, rfl, Or.inl ⟨_, rfl⟩⟩, trivial⟩
set_option maxRecDepth 100000 in
set_option maxHeartbeats 4000000 in
theorem mt_d140 : mt_c140.all (mt_ckD mt_b140) = true := by decide +kernel
theorem mt_g140 : mt_Good xs oA dA 140 := fun y bytes ret h => by
  obtain ⟨rfl, rfl, rfl⟩ := mt_inj (show some (mt_y140, mt_b140, mt_t140) = some (y, bytes, ret) from h)
  exact ⟨mt_pn13, fun pc en h => ⟨mt_find (mt_i140 xs oA dA) (show mt_at mt_c140 pc = some en from h), mt_findD mt_d140 (show mt_at mt_c140 pc = some en from h)⟩⟩
set_option maxRecDepth 100000 in
set_option maxHeartbeats 4000000 in
theorem mt_i141 : mt_All (mm_okI mt_Ts (mt_P xs) (mt_G oA dA) mt_cl mt_X mt_Mt mt_y141 mt_t141) mt_c141 := ⟨mt_n18_10 xs, trivial, trivial, mt_f18_52, Or.inr ⟨rfl, mt_m18_56 xs⟩, trivial, trivial, trivial, mt_f18_59, ⟨mt_f18_59, mt_p18_59 _⟩, trivial, trivial, mt_f18_62, ⟨mt_f18_62, mt_p18_62 _⟩, trivial, mt_f18_9, trivial, trivial, mt_f18_9, trivial, trivial, mt_f18_62, Or.inl ⟨rfl, mt_in4 (i := 227) rfl, mt_in4 (i := 16) rfl, mt_in4 (i := 15) rfl, mt_in1 (i := 23) rfl⟩, trivial, mt_f18_15, trivial, trivial, mt_f18_15, trivial, trivial, mt_f18_62, Or.inl ⟨rfl, mt_in4 (i := 227) rfl, mt_in4 (i := 16) rfl, mt_in4 (i := 15) rfl, mt_in1 (i := 23) rfl⟩, trivial, mt_f18_9, trivial, trivial, mt_f18_18, trivial, trivial, mt_f18_62, Or.inl ⟨rfl, mt_in4 (i := 227) rfl, mt_in4 (i := 16) rfl, mt_in4 (i := 15) rfl, mt_in1 (i := 23) rfl⟩, trivial, trivial, mt_f18_71, ⟨mt_f18_71, mt_p18_71 _⟩, trivial, mt_f18_21, trivial, trivial, mt_f18_21, trivial, trivial, mt_f18_71, Or.inl ⟨rfl, mt_in4 (i := 227) rfl, mt_in4 (i := 16) rfl, mt_in4 (i := 15) rfl, mt_in1 (i := 23) rfl⟩, trivial, mt_f18_24, trivial, trivial, mt_f18_24, trivial, trivial, mt_f18_71, Or.inl ⟨rfl, mt_in4 (i := 227) rfl, mt_in4 (i := 16) rfl, mt_in4 (i := 15) rfl, mt_in1 (i := 23) rfl⟩, trivial, trivial, mt_f18_74, ⟨mt_f18_74, mt_p18_74 _⟩, trivial, mt_f18_27, trivial, trivial, mt_f18_27, trivial, trivial, mt_f18_74, Or.inl ⟨rfl, mt_in4 (i := 227) rfl, mt_in4 (i := 16) rfl, mt_in4 (i := 15) rfl, mt_in1 (i := 23) rfl⟩, trivial, mt_f18_31, trivial, trivial, mt_f18_31, trivial, trivial, mt_f18_74, Or.inl ⟨rfl, mt_in4 (i := 227) rfl, mt_in4 (i := 16) rfl, mt_in4 (i := 15) rfl, mt_in1 (i := 23) rfl⟩, trivial, ⟨_, rfl, Or.inl ⟨_, rfl⟩⟩, trivial⟩
set_option maxRecDepth 100000 in
set_option maxHeartbeats 4000000 in
theorem mt_d141 : mt_c141.all (mt_ckD mt_b141) = true := by decide +kernel
theorem mt_g141 : mt_Good xs oA dA 141 := fun y bytes ret h => by
  obtain ⟨rfl, rfl, rfl⟩ := mt_inj (show some (mt_y141, mt_b141, mt_t141) = some (y, bytes, ret) from h)
  exact ⟨mt_pn18, fun pc en h => ⟨mt_find (mt_i141 xs oA dA) (show mt_at mt_c141 pc = some en from h), mt_findD mt_d141 (show mt_at mt_c141 pc = some en from h)⟩⟩
set_option maxRecDepth 100000 in
set_option maxHeartbeats 4000000 in
theorem mt_i142 : mt_All (mm_okI mt_Ts (mt_P xs) (mt_G oA dA) mt_cl mt_X mt_Mt mt_y142 mt_t142) mt_c142 := ⟨trivial, trivial, trivial, trivial, mt_f11_102, Or.inr ⟨by decide, by decide, mt_m11_106 xs⟩, ⟨61, by decide⟩, trivial, mt_f11_102, trivial, Or.inr ⟨by decide, by decide, mt_m11_112 xs⟩, mt_k11_116, trivial, trivial, trivial, Or.inr ⟨by decide, by decide, mt_m11_118 xs⟩, trivial, trivial, ⟨55, by decide⟩, trivial, trivial, trivial, mt_f11_122, trivial, Or.inr ⟨by decide, by decide, mt_m11_125 xs⟩, rfl, trivial, trivial, trivial, Or.inr ⟨by decide, by decide, mt_m11_129 xs⟩, ⟨77, by decide⟩, trivial, trivial, trivial, trivial, Or.inr ⟨by decide, by decide, mt_m11_125 xs⟩, rfl, trivial, trivial, trivial, mt_f11_64, trivial, trivial, Or.inr ⟨by decide, by decide, mt_m11_132 xs⟩, trivial, rfl, trivial⟩
set_option maxRecDepth 100000 in
set_option maxHeartbeats 4000000 in
theorem mt_d142 : mt_c142.all (mt_ckD mt_b142) = true := by decide +kernel
theorem mt_g142 : mt_Good xs oA dA 142 := fun y bytes ret h => by
  obtain ⟨rfl, rfl, rfl⟩ := mt_inj (show some (mt_y142, mt_b142, mt_t142) = some (y, bytes, ret) from h)
  exact ⟨mt_pn11, fun pc en h => ⟨mt_find (mt_i142 xs oA dA) (show mt_at mt_c142 pc = some en from h), mt_findD mt_d142 (show mt_at mt_c142 pc = some en from h)⟩⟩
set_option maxRecDepth 100000 in
set_option maxHeartbeats 4000000 in
theorem mt_i143 : mt_All (mm_okI mt_Ts (mt_P xs) (mt_G oA dA) mt_cl mt_X mt_Mt mt_y143 mt_t143) mt_c143 := ⟨trivial, mt_f6_48, rfl, trivial⟩
set_option maxRecDepth 100000 in
set_option maxHeartbeats 4000000 in
theorem mt_d143 : mt_c143.all (mt_ckD mt_b143) = true := by decide +kernel
theorem mt_g143 : mt_Good xs oA dA 143 := fun y bytes ret h => by
  obtain ⟨rfl, rfl, rfl⟩ := mt_inj (show some (mt_y143, mt_b143, mt_t143) = some (y, bytes, ret) from h)
  exact ⟨mt_pn6, fun pc en h => ⟨mt_find (mt_i143 xs oA dA) (show mt_at mt_c143 pc = some en from h), mt_findD mt_d143 (show mt_at mt_c143 pc = some en from h)⟩⟩
set_option maxRecDepth 100000 in
set_option maxHeartbeats 4000000 in
theorem mt_i144 : mt_All (mm_okI mt_Ts (mt_P xs) (mt_G oA dA) mt_cl mt_X mt_Mt mt_y144 mt_t144) mt_c144 := ⟨trivial, trivial, mt_f6_48, Or.inr (Or.inr (Or.inr ⟨rfl, mt_m6_118 xs⟩)), trivial, trivial, trivial, Or.inr ⟨by decide, by decide, mt_m6_123 xs⟩, ⟨_, rfl, Or.inl ⟨_, rfl⟩⟩, trivial⟩
set_option maxRecDepth 100000 in
set_option maxHeartbeats 4000000 in
theorem mt_d144 : mt_c144.all (mt_ckD mt_b144) = true := by decide +kernel
theorem mt_g144 : mt_Good xs oA dA 144 := fun y bytes ret h => by
  obtain ⟨rfl, rfl, rfl⟩ := mt_inj (show some (mt_y144, mt_b144, mt_t144) = some (y, bytes, ret) from h)
  exact ⟨mt_pn6, fun pc en h => ⟨mt_find (mt_i144 xs oA dA) (show mt_at mt_c144 pc = some en from h), mt_findD mt_d144 (show mt_at mt_c144 pc = some en from h)⟩⟩
set_option maxRecDepth 100000 in
set_option maxHeartbeats 4000000 in
theorem mt_i145 : mt_All (mm_okI mt_Ts (mt_P xs) (mt_G oA dA) mt_cl mt_X mt_Mt mt_y145 mt_t145) mt_c145 := ⟨trivial, trivial, trivial, Or.inr (Or.inr (Or.inr ⟨rfl, mt_m20_105 xs⟩)), rfl, trivial⟩
set_option maxRecDepth 100000 in
set_option maxHeartbeats 4000000 in
theorem mt_d145 : mt_c145.all (mt_ckD mt_b145) = true := by decide +kernel
theorem mt_g145 : mt_Good xs oA dA 145 := fun y bytes ret h => by
  obtain ⟨rfl, rfl, rfl⟩ := mt_inj (show some (mt_y145, mt_b145, mt_t145) = some (y, bytes, ret) from h)
  exact ⟨mt_pn20, fun pc en h => ⟨mt_find (mt_i145 xs oA dA) (show mt_at mt_c145 pc = some en from h), mt_findD mt_d145 (show mt_at mt_c145 pc = some en from h)⟩⟩
set_option maxRecDepth 100000 in
set_option maxHeartbeats 4000000 in
theorem mt_i146 : mt_All (mm_okI mt_Ts (mt_P xs) (mt_G oA dA) mt_cl mt_X mt_Mt mt_y146 mt_t146) mt_c146 := ⟨trivial, mt_f6_9, trivial, trivial, ⟨_, rfl, Or.inl ⟨_, rfl⟩⟩, trivial⟩
set_option maxRecDepth 100000 in
set_option maxHeartbeats 4000000 in
theorem mt_d146 : mt_c146.all (mt_ckD mt_b146) = true := by decide +kernel
theorem mt_g146 : mt_Good xs oA dA 146 := fun y bytes ret h => by
  obtain ⟨rfl, rfl, rfl⟩ := mt_inj (show some (mt_y146, mt_b146, mt_t146) = some (y, bytes, ret) from h)
  exact ⟨mt_pn6, fun pc en h => ⟨mt_find (mt_i146 xs oA dA) (show mt_at mt_c146 pc = some en from h), mt_findD mt_d146 (show mt_at mt_c146 pc = some en from h)⟩⟩
set_option maxRecDepth 100000 in
set_option maxHeartbeats 4000000 in
theorem mt_i147 : mt_All (mm_okI mt_Ts (mt_P xs) (mt_G oA dA) mt_cl mt_X mt_Mt mt_y147 mt_t147) mt_c147 := ⟨trivial, mt_f13_37, trivial, ⟨16, by decide⟩, trivial, trivial, Or.inr ⟨by decide, by decide, mt_m13_42 xs⟩, rfl, trivial, trivial, mt_f13_46, Or.inr ⟨by decide, by decide, mt_m13_33 xs⟩, trivial, trivial, trivial, trivial, rfl, trivial, mt_f13_37, trivial, trivial, trivial, ⟨mt_f13_49, mt_p13_49 _⟩, trivial, rfl, trivial, trivial, Or.inr ⟨by decide, by decide, mt_m13_53 xs⟩, rfl, trivial, trivial, trivial, mt_f13_57, Or.inr ⟨by decide, by decide, mt_m13_60 xs⟩, rfl, trivial, rfl, trivial, trivial, Or.inr ⟨by decide, by decide, mt_m13_64 xs⟩, rfl, trivial⟩
set_option maxRecDepth 100000 in
set_option maxHeartbeats 4000000 in
theorem mt_d147 : mt_c147.all (mt_ckD mt_b147) = true := by decide +kernel
theorem mt_g147 : mt_Good xs oA dA 147 := fun y bytes ret h => by
  obtain ⟨rfl, rfl, rfl⟩ := mt_inj (show some (mt_y147, mt_b147, mt_t147) = some (y, bytes, ret) from h)
  exact ⟨mt_pn13, fun pc en h => ⟨mt_find (mt_i147 xs oA dA) (show mt_at mt_c147 pc = some en from h), mt_findD mt_d147 (show mt_at mt_c147 pc = some en from h)⟩⟩
set_option maxRecDepth 100000 in
set_option maxHeartbeats 4000000 in
theorem mt_i148 : mt_All (mm_okI mt_Ts (mt_P xs) (mt_G oA dA) mt_cl mt_X mt_Mt mt_y148 mt_t148) mt_c148 := ⟨trivial, trivial, trivial, trivial, trivial, trivial, mt_f13_17, ⟨46, by decide⟩, trivial, mt_f13_11, trivial, trivial, mt_f13_29, trivial, ⟨28, by decide⟩, trivial, rfl, trivial, mt_f13_11, trivial, trivial, trivial, ⟨40, by decide⟩, trivial, trivial, trivial, trivial, trivial, trivial, ⟨94, by decide⟩, trivial, mt_f13_11, trivial, trivial, trivial, trivial, mt_f13_11, trivial, trivial, mt_f13_17, trivial, trivial, trivial, trivial, Or.inl ⟨rfl, mt_in6 (i := 34) rfl, mt_in4 (i := 16) rfl, mt_in4 (i := 15) rfl, mt_in1 (i := 23) rfl⟩, trivial, trivial, mt_f13_17, trivial, trivial, ⟨mt_f13_17, mt_p13_17 _⟩, trivial, mt_f13_11, trivial, mt_f13_17, trivial, trivial, trivial, rfl, trivial⟩
set_option maxRecDepth 100000 in
set_option maxHeartbeats 4000000 in
theorem mt_d148 : mt_c148.all (mt_ckD mt_b148) = true := by decide +kernel
theorem mt_g148 : mt_Good xs oA dA 148 := fun y bytes ret h => by
  obtain ⟨rfl, rfl, rfl⟩ := mt_inj (show some (mt_y148, mt_b148, mt_t148) = some (y, bytes, ret) from h)
  exact ⟨mt_pn13, fun pc en h => ⟨mt_find (mt_i148 xs oA dA) (show mt_at mt_c148 pc = some en from h), mt_findD mt_d148 (show mt_at mt_c148 pc = some en from h)⟩⟩
set_option maxRecDepth 100000 in
set_option maxHeartbeats 4000000 in
theorem mt_i149 : mt_All (mm_okI mt_Ts (mt_P xs) (mt_G oA dA) mt_cl mt_X mt_Mt mt_y149 mt_t149) mt_c149 := ⟨trivial, trivial, Or.inr ⟨by decide, by decide, mt_m13_33 xs⟩, trivial, trivial, trivial, ⟨17, by decide⟩, trivial, trivial, trivial, rfl, trivial, trivial, trivial, trivial, mt_f13_21, Or.inr ⟨by decide, by decide, mt_m13_76 xs⟩, ⟨34, by decide⟩, trivial, rfl, trivial, trivial, ⟨mt_f13_29, mt_p13_29 _⟩, trivial, trivial, ⟨mt_f13_49, mt_p13_49 _⟩, trivial, rfl, trivial⟩
set_option maxRecDepth 100000 in
set_option maxHeartbeats 4000000 in
theorem mt_d149 : mt_c149.all (mt_ckD mt_b149) = true := by decide +kernel
theorem mt_g149 : mt_Good xs oA dA 149 := fun y bytes ret h => by
  obtain ⟨rfl, rfl, rfl⟩ := mt_inj (show some (mt_y149, mt_b149, mt_t149) = some (y, bytes, ret) from h)
  exact ⟨mt_pn13, fun pc en h => ⟨mt_find (mt_i149 xs oA dA) (show mt_at mt_c149 pc = some en from h), mt_findD mt_d149 (show mt_at mt_c149 pc = some en from h)⟩⟩
set_option maxRecDepth 100000 in
set_option maxHeartbeats 4000000 in
theorem mt_i150 : mt_All (mm_okI mt_Ts (mt_P xs) (mt_G oA dA) mt_cl mt_X mt_Mt mt_y150 mt_t150) mt_c150 := ⟨trivial, trivial, trivial, trivial, trivial, mt_f18_52, trivial, ⟨16, by decide⟩, trivial, rfl, trivial, mt_f18_81, trivial, trivial, trivial, rfl, trivial⟩
set_option maxRecDepth 100000 in
set_option maxHeartbeats 4000000 in
theorem mt_d150 : mt_c150.all (mt_ckD mt_b150) = true := by decide +kernel
theorem mt_g150 : mt_Good xs oA dA 150 := fun y bytes ret h => by
  obtain ⟨rfl, rfl, rfl⟩ := mt_inj (show some (mt_y150, mt_b150, mt_t150) = some (y, bytes, ret) from h)
  exact ⟨mt_pn18, fun pc en h => ⟨mt_find (mt_i150 xs oA dA) (show mt_at mt_c150 pc = some en from h), mt_findD mt_d150 (show mt_at mt_c150 pc = some en from h)⟩⟩
set_option maxRecDepth 100000 in
set_option maxHeartbeats 4000000 in
theorem mt_i151 : mt_All (mm_okI mt_Ts (mt_P xs) (mt_G oA dA) mt_cl mt_X mt_Mt mt_y151 mt_t151) mt_c151 := ⟨trivial, trivial, ⟨mt_f11_136, mt_p11_136 _⟩, trivial, trivial, ⟨mt_f11_23, mt_p11_23 _⟩, trivial, trivial, ⟨mt_f11_27, mt_p11_27 _⟩, trivial, rfl, trivial⟩
set_option maxRecDepth 100000 in
set_option maxHeartbeats 4000000 in
theorem mt_d151 : mt_c151.all (mt_ckD mt_b151) = true := by decide +kernel
theorem mt_g151 : mt_Good xs oA dA 151 := fun y bytes ret h => by
  obtain ⟨rfl, rfl, rfl⟩ := mt_inj (show some (mt_y151, mt_b151, mt_t151) = some (y, bytes, ret) from h)
  exact ⟨mt_pn11, fun pc en h => ⟨mt_find (mt_i151 xs oA dA) (show mt_at mt_c151 pc = some en from h), mt_findD mt_d151 (show mt_at mt_c151 pc = some en from h)⟩⟩
set_option maxRecDepth 100000 in
set_option maxHeartbeats 4000000 in
theorem mt_i152 : mt_All (mm_okI mt_Ts (mt_P xs) (mt_G oA dA) mt_cl mt_X mt_Mt mt_y152 mt_t152) mt_c152 := ⟨trivial, trivial, trivial, trivial, mt_f13_17, ⟨108, by decide⟩, trivial, mt_f13_11, trivial, trivial, trivial, trivial, mt_f13_29, trivial, trivial, trivial, trivial, trivial, trivial, trivial, mt_f13_80, ⟨60, by decide⟩, trivial, trivial, mt_f13_83, trivial, trivial, Or.inr ⟨by decide, by decide, mt_m13_87 xs⟩, ⟨54, by decide⟩, trivial, rfl, trivial, trivial, trivial, trivial, trivial, trivial, mt_f13_90, ⟨94, by decide⟩, trivial, trivial, mt_f13_93, trivial, trivial, Or.inr ⟨by decide, by decide, mt_m13_87 xs⟩, ⟨88, by decide⟩, trivial, rfl, trivial, trivial, trivial, mt_f13_29, trivial, trivial, trivial, trivial, trivial, rfl, trivial⟩
set_option maxRecDepth 100000 in
set_option maxHeartbeats 4000000 in
theorem mt_d152 : mt_c152.all (mt_ckD mt_b152) = true := by decide +kernel
theorem mt_g152 : mt_Good xs oA dA 152 := fun y bytes ret h => by
  obtain ⟨rfl, rfl, rfl⟩ := mt_inj (show some (mt_y152, mt_b152, mt_t152) = some (y, bytes, ret) from h)
  exact ⟨mt_pn13, fun pc en h => ⟨mt_find (mt_i152 xs oA dA) (show mt_at mt_c152 pc = some en from h), mt_findD mt_d152 (show mt_at mt_c152 pc = some en from h)⟩⟩
end MTI26
