/-! each entry of each method -/
section MTI27
variable (xs : List Int32) (oA : Nat → Nat) (dA : Nat → ClassId)
set_option maxRecDepth 100000 in
set_option maxHeartbeats 4000000 in
theorem mt_i153 : mt_All (mm_okI mt_Ts (mt_P xs) (mt_G oA dA) mt_cl mt_X mt_Mt mt_y153 mt_t153) mt_c153 := ⟨trivial, trivial, trivial, trivial, ⟨112, by decide⟩, trivial, mt_f11_40, trivial, trivial, trivial, trivial, mt_f11_11, trivial, trivial, trivial, trivial, trivial, Or.inr ⟨by decide, by decide, mt_m11_98 xs⟩, trivial, mt_f11_139, ⟨42, by decide⟩, trivial, trivial, trivial, mt_f11_143, mt_f11_147, Or.inr ⟨by decide, by decide, mt_m11_150 xs⟩, trivial, trivial, trivial, trivial, trivial, ⟨mt_f11_139, mt_p11_139 _⟩, trivial, trivial, trivial, ⟨mt_f11_143, mt_p11_143 _⟩, trivial, mt_f11_154, trivial, mt_f11_64, trivial, trivial, ⟨106, by decide⟩, trivial, trivial, trivial, trivial, trivial, Or.inr ⟨by decide, by decide, mt_m11_155 xs⟩, ⟨106, by decide⟩, trivial, rfl, trivial, trivial, trivial, rfl, trivial⟩
set_option maxRecDepth 100000 in
set_option maxHeartbeats 4000000 in
theorem mt_d153 : mt_c153.all (mt_ckD mt_b153) = true := by decide +kernel
theorem mt_g153 : mt_Good xs oA dA 153 := fun y bytes ret h => by
  obtain ⟨rfl, rfl, rfl⟩ := mt_inj (show some (mt_y153, mt_b153, mt_t153) = some (y, bytes, ret) from h)
  exact ⟨mt_pn11, fun pc en h => ⟨mt_find (mt_i153 xs oA dA) (show mt_at mt_c153 pc = some en from h), mt_findD mt_d153 (show mt_at mt_c153 pc = some en from h)⟩⟩
set_option maxRecDepth 100000 in
set_option maxHeartbeats 4000000 in
theorem mt_i154 : mt_All (mm_okI mt_Ts (mt_P xs) (mt_G oA dA) mt_cl mt_X mt_Mt mt_y154 mt_t154) mt_c154 := ⟨trivial, trivial, mt_f12_26, ⟨mt_f12_26, mt_p12_26 _⟩, trivial, trivial, mt_f12_30, ⟨mt_f12_30, mt_p12_30 _⟩, trivial, mt_f12_9, trivial, trivial, mt_f12_9, trivial, trivial, Or.inl ⟨rfl, mt_in6 (i := 62) rfl, mt_in4 (i := 16) rfl, mt_in4 (i := 15) rfl, mt_in1 (i := 23) rfl⟩, trivial, mt_f12_15, trivial, trivial, mt_f12_15, trivial, trivial, Or.inl ⟨rfl, mt_in6 (i := 62) rfl, mt_in4 (i := 16) rfl, mt_in4 (i := 15) rfl, mt_in1 (i := 23) rfl⟩, trivial, mt_f12_19, trivial, trivial, mt_f12_19, trivial, trivial, Or.inl ⟨rfl, mt_in6 (i := 62) rfl, mt_in4 (i := 16) rfl, mt_in4 (i := 15) rfl, mt_in1 (i := 23) rfl⟩, rfl, trivial⟩
set_option maxRecDepth 100000 in
set_option maxHeartbeats 4000000 in
theorem mt_d154 : mt_c154.all (mt_ckD mt_b154) = true := by decide +kernel
theorem mt_g154 : mt_Good xs oA dA 154 := fun y bytes ret h => by
  obtain ⟨rfl, rfl, rfl⟩ := mt_inj (show some (mt_y154, mt_b154, mt_t154) = some (y, bytes, ret) from h)
  exact ⟨mt_pn12, fun pc en h => ⟨mt_find (mt_i154 xs oA dA) (show mt_at mt_c154 pc = some en from h), mt_findD mt_d154 (show mt_at mt_c154 pc = some en from h)⟩⟩
set_option maxRecDepth 100000 in
set_option maxHeartbeats 4000000 in
theorem mt_i155 : mt_All (mm_okI mt_Ts (mt_P xs) (mt_G oA dA) mt_cl mt_X mt_Mt mt_y155 mt_t155) mt_c155 := ⟨trivial, mt_f11_36, trivial, Or.inr (Or.inr (Or.inr ⟨rfl, mt_m11_159 xs⟩)), trivial, trivial, mt_f11_143, Or.inr ⟨by decide, by decide, mt_m11_165 xs⟩, trivial, trivial, trivial, trivial, ⟨196, by decide⟩, trivial, mt_f11_32, trivial, trivial, trivial, trivial, trivial, trivial, trivial, mt_f11_169, ⟨190, by decide⟩, trivial, mt_f11_172, trivial, trivial, trivial, trivial, trivial, trivial, trivial, mt_f11_143, Or.inr ⟨by decide, by decide, mt_m11_175 xs⟩, trivial, trivial, mt_f11_179, trivial, trivial, trivial, ⟨96, by decide⟩, trivial, mt_f11_182, trivial, trivial, trivial, trivial, mt_f11_179, trivial, trivial, trivial, trivial, trivial, ⟨119, by decide⟩, trivial, mt_f11_36, trivial, trivial, trivial, trivial, trivial, mt_f11_143, trivial, Or.inr ⟨by decide, by decide, mt_m11_185 xs⟩, trivial, trivial, trivial, trivial, mt_f11_43, trivial, trivial, mt_f11_189, Or.inr ⟨by decide, by decide, mt_m11_192 xs⟩, ⟨169, by decide⟩, trivial, trivial, trivial, mt_f11_122, trivial, mt_f11_198, Or.inr ⟨by decide, by decide, mt_m11_125 xs⟩, rfl, trivial, mt_f11_179, trivial, trivial, mt_f11_43, mt_f11_201, trivial, trivial, trivial, trivial, trivial, trivial, trivial, trivial, Or.inr ⟨by decide, by decide, mt_m11_204 xs⟩, trivial, rfl, trivial⟩
set_option maxRecDepth 100000 in
set_option maxHeartbeats 4000000 in
theorem mt_d155 : mt_c155.all (mt_ckD mt_b155) = true := by decide +kernel
theorem mt_g155 : mt_Good xs oA dA 155 := fun y bytes ret h => by
  obtain ⟨rfl, rfl, rfl⟩ := mt_inj (show some (mt_y155, mt_b155, mt_t155) = some (y, bytes, ret) from h)
  exact ⟨mt_pn11, fun pc en h => ⟨mt_find (mt_i155 xs oA dA) (show mt_at mt_c155 pc = some en from h), mt_findD mt_d155 (show mt_at mt_c155 pc = some en from h)⟩⟩
set_option maxRecDepth 100000 in
set_option maxHeartbeats 4000000 in
theorem mt_i156 : mt_All (mm_okI mt_Ts (mt_P xs) (mt_G oA dA) mt_cl mt_X mt_Mt mt_y156 mt_t156) mt_c156 := ⟨trivial, trivial, trivial, trivial, trivial, trivial, trivial, ⟨20, by decide⟩, trivial, trivial, trivial, trivial, trivial, trivial, rfl, trivial⟩
set_option maxRecDepth 100000 in
set_option maxHeartbeats 4000000 in
theorem mt_d156 : mt_c156.all (mt_ckD mt_b156) = true := by decide +kernel
theorem mt_g156 : mt_Good xs oA dA 156 := fun y bytes ret h => by
  obtain ⟨rfl, rfl, rfl⟩ := mt_inj (show some (mt_y156, mt_b156, mt_t156) = some (y, bytes, ret) from h)
  exact ⟨mt_pn17, fun pc en h => ⟨mt_find (mt_i156 xs oA dA) (show mt_at mt_c156 pc = some en from h), mt_findD mt_d156 (show mt_at mt_c156 pc = some en from h)⟩⟩
set_option maxRecDepth 100000 in
set_option maxHeartbeats 4000000 in
theorem mt_i157 : mt_All (mm_okI mt_Ts (mt_P xs) (mt_G oA dA) mt_cl mt_X mt_Mt mt_y157 mt_t157) mt_c157 := ⟨trivial, trivial, trivial, trivial, trivial, trivial, trivial, trivial, ⟨32, by decide⟩, trivial, mt_f11_32, trivial, trivial, trivial, trivial, trivial, mt_f11_215, trivial, trivial, trivial, rfl, trivial⟩
set_option maxRecDepth 100000 in
set_option maxHeartbeats 4000000 in
theorem mt_d157 : mt_c157.all (mt_ckD mt_b157) = true := by decide +kernel
theorem mt_g157 : mt_Good xs oA dA 157 := fun y bytes ret h => by
  obtain ⟨rfl, rfl, rfl⟩ := mt_inj (show some (mt_y157, mt_b157, mt_t157) = some (y, bytes, ret) from h)
  exact ⟨mt_pn11, fun pc en h => ⟨mt_find (mt_i157 xs oA dA) (show mt_at mt_c157 pc = some en from h), mt_findD mt_d157 (show mt_at mt_c157 pc = some en from h)⟩⟩
set_option maxRecDepth 100000 in
set_option maxHeartbeats 4000000 in
theorem mt_i158 : mt_All (mm_okI mt_Ts (mt_P xs) (mt_G oA dA) mt_cl mt_X mt_Mt mt_y158 mt_t158) mt_c158 := ⟨trivial, mt_f13_113, trivial, trivial, trivial, trivial, trivial, ⟨28, by decide⟩, trivial, trivial, mt_f13_21, Or.inr ⟨by decide, by decide, mt_m13_76 xs⟩, ⟨28, by decide⟩, trivial, rfl, trivial, mt_f13_83, trivial, trivial, trivial, trivial, trivial, Or.inr ⟨by decide, by decide, mt_m13_116 xs⟩, trivial, trivial, trivial, trivial, mt_f13_21, trivial, mt_f13_21, ⟨63, by decide⟩, trivial, rfl, trivial, trivial, mt_f13_21, Or.inr ⟨by decide, by decide, mt_m13_33 xs⟩, trivial, trivial, trivial, trivial, trivial, trivial, trivial, Or.inr ⟨by decide, by decide, mt_m13_119 xs⟩, trivial, trivial, trivial, ⟨116, by decide⟩, trivial, mt_f13_113, trivial, trivial, trivial, ⟨116, by decide⟩, trivial, trivial, trivial, rfl, trivial⟩
set_option maxRecDepth 100000 in
set_option maxHeartbeats 4000000 in
theorem mt_d158 : mt_c158.all (mt_ckD mt_b158) = true := by decide +kernel
theorem mt_g158 : mt_Good xs oA dA 158 := fun y bytes ret h => by
  obtain ⟨rfl, rfl, rfl⟩ := mt_inj (show some (mt_y158, mt_b158, mt_t158) = some (y, bytes, ret) from h)
  exact ⟨mt_pn13, fun pc en h => ⟨mt_find (mt_i158 xs oA dA) (show mt_at mt_c158 pc = some en from h), mt_findD mt_d158 (show mt_at mt_c158 pc = some en from h)⟩⟩
set_option maxRecDepth 100000 in
set_option maxHeartbeats 4000000 in
theorem mt_i159 : mt_All (mm_okI mt_Ts (mt_P xs) (mt_G oA dA) mt_cl mt_X mt_Mt mt_y159 mt_t159) mt_c159 := ⟨trivial, trivial, trivial, trivial, trivial, mt_f18_9, trivial, mt_f18_62, trivial, Or.inr (Or.inr (Or.inr ⟨rfl, mt_m18_77 xs⟩)), trivial, ⟨24, by decide⟩, trivial, ⟨_, rfl, Or.inl ⟨_, rfl⟩⟩, trivial, mt_f18_81, trivial, trivial, trivial, ⟨_, rfl, Or.inl ⟨_, rfl⟩⟩, trivial⟩
set_option maxRecDepth 100000 in
set_option maxHeartbeats 4000000 in
theorem mt_d159 : mt_c159.all (mt_ckD mt_b159) = true := by decide +kernel
theorem mt_g159 : mt_Good xs oA dA 159 := fun y bytes ret h => by
  obtain ⟨rfl, rfl, rfl⟩ := mt_inj (show some (mt_y159, mt_b159, mt_t159) = some (y, bytes, ret) from h)
  exact ⟨mt_pn18, fun pc en h => ⟨mt_find (mt_i159 xs oA dA) (show mt_at mt_c159 pc = some en from h), mt_findD mt_d159 (show mt_at mt_c159 pc = some en from h)⟩⟩
set_option maxRecDepth 100000 in
set_option maxHeartbeats 4000000 in
theorem mt_i160 : mt_All (mm_okI mt_Ts (mt_P xs) (mt_G oA dA) mt_cl mt_X mt_Mt mt_y160 mt_t160) mt_c160 := ⟨trivial, mt_f19_15, Or.inr ⟨by decide, by decide, mt_m19_19 xs⟩, trivial, trivial, trivial, trivial, ⟨68, by decide⟩, trivial, mt_f19_15, trivial, Or.inr ⟨by decide, by decide, mt_m19_25 xs⟩, mt_k19_29, trivial, trivial, mt_f19_31, trivial, ⟨62, by decide⟩, trivial, mt_f19_34, trivial, ⟨62, by decide⟩, trivial, trivial, mt_f19_37, Or.inr ⟨by decide, by decide, mt_m19_40 xs⟩, ⟨62, by decide⟩, trivial, ⟨_, rfl, Or.inl ⟨_, rfl⟩⟩, trivial, trivial, trivial, ⟨_, rfl, Or.inl ⟨_, rfl⟩⟩, trivial⟩
set_option maxRecDepth 100000 in
set_option maxHeartbeats 4000000 in
theorem mt_d160 : mt_c160.all (mt_ckD mt_b160) = true := by decide +kernel
theorem mt_g160 : mt_Good xs oA dA 160 := fun y bytes ret h => by
  obtain ⟨rfl, rfl, rfl⟩ := mt_inj (show some (mt_y160, mt_b160, mt_t160) = some (y, bytes, ret) from h)
  exact ⟨mt_pn19, fun pc en h => ⟨mt_find (mt_i160 xs oA dA) (show mt_at mt_c160 pc = some en from h), mt_findD mt_d160 (show mt_at mt_c160 pc = some en from h)⟩⟩
set_option maxRecDepth 100000 in
set_option maxHeartbeats 4000000 in
theorem mt_i161 : mt_All (mm_okI mt_Ts (mt_P xs) (mt_G oA dA) mt_cl mt_X mt_Mt mt_y161 mt_t161) mt_c161 := ⟨trivial, mt_f9_18, trivial, trivial, Or.inr ⟨by decide, by decide, mt_m9_70 xs⟩, trivial, trivial, ⟨mt_f9_74, mt_p9_74 _⟩, trivial, trivial, ⟨mt_f9_77, mt_p9_77 _⟩, trivial, trivial, trivial, trivial, trivial, trivial, ⟨74, by decide⟩, trivial, ⟨74, by decide⟩, trivial, trivial, mt_f9_18, trivial, mt_f9_18, Or.inr ⟨by decide, by decide, mt_m9_80 xs⟩, Or.inr ⟨by decide, by decide, mt_m9_84 xs⟩, ⟨66, by decide⟩, trivial, mt_f9_77, trivial, ⟨66, by decide⟩, trivial, trivial, trivial, trivial, trivial, trivial, trivial, trivial, Or.inr ⟨by decide, by decide, mt_m9_88 xs⟩, ⟨mt_f9_60, mt_p9_60 _⟩, trivial, mt_f9_77, trivial, ⟨94, by decide⟩, trivial, trivial, trivial, rfl, trivial⟩
set_option maxRecDepth 100000 in
set_option maxHeartbeats 4000000 in
theorem mt_d161 : mt_c161.all (mt_ckD mt_b161) = true := by decide +kernel
theorem mt_g161 : mt_Good xs oA dA 161 := fun y bytes ret h => by
  obtain ⟨rfl, rfl, rfl⟩ := mt_inj (show some (mt_y161, mt_b161, mt_t161) = some (y, bytes, ret) from h)
  exact ⟨mt_pn9, fun pc en h => ⟨mt_find (mt_i161 xs oA dA) (show mt_at mt_c161 pc = some en from h), mt_findD mt_d161 (show mt_at mt_c161 pc = some en from h)⟩⟩
set_option maxRecDepth 100000 in
set_option maxHeartbeats 4000000 in
theorem mt_i162 : mt_All (mm_okI mt_Ts (mt_P xs) (mt_G oA dA) mt_cl mt_X mt_Mt mt_y162 mt_t162) mt_c162 := ⟨trivial, trivial, ⟨mt_f10_9, mt_p10_9 _⟩, trivial, trivial, ⟨mt_f10_33, mt_p10_33 _⟩, trivial, trivial, ⟨mt_f10_36, mt_p10_36 _⟩, trivial, trivial, ⟨mt_f10_39, mt_p10_39 _⟩, trivial, trivial, ⟨mt_f10_42, mt_p10_42 _⟩, rfl, trivial⟩
set_option maxRecDepth 100000 in
set_option maxHeartbeats 4000000 in
theorem mt_d162 : mt_c162.all (mt_ckD mt_b162) = true := by decide +kernel
theorem mt_g162 : mt_Good xs oA dA 162 := fun y bytes ret h => by
  obtain ⟨rfl, rfl, rfl⟩ := mt_inj (show some (mt_y162, mt_b162, mt_t162) = some (y, bytes, ret) from h)
  exact ⟨mt_pn10, fun pc en h => ⟨mt_find (mt_i162 xs oA dA) (show mt_at mt_c162 pc = some en from h), mt_findD mt_d162 (show mt_at mt_c162 pc = some en from h)⟩⟩
set_option maxRecDepth 100000 in
set_option maxHeartbeats 4000000 in
theorem mt_i163 : mt_All (mm_okI mt_Ts (mt_P xs) (mt_G oA dA) mt_cl mt_X mt_Mt mt_y163 mt_t163) mt_c163 := ⟨trivial, mt_f11_143, trivial, trivial, trivial, trivial, trivial, trivial, trivial, mt_f11_169, ⟨69, by decide⟩, trivial, mt_f11_172, trivial, trivial, trivial, trivial, mt_f11_36, trivial, trivial, trivial, ⟨63, by decide⟩, trivial, mt_f11_208, trivial, trivial, trivial, trivial, mt_f11_212, trivial, trivial, mt_f11_179, trivial, trivial, trivial, trivial, trivial, trivial, mt_f11_215, trivial, trivial, rfl, trivial⟩
set_option maxRecDepth 100000 in
set_option maxHeartbeats 4000000 in
theorem mt_d163 : mt_c163.all (mt_ckD mt_b163) = true := by decide +kernel
theorem mt_g163 : mt_Good xs oA dA 163 := fun y bytes ret h => by
  obtain ⟨rfl, rfl, rfl⟩ := mt_inj (show some (mt_y163, mt_b163, mt_t163) = some (y, bytes, ret) from h)
  exact ⟨mt_pn11, fun pc en h => ⟨mt_find (mt_i163 xs oA dA) (show mt_at mt_c163 pc = some en from h), mt_findD mt_d163 (show mt_at mt_c163 pc = some en from h)⟩⟩
set_option maxRecDepth 100000 in
set_option maxHeartbeats 4000000 in
theorem mt_i164 : mt_All (mm_okI mt_Ts (mt_P xs) (mt_G oA dA) mt_cl mt_X mt_Mt mt_y164 mt_t164) mt_c164 := ⟨trivial, trivial, trivial, trivial, mt_f11_102, Or.inr ⟨by decide, by decide, mt_m11_106 xs⟩, ⟨140, by decide⟩, trivial, mt_f11_102, trivial, Or.inr ⟨by decide, by decide, mt_m11_112 xs⟩, mt_k11_116, trivial, trivial, trivial, trivial, mt_f11_218, trivial, ⟨134, by decide⟩, trivial, trivial, ⟨134, by decide⟩, trivial, mt_f11_11, trivial, trivial, trivial, trivial, mt_f11_139, ⟨81, by decide⟩, trivial, mt_f11_143, trivial, mt_f11_221, Or.inr ⟨by decide, by decide, mt_m11_223 xs⟩, ⟨81, by decide⟩, trivial, trivial, trivial, trivial, trivial, ⟨128, by decide⟩, trivial, mt_f11_43, trivial, trivial, mt_f11_189, Or.inr ⟨by decide, by decide, mt_m11_192 xs⟩, ⟨115, by decide⟩, trivial, mt_f11_43, mt_f11_201, ⟨128, by decide⟩, trivial, trivial, trivial, mt_f11_122, trivial, Or.inr ⟨by decide, by decide, mt_m11_125 xs⟩, rfl, trivial, trivial, trivial, trivial, trivial, rfl, trivial⟩
set_option maxRecDepth 100000 in
set_option maxHeartbeats 4000000 in
theorem mt_d164 : mt_c164.all (mt_ckD mt_b164) = true := by decide +kernel
theorem mt_g164 : mt_Good xs oA dA 164 := fun y bytes ret h => by
  obtain ⟨rfl, rfl, rfl⟩ := mt_inj (show some (mt_y164, mt_b164, mt_t164) = some (y, bytes, ret) from h)
  exact ⟨mt_pn11, fun pc en h => ⟨mt_find (mt_i164 xs oA dA) (show mt_at mt_c164 pc = some en from h), mt_findD mt_d164 (show mt_at mt_c164 pc = some en from h)⟩⟩
set_option maxRecDepth 100000 in
set_option maxHeartbeats 4000000 in
theorem mt_i165 : mt_All (mm_okI mt_Ts (mt_P xs) (mt_G oA dA) mt_cl mt_X mt_Mt mt_y165 mt_t165) mt_c165 := ⟨trivial, trivial, trivial, trivial, ⟨47, by decide⟩, trivial, mt_f0_37, trivial, trivial, trivial, trivial, mt_f0_99, ⟨41, by decide⟩, trivial, mt_f0_231, mt_f0_298, mt_f0_92, ⟨41, by decide⟩, trivial, trivial, trivial, Or.inr ⟨by decide, by decide, mt_m0_239 xs⟩, trivial, trivial, rfl, trivial⟩
set_option maxRecDepth 100000 in
set_option maxHeartbeats 4000000 in
theorem mt_d165 : mt_c165.all (mt_ckD mt_b165) = true := by decide +kernel
theorem mt_g165 : mt_Good xs oA dA 165 := fun y bytes ret h => by
  obtain ⟨rfl, rfl, rfl⟩ := mt_inj (show some (mt_y165, mt_b165, mt_t165) = some (y, bytes, ret) from h)
  exact ⟨mt_pn0, fun pc en h => ⟨mt_find (mt_i165 xs oA dA) (show mt_at mt_c165 pc = some en from h), mt_findD mt_d165 (show mt_at mt_c165 pc = some en from h)⟩⟩
set_option maxRecDepth 100000 in
set_option maxHeartbeats 4000000 in
theorem mt_i166 : mt_All (mm_okI mt_Ts (mt_P xs) (mt_G oA dA) mt_cl mt_X mt_Mt mt_y166 mt_t166) mt_c166 := ⟨trivial, mt_f0_222, ⟨19, by decide⟩, trivial, ⟨19, by decide⟩, trivial, trivial, mt_f0_102, ⟨23, by decide⟩, trivial, trivial, trivial, mt_f0_31, trivial, trivial, rfl, trivial⟩
set_option maxRecDepth 100000 in
set_option maxHeartbeats 4000000 in
theorem mt_d166 : mt_c166.all (mt_ckD mt_b166) = true := by decide +kernel
theorem mt_g166 : mt_Good xs oA dA 166 := fun y bytes ret h => by
  obtain ⟨rfl, rfl, rfl⟩ := mt_inj (show some (mt_y166, mt_b166, mt_t166) = some (y, bytes, ret) from h)
  exact ⟨mt_pn0, fun pc en h => ⟨mt_find (mt_i166 xs oA dA) (show mt_at mt_c166 pc = some en from h), mt_findD mt_d166 (show mt_at mt_c166 pc = some en from h)⟩⟩
set_option maxRecDepth 100000 in
set_option maxHeartbeats 4000000 in
theorem mt_i167 : mt_All (mm_okI mt_Ts (mt_P xs) (mt_G oA dA) mt_cl mt_X mt_Mt mt_y167 mt_t167) mt_c167 := ⟨trivial, ⟨24, by decide⟩, trivial, trivial, mt_f0_46, mt_f0_225, ⟨24, by decide⟩, trivial, ⟨24, by decide⟩, trivial, trivial, ⟨26, by decide⟩, trivial, rfl, trivial, mt_f0_46, mt_f0_253, trivial, trivial, trivial, trivial, trivial, trivial, rfl, trivial⟩
set_option maxRecDepth 100000 in
set_option maxHeartbeats 4000000 in
theorem mt_d167 : mt_c167.all (mt_ckD mt_b167) = true := by decide +kernel
theorem mt_g167 : mt_Good xs oA dA 167 := fun y bytes ret h => by
  obtain ⟨rfl, rfl, rfl⟩ := mt_inj (show some (mt_y167, mt_b167, mt_t167) = some (y, bytes, ret) from h)
  exact ⟨mt_pn0, fun pc en h => ⟨mt_find (mt_i167 xs oA dA) (show mt_at mt_c167 pc = some en from h), mt_findD mt_d167 (show mt_at mt_c167 pc = some en from h)⟩⟩
set_option maxRecDepth 100000 in
set_option maxHeartbeats 4000000 in
theorem mt_i168 : mt_All (mm_okI mt_Ts (mt_P xs) (mt_G oA dA) mt_cl mt_X mt_Mt mt_y168 mt_t168) mt_c168 := ⟨trivial, trivial, Or.inr ⟨by decide, by decide, mt_m0_165 xs⟩, ⟨24, by decide⟩, trivial, mt_f0_27, trivial, trivial, mt_f0_169, trivial, Or.inr ⟨by decide, by decide, mt_m0_256 xs⟩, trivial, trivial, trivial, trivial, trivial, trivial, rfl, trivial, trivial, trivial, trivial, ⟨86, by decide⟩, trivial, mt_f0_37, trivial, trivial, mt_f0_99, ⟨80, by decide⟩, trivial, mt_f0_37, trivial, trivial, trivial, mt_f0_27, trivial, trivial, trivial, trivial, trivial, Or.inr ⟨by decide, by decide, mt_m0_259 xs⟩, trivial, rfl, trivial, trivial, trivial, rfl, trivial⟩
set_option maxRecDepth 100000 in
set_option maxHeartbeats 4000000 in
theorem mt_d168 : mt_c168.all (mt_ckD mt_b168) = true := by decide +kernel
theorem mt_g168 : mt_Good xs oA dA 168 := fun y bytes ret h => by
  obtain ⟨rfl, rfl, rfl⟩ := mt_inj (show some (mt_y168, mt_b168, mt_t168) = some (y, bytes, ret) from h)
  exact ⟨mt_pn0, fun pc en h => ⟨mt_find (mt_i168 xs oA dA) (show mt_at mt_c168 pc = some en from h), mt_findD mt_d168 (show mt_at mt_c168 pc = some en from h)⟩⟩
set_option maxRecDepth 100000 in
set_option maxHeartbeats 4000000 in
theorem mt_i169 : mt_All (mm_okI mt_Ts (mt_P xs) (mt_G oA dA) mt_cl mt_X mt_Mt mt_y169 mt_t169) mt_c169 := ⟨trivial, mt_f14_12, trivial, trivial, trivial, trivial, Or.inr ⟨by decide, by decide, mt_m14_18 xs⟩, trivial, trivial, ⟨mt_f14_22, mt_p14_22 _⟩, trivial, trivial, ⟨mt_f14_26, mt_p14_26 _⟩, trivial, trivial, ⟨mt_f14_29, mt_p14_29 _⟩, trivial, trivial, ⟨mt_f14_32, mt_p14_32 _⟩, trivial, trivial, ⟨mt_f14_36, mt_p14_36 _⟩, trivial, trivial, ⟨mt_f14_39, mt_p14_39 _⟩, rfl, trivial⟩
set_option maxRecDepth 100000 in
set_option maxHeartbeats 4000000 in
theorem mt_d169 : mt_c169.all (mt_ckD mt_b169) = true := by decide +kernel
theorem mt_g169 : mt_Good xs oA dA 169 := fun y bytes ret h => by
  obtain ⟨rfl, rfl, rfl⟩ := mt_inj (show some (mt_y169, mt_b169, mt_t169) = some (y, bytes, ret) from h)
  exact ⟨mt_pn14, fun pc en h => ⟨mt_find (mt_i169 xs oA dA) (show mt_at mt_c169 pc = some en from h), mt_findD mt_d169 (show mt_at mt_c169 pc = some en from h)⟩⟩
set_option maxRecDepth 100000 in
set_option maxHeartbeats 4000000 in
theorem mt_i170 : mt_All (mm_okI mt_Ts (mt_P xs) (mt_G oA dA) mt_cl mt_X mt_Mt mt_y170 mt_t170) mt_c170 := ⟨trivial, ⟨22, by decide⟩, trivial, trivial, ⟨22, by decide⟩, trivial, mt_f0_37, trivial, trivial, mt_f0_96, ⟨24, by decide⟩, trivial, rfl, trivial, mt_f0_37, trivial, trivial, trivial, Or.inr ⟨by decide, by decide, mt_m0_263 xs⟩, rfl, trivial⟩
set_option maxRecDepth 100000 in
set_option maxHeartbeats 4000000 in
theorem mt_d170 : mt_c170.all (mt_ckD mt_b170) = true := by decide +kernel
theorem mt_g170 : mt_Good xs oA dA 170 := fun y bytes ret h => by
  obtain ⟨rfl, rfl, rfl⟩ := mt_inj (show some (mt_y170, mt_b170, mt_t170) = some (y, bytes, ret) from h)
  exact ⟨mt_pn0, fun pc en h => ⟨mt_find (mt_i170 xs oA dA) (show mt_at mt_c170 pc = some en from h), mt_findD mt_d170 (show mt_at mt_c170 pc = some en from h)⟩⟩
set_option maxRecDepth 100000 in
set_option maxHeartbeats 4000000 in
theorem mt_i171 : mt_All (mm_okI mt_Ts (mt_P xs) (mt_G oA dA) mt_cl mt_X mt_Mt mt_y171 mt_t171) mt_c171 := ⟨trivial, trivial, trivial, mt_f14_26, ⟨51, by decide⟩, trivial, trivial, trivial, rfl, trivial, mt_f14_32, rfl, trivial, mt_f14_36, rfl, trivial, mt_f14_12, mt_f14_42, mt_f14_46, rfl, trivial, mt_f14_29, ⟨85, by decide⟩, trivial, trivial, trivial, rfl, trivial, mt_f14_39, rfl, trivial, rfl, trivial⟩
set_option maxRecDepth 100000 in
set_option maxHeartbeats 4000000 in
theorem mt_d171 : mt_c171.all (mt_ckD mt_b171) = true := by decide +kernel
theorem mt_g171 : mt_Good xs oA dA 171 := fun y bytes ret h => by
  obtain ⟨rfl, rfl, rfl⟩ := mt_inj (show some (mt_y171, mt_b171, mt_t171) = some (y, bytes, ret) from h)
  exact ⟨mt_pn14, fun pc en h => ⟨mt_find (mt_i171 xs oA dA) (show mt_at mt_c171 pc = some en from h), mt_findD mt_d171 (show mt_at mt_c171 pc = some en from h)⟩⟩
set_option maxRecDepth 100000 in
set_option maxHeartbeats 4000000 in
theorem mt_i172 : mt_All (mm_okI mt_Ts (mt_P xs) (mt_G oA dA) mt_cl mt_X mt_Mt mt_y172 mt_t172) mt_c172 := ⟨trivial, ⟨22, by decide⟩, trivial, trivial, ⟨22, by decide⟩, trivial, mt_f0_37, trivial, trivial, mt_f0_99, ⟨24, by decide⟩, trivial, rfl, trivial, mt_f0_37, trivial, trivial, trivial, ⟨mt_f0_243, mt_p0_243 _⟩, trivial, rfl, trivial⟩
set_option maxRecDepth 100000 in
set_option maxHeartbeats 4000000 in
theorem mt_d172 : mt_c172.all (mt_ckD mt_b172) = true := by decide +kernel
theorem mt_g172 : mt_Good xs oA dA 172 := fun y bytes ret h => by
  obtain ⟨rfl, rfl, rfl⟩ := mt_inj (show some (mt_y172, mt_b172, mt_t172) = some (y, bytes, ret) from h)
  exact ⟨mt_pn0, fun pc en h => ⟨mt_find (mt_i172 xs oA dA) (show mt_at mt_c172 pc = some en from h), mt_findD mt_d172 (show mt_at mt_c172 pc = some en from h)⟩⟩
set_option maxRecDepth 100000 in
set_option maxHeartbeats 4000000 in
theorem mt_i173 : mt_All (mm_okI mt_Ts (mt_P xs) (mt_G oA dA) mt_cl mt_X mt_Mt mt_y173 mt_t173) mt_c173 := ⟨trivial, mt_f0_55, trivial, Or.inr ⟨by decide, by decide, mt_m0_267 xs⟩, rfl, trivial⟩
set_option maxRecDepth 100000 in
set_option maxHeartbeats 4000000 in
theorem mt_d173 : mt_c173.all (mt_ckD mt_b173) = true := by decide +kernel
theorem mt_g173 : mt_Good xs oA dA 173 := fun y bytes ret h => by
  obtain ⟨rfl, rfl, rfl⟩ := mt_inj (show some (mt_y173, mt_b173, mt_t173) = some (y, bytes, ret) from h)
  exact ⟨mt_pn0, fun pc en h => ⟨mt_find (mt_i173 xs oA dA) (show mt_at mt_c173 pc = some en from h), mt_findD mt_d173 (show mt_at mt_c173 pc = some en from h)⟩⟩
set_option maxRecDepth 100000 in
set_option maxHeartbeats 4000000 in
theorem mt_i174 : mt_All (mm_okI mt_Ts (mt_P xs) (mt_G oA dA) mt_cl mt_X mt_Mt mt_y174 mt_t174) mt_c174 := ⟨trivial, ⟨19, by decide⟩, trivial, trivial, mt_f11_50, ⟨19, by decide⟩, trivial, mt_f11_53, trivial, trivial, rfl, trivial, trivial, mt_f11_19, trivial, trivial, ⟨mt_f11_53, mt_p11_53 _⟩, trivial, mt_f11_53, trivial, ⟨mt_f11_74, mt_p11_74 _⟩, trivial, trivial, ⟨mt_f11_77, mt_p11_77 _⟩, trivial, rfl, trivial⟩
set_option maxRecDepth 100000 in
set_option maxHeartbeats 4000000 in
theorem mt_d174 : mt_c174.all (mt_ckD mt_b174) = true := by decide +kernel
theorem mt_g174 : mt_Good xs oA dA 174 := fun y bytes ret h => by
  obtain ⟨rfl, rfl, rfl⟩ := mt_inj (show some (mt_y174, mt_b174, mt_t174) = some (y, bytes, ret) from h)
  exact ⟨mt_pn11, fun pc en h => ⟨mt_find (mt_i174 xs oA dA) (show mt_at mt_c174 pc = some en from h), mt_findD mt_d174 (show mt_at mt_c174 pc = some en from h)⟩⟩
set_option maxRecDepth 100000 in
set_option maxHeartbeats 4000000 in
theorem mt_i175 : mt_All (mm_okI mt_Ts (mt_P xs) (mt_G oA dA) mt_cl mt_X mt_Mt mt_y175 mt_t175) mt_c175 := ⟨trivial, ⟨15, by decide⟩, trivial, trivial, mt_f0_55, mt_f0_270, ⟨19, by decide⟩, trivial, trivial, trivial, mt_f0_55, mt_f0_273, trivial, trivial, mt_f0_277, rfl, trivial⟩
set_option maxRecDepth 100000 in
set_option maxHeartbeats 4000000 in
theorem mt_d175 : mt_c175.all (mt_ckD mt_b175) = true := by decide +kernel
theorem mt_g175 : mt_Good xs oA dA 175 := fun y bytes ret h => by
  obtain ⟨rfl, rfl, rfl⟩ := mt_inj (show some (mt_y175, mt_b175, mt_t175) = some (y, bytes, ret) from h)
  exact ⟨mt_pn0, fun pc en h => ⟨mt_find (mt_i175 xs oA dA) (show mt_at mt_c175 pc = some en from h), mt_findD mt_d175 (show mt_at mt_c175 pc = some en from h)⟩⟩
set_option maxRecDepth 100000 in
set_option maxHeartbeats 4000000 in
theorem mt_i176 : mt_All (mm_okI mt_Ts (mt_P xs) (mt_G oA dA) mt_cl mt_X mt_Mt mt_y176 mt_t176) mt_c176 := ⟨trivial, trivial, trivial, mt_f0_55, mt_f0_282, rfl, trivial, mt_f0_55, mt_f0_285, rfl, trivial, mt_f0_55, mt_f0_288, rfl, trivial, rfl, trivial⟩
set_option maxRecDepth 100000 in
set_option maxHeartbeats 4000000 in
theorem mt_d176 : mt_c176.all (mt_ckD mt_b176) = true := by decide +kernel
theorem mt_g176 : mt_Good xs oA dA 176 := fun y bytes ret h => by
  obtain ⟨rfl, rfl, rfl⟩ := mt_inj (show some (mt_y176, mt_b176, mt_t176) = some (y, bytes, ret) from h)
  exact ⟨mt_pn0, fun pc en h => ⟨mt_find (mt_i176 xs oA dA) (show mt_at mt_c176 pc = some en from h), mt_findD mt_d176 (show mt_at mt_c176 pc = some en from h)⟩⟩
set_option maxRecDepth 100000 in
set_option maxHeartbeats 4000000 in
theorem mt_i177 : mt_All (mm_okI mt_Ts (mt_P xs) (mt_G oA dA) mt_cl mt_X mt_Mt mt_y177 mt_t177) mt_c177 := ⟨trivial, mt_f0_55, Or.inr ⟨by decide, by decide, mt_m0_291 xs⟩, ⟨12, by decide⟩, trivial, rfl, trivial, trivial, mt_f0_55, trivial, mt_f0_62, Or.inr ⟨by decide, by decide, mt_m0_294 xs⟩, ⟨mt_f0_62, mt_p0_62 _⟩, trivial, Or.inr ⟨by decide, by decide, mt_m0_250 xs⟩, trivial, rfl, trivial⟩
set_option maxRecDepth 100000 in
set_option maxHeartbeats 4000000 in
theorem mt_d177 : mt_c177.all (mt_ckD mt_b177) = true := by decide +kernel
theorem mt_g177 : mt_Good xs oA dA 177 := fun y bytes ret h => by
  obtain ⟨rfl, rfl, rfl⟩ := mt_inj (show some (mt_y177, mt_b177, mt_t177) = some (y, bytes, ret) from h)
  exact ⟨mt_pn0, fun pc en h => ⟨mt_find (mt_i177 xs oA dA) (show mt_at mt_c177 pc = some en from h), mt_findD mt_d177 (show mt_at mt_c177 pc = some en from h)⟩⟩
set_option maxRecDepth 100000 in
set_option maxHeartbeats 4000000 in
theorem mt_i178 : mt_All (mm_okI mt_Ts (mt_P xs) (mt_G oA dA) mt_cl mt_X mt_Mt mt_y178 mt_t178) mt_c178 := ⟨trivial, mt_f11_57, trivial, trivial, mt_f11_60, trivial, trivial, mt_f11_53, trivial, trivial, trivial, trivial, rfl, trivial⟩
set_option maxRecDepth 100000 in
set_option maxHeartbeats 4000000 in
theorem mt_d178 : mt_c178.all (mt_ckD mt_b178) = true := by decide +kernel
theorem mt_g178 : mt_Good xs oA dA 178 := fun y bytes ret h => by
  obtain ⟨rfl, rfl, rfl⟩ := mt_inj (show some (mt_y178, mt_b178, mt_t178) = some (y, bytes, ret) from h)
  exact ⟨mt_pn11, fun pc en h => ⟨mt_find (mt_i178 xs oA dA) (show mt_at mt_c178 pc = some en from h), mt_findD mt_d178 (show mt_at mt_c178 pc = some en from h)⟩⟩
set_option maxRecDepth 100000 in
set_option maxHeartbeats 4000000 in
theorem mt_i179 : mt_All (mm_okI mt_Ts (mt_P xs) (mt_G oA dA) mt_cl mt_X mt_Mt mt_y179 mt_t179) mt_c179 := ⟨trivial, mt_f11_60, trivial, trivial, trivial, Or.inr ⟨by decide, by decide, mt_m11_227 xs⟩, trivial, trivial, trivial, trivial, ⟨112, by decide⟩, trivial, mt_f11_40, trivial, trivial, trivial, trivial, mt_f11_139, ⟨49, by decide⟩, trivial, trivial, mt_f11_143, mt_f11_147, Or.inr ⟨by decide, by decide, mt_m11_150 xs⟩, trivial, trivial, trivial, trivial, trivial, trivial, trivial, ⟨mt_f11_139, mt_p11_139 _⟩, trivial, trivial, mt_f11_143, mt_f11_154, trivial, mt_f11_64, ⟨99, by decide⟩, trivial, trivial, trivial, mt_f11_11, trivial, trivial, trivial, trivial, Or.inr ⟨by decide, by decide, mt_m11_231 xs⟩, trivial, trivial, trivial, ⟨mt_f11_143, mt_p11_143 _⟩, trivial, trivial, trivial, mt_f11_57, trivial, ⟨mt_f11_74, mt_p11_74 _⟩, trivial, trivial, ⟨mt_f11_57, mt_p11_57 _⟩, trivial, trivial, ⟨mt_f11_60, mt_p11_60 _⟩, trivial, ⟨_, rfl, Or.inl ⟨_, rfl⟩⟩, trivial⟩
set_option maxRecDepth 100000 in
set_option maxHeartbeats 4000000 in
theorem mt_d179 : mt_c179.all (mt_ckD mt_b179) = true := by decide +kernel
theorem mt_g179 : mt_Good xs oA dA 179 := fun y bytes ret h => by
  obtain ⟨rfl, rfl, rfl⟩ := mt_inj (show some (mt_y179, mt_b179, mt_t179) = some (y, bytes, ret) from h)
  exact ⟨mt_pn11, fun pc en h => ⟨mt_find (mt_i179 xs oA dA) (show mt_at mt_c179 pc = some en from h), mt_findD mt_d179 (show mt_at mt_c179 pc = some en from h)⟩⟩
set_option maxRecDepth 100000 in
set_option maxHeartbeats 4000000 in
theorem mt_i180 : mt_All (mm_okI mt_Ts (mt_P xs) (mt_G oA dA) mt_cl mt_X mt_Mt mt_y180 mt_t180) mt_c180 := ⟨trivial, trivial, Or.inr ⟨by decide, by decide, mt_m11_98 xs⟩, trivial, trivial, ⟨mt_f11_143, mt_p11_143 _⟩, trivial, mt_f11_36, trivial, Or.inr (Or.inr (Or.inr ⟨rfl, mt_m11_159 xs⟩)), trivial, mt_f11_143, trivial, trivial, trivial, trivial, trivial, trivial, trivial, mt_f11_169, ⟨81, by decide⟩, trivial, trivial, trivial, trivial, Or.inr ⟨by decide, by decide, mt_m11_175 xs⟩, trivial, trivial, trivial, ⟨75, by decide⟩, trivial, mt_f11_36, trivial, trivial, mt_f11_172, trivial, trivial, trivial, trivial, trivial, trivial, mt_f11_215, trivial, trivial, trivial, trivial, trivial, trivial, trivial, trivial, trivial, trivial, mt_f11_169, ⟨196, by decide⟩, trivial, mt_f11_172, trivial, trivial, trivial, trivial, mt_f11_36, trivial, trivial, trivial, ⟨155, by decide⟩, trivial, mt_f11_179, trivial, trivial, mt_f11_179, trivial, mt_f11_36, trivial, trivial, trivial, trivial, trivial, trivial, mt_f11_179, trivial, trivial, mt_f11_208, trivial, trivial, ⟨181, by decide⟩, trivial, mt_f11_212, trivial, trivial, trivial, trivial, mt_f11_182, trivial, trivial, trivial, trivial, trivial, trivial, mt_f11_215, trivial, trivial, trivial, trivial, Or.inr ⟨by decide, by decide, mt_m11_98 xs⟩, rfl, trivial⟩
set_option maxRecDepth 100000 in
set_option maxHeartbeats 4000000 in
theorem mt_d180 : mt_c180.all (mt_ckD mt_b180) = true := by decide +kernel
theorem mt_g180 : mt_Good xs oA dA 180 := fun y bytes ret h => by
  obtain ⟨rfl, rfl, rfl⟩ := mt_inj (show some (mt_y180, mt_b180, mt_t180) = some (y, bytes, ret) from h)
  exact ⟨mt_pn11, fun pc en h => ⟨mt_find (mt_i180 xs oA dA) (show mt_at mt_c180 pc = some en from h), mt_findD mt_d180 (show mt_at mt_c180 pc = some en from h)⟩⟩
set_option maxRecDepth 100000 in
set_option maxHeartbeats 4000000 in
theorem mt_i181 : mt_All (mm_okI mt_Ts (mt_P xs) (mt_G oA dA) mt_cl mt_X mt_Mt mt_y181 mt_t181) mt_c181 := ⟨trivial, trivial, trivial, trivial, trivial, trivial, mt_f0_102, ⟨62, by decide⟩, trivial, trivial, Or.inr ⟨by decide, by decide, mt_m0_165 xs⟩, ⟨56, by decide⟩, trivial, mt_f0_27, trivial, trivial, mt_f0_169, trivial, Or.inr ⟨by decide, by decide, mt_m0_172 xs⟩, ⟨56, by decide⟩, trivial, trivial, mt_f0_27, trivial, trivial, mt_f0_178, trivial, trivial, trivial, trivial, trivial, trivial, trivial, trivial, rfl, trivial⟩
set_option maxRecDepth 100000 in
set_option maxHeartbeats 4000000 in
theorem mt_d181 : mt_c181.all (mt_ckD mt_b181) = true := by decide +kernel
theorem mt_g181 : mt_Good xs oA dA 181 := fun y bytes ret h => by
  obtain ⟨rfl, rfl, rfl⟩ := mt_inj (show some (mt_y181, mt_b181, mt_t181) = some (y, bytes, ret) from h)
  exact ⟨mt_pn0, fun pc en h => ⟨mt_find (mt_i181 xs oA dA) (show mt_at mt_c181 pc = some en from h), mt_findD mt_d181 (show mt_at mt_c181 pc = some en from h)⟩⟩
set_option maxRecDepth 100000 in
set_option maxHeartbeats 4000000 in
theorem mt_i182 : mt_All (mm_okI mt_Ts (mt_P xs) (mt_G oA dA) mt_cl mt_X mt_Mt mt_y182 mt_t182) mt_c182 := ⟨trivial, Or.inl ⟨rfl, mt_in6 (i := 185) rfl, mt_in1 (i := 33) rfl, mt_in1 (i := 34) rfl⟩, trivial, trivial, mt_na0 oA dA, ⟨mt_f21_7, mt_p21_7i⟩, trivial, trivial, mt_na3 oA dA, ⟨mt_f21_13, mt_p21_13i⟩, trivial, trivial, mt_na3 oA dA, ⟨mt_f21_17, mt_p21_17i⟩, trivial, trivial, ⟨mt_f21_20, mt_p21_20i⟩, trivial, Or.inl ⟨rfl, mt_in6 (i := 186) rfl⟩, mt_na0 oA dA, ⟨mt_f21_25, mt_p21_25i⟩, trivial, trivial, mt_na0 oA dA, ⟨mt_f21_28, mt_p21_28i⟩, trivial, trivial, ⟨mt_f21_31, mt_p21_31i⟩, trivial, trivial, ⟨mt_f21_34, mt_p21_34i⟩, trivial, trivial, ⟨mt_f21_37, mt_p21_37i⟩, trivial, trivial, mt_na0 oA dA, ⟨mt_f21_40, mt_p21_40i⟩, trivial, trivial, mt_na0 oA dA, ⟨mt_f21_43, mt_p21_43i⟩, trivial, trivial, mt_na1 oA dA, ⟨mt_f21_46, mt_p21_46i⟩, trivial, trivial, mt_na0 oA dA, ⟨mt_f21_50, mt_p21_50i⟩, trivial, trivial, mt_na0 oA dA, ⟨mt_f21_53, mt_p21_53i⟩, trivial, trivial, mt_na0 oA dA, ⟨mt_f21_56, mt_p21_56i⟩, trivial, trivial, mt_na1 oA dA, ⟨mt_f21_59, mt_p21_59i⟩, trivial, trivial, mt_na0 oA dA, ⟨mt_f21_62, mt_p21_62i⟩, trivial, trivial, mt_na0 oA dA, ⟨mt_f21_65, mt_p21_65i⟩, trivial, trivial, mt_na0 oA dA, ⟨mt_f21_68, mt_p21_68i⟩, trivial, trivial, mt_na0 oA dA, ⟨mt_f21_71, mt_p21_71i⟩, trivial, trivial, mt_na0 oA dA, ⟨mt_f21_74, mt_p21_74i⟩, trivial, trivial, mt_na0 oA dA, ⟨mt_f21_77, mt_p21_77i⟩, trivial, trivial, mt_na0 oA dA, ⟨mt_f21_80, mt_p21_80i⟩, trivial, trivial, mt_na0 oA dA, ⟨mt_f21_83, mt_p21_83i⟩, trivial, trivial, mt_na0 oA dA, ⟨mt_f21_86, mt_p21_86i⟩, trivial, trivial, mt_na0 oA dA, ⟨mt_f21_89, mt_p21_89i⟩, trivial, trivial, mt_na0 oA dA, ⟨mt_f21_92, mt_p21_92i⟩, trivial, trivial, mt_na0 oA dA, ⟨mt_f21_95, mt_p21_95i⟩, trivial, trivial, mt_na0 oA dA, ⟨mt_f21_98, mt_p21_98i⟩, trivial, trivial, mt_na0 oA dA, ⟨mt_f21_101, mt_p21_101i⟩, trivial, trivial, mt_na0 oA dA, ⟨mt_f21_104, mt_p21_104i⟩, trivial, trivial, mt_na1 oA dA, ⟨mt_f21_107, mt_p21_107i⟩, trivial, trivial, mt_na1 oA dA, ⟨mt_f21_110, mt_p21_110i⟩, trivial, trivial, mt_na1 oA dA, ⟨mt_f21_113, mt_p21_113i⟩, trivial, trivial, mt_na0 oA dA, ⟨mt_f21_116, mt_p21_116i⟩, trivial, trivial, mt_na0 oA dA, ⟨mt_f21_119, mt_p21_119i⟩, trivial, trivial, mt_na0 oA dA, ⟨mt_f21_122, mt_p21_122i⟩, trivial, trivial, mt_na0 oA dA, ⟨mt_f21_125, mt_p21_125i⟩, trivial, trivial, mt_na0 oA dA, ⟨mt_f21_128, mt_p21_128i⟩, trivial, trivial, mt_na0 oA dA, ⟨mt_f21_131, mt_p21_131i⟩, trivial, trivial, mt_na0 oA dA, ⟨mt_f21_134, mt_p21_134i⟩, trivial, trivial, mt_na0 oA dA, ⟨mt_f21_137, mt_p21_137i⟩, trivial, trivial, mt_na0 oA dA, ⟨mt_f21_140, mt_p21_140i⟩, trivial, trivial, mt_na0 oA dA, ⟨mt_f21_143, mt_p21_143i⟩, trivial, trivial, mt_na0 oA dA, ⟨mt_f21_146, mt_p21_146i⟩, trivial, trivial, mt_na0 oA dA, ⟨mt_f21_149, mt_p21_149i⟩, trivial, trivial, ⟨mt_f21_152, mt_p21_152i⟩, trivial, trivial, ⟨mt_f21_155, mt_p21_155i⟩, trivial, trivial, mt_na0 oA dA, ⟨mt_f21_158, mt_p21_158i⟩, trivial, trivial, mt_na0 oA dA, ⟨mt_f21_161, mt_p21_161i⟩, trivial, trivial, mt_na0 oA dA, ⟨mt_f21_164, mt_p21_164i⟩, trivial, trivial, mt_na1 oA dA, ⟨mt_f21_167, mt_p21_167i⟩, trivial, trivial, mt_na1 oA dA, ⟨mt_f21_170, mt_p21_170i⟩, trivial, trivial, mt_na0 oA dA, ⟨mt_f21_173, mt_p21_173i⟩, trivial, trivial, mt_na0 oA dA, ⟨mt_f21_176, mt_p21_176i⟩, trivial, trivial, mt_na0 oA dA, ⟨mt_f21_179, mt_p21_179i⟩, trivial, trivial, mt_na0 oA dA, ⟨mt_f21_182, mt_p21_182i⟩, trivial, trivial, mt_na0 oA dA, ⟨mt_f21_185, mt_p21_185i⟩, rfl, trivial⟩
set_option maxRecDepth 100000 in
set_option maxHeartbeats 4000000 in
theorem mt_d182 : mt_c182.all (mt_ckD mt_b182) = true := by decide +kernel
theorem mt_g182 : mt_Good xs oA dA 182 := fun y bytes ret h => by
  obtain ⟨rfl, rfl, rfl⟩ := mt_inj (show some (mt_y182, mt_b182, mt_t182) = some (y, bytes, ret) from h)
  exact ⟨mt_pn21, fun pc en h => ⟨mt_find (mt_i182 xs oA dA) (show mt_at mt_c182 pc = some en from h), mt_findD mt_d182 (show mt_at mt_c182 pc = some en from h)⟩⟩
set_option maxRecDepth 100000 in
set_option maxHeartbeats 4000000 in
theorem mt_i183 : mt_All (mm_okI mt_Ts (mt_P xs) (mt_G oA dA) mt_cl mt_X mt_Mt mt_y183 mt_t183) mt_c183 := ⟨trivial, Or.inr ⟨by decide, by decide, mt_m21_378 xs⟩, trivial, mt_f21_28, trivial, trivial, trivial, trivial, Or.inr ⟨by decide, by decide, mt_m21_381 xs⟩, trivial, trivial, ⟨37, by decide⟩, trivial, mt_f21_217, ⟨37, by decide⟩, trivial, Or.inr ⟨by decide, by decide, mt_m21_381 xs⟩, trivial, trivial, trivial, Or.inr ⟨by decide, by decide, mt_m21_384 xs⟩, trivial, ⟨47, by decide⟩, trivial, rfl, trivial, trivial, Or.inr ⟨by decide, by decide, mt_m21_387 xs⟩, trivial, trivial, trivial, Or.inr ⟨by decide, by decide, mt_m21_391 xs⟩, trivial, trivial, ⟨mt_f21_394, mt_p21_394 _⟩, trivial, trivial, ⟨mt_f21_397, mt_p21_397 _⟩, trivial, trivial, ⟨mt_f21_31, mt_p21_31 _⟩, trivial, trivial, ⟨mt_f21_34, mt_p21_34 _⟩, trivial, trivial, ⟨mt_f21_37, mt_p21_37 _⟩, trivial, trivial, ⟨mt_f21_400, mt_p21_400 _⟩, trivial, trivial, trivial, trivial, ⟨116, by decide⟩, trivial, mt_f21_107, trivial, trivial, trivial, trivial, mt_f21_110, trivial, trivial, trivial, trivial, trivial, trivial, trivial, Or.inr ⟨by decide, by decide, mt_m21_321 xs⟩, rfl, trivial⟩
set_option maxRecDepth 100000 in
set_option maxHeartbeats 4000000 in
theorem mt_d183 : mt_c183.all (mt_ckD mt_b183) = true := by decide +kernel
theorem mt_g183 : mt_Good xs oA dA 183 := fun y bytes ret h => by
  obtain ⟨rfl, rfl, rfl⟩ := mt_inj (show some (mt_y183, mt_b183, mt_t183) = some (y, bytes, ret) from h)
  exact ⟨mt_pn21, fun pc en h => ⟨mt_find (mt_i183 xs oA dA) (show mt_at mt_c183 pc = some en from h), mt_findD mt_d183 (show mt_at mt_c183 pc = some en from h)⟩⟩
set_option maxRecDepth 100000 in
set_option maxHeartbeats 4000000 in
theorem mt_i184 : mt_All (mm_okI mt_Ts (mt_P xs) (mt_G oA dA) mt_cl mt_X mt_Mt mt_y184 mt_t184) mt_c184 := ⟨trivial, Or.inr ⟨by decide, by decide, mt_m21_371 xs⟩, trivial, trivial, ⟨mt_f21_238, mt_p21_238 _⟩, trivial, trivial, ⟨mt_f21_241, mt_p21_241 _⟩, trivial, trivial, ⟨mt_f21_207, mt_p21_207 _⟩, trivial, trivial, ⟨mt_f21_244, mt_p21_244 _⟩, trivial, trivial, ⟨mt_f21_266, mt_p21_266 _⟩, trivial, trivial, ⟨mt_f21_312, mt_p21_312 _⟩, trivial, Or.inr ⟨by decide, by decide, mt_m21_257 xs⟩, rfl, trivial⟩
set_option maxRecDepth 100000 in
set_option maxHeartbeats 4000000 in
theorem mt_d184 : mt_c184.all (mt_ckD mt_b184) = true := by decide +kernel
theorem mt_g184 : mt_Good xs oA dA 184 := fun y bytes ret h => by
  obtain ⟨rfl, rfl, rfl⟩ := mt_inj (show some (mt_y184, mt_b184, mt_t184) = some (y, bytes, ret) from h)
  exact ⟨mt_pn21, fun pc en h => ⟨mt_find (mt_i184 xs oA dA) (show mt_at mt_c184 pc = some en from h), mt_findD mt_d184 (show mt_at mt_c184 pc = some en from h)⟩⟩
set_option maxRecDepth 100000 in
set_option maxHeartbeats 4000000 in
theorem mt_i185 : mt_All (mm_okI mt_Ts (mt_P xs) (mt_G oA dA) mt_cl mt_X mt_Mt mt_y185 mt_t185) mt_c185 := ⟨trivial, mt_f21_199, ⟨8, by decide⟩, rfl, trivial, trivial, ⟨mt_f21_199, mt_p21_199 _⟩, trivial, trivial, trivial, trivial, trivial, trivial, trivial, trivial, Or.inr ⟨by decide, by decide, mt_m21_203 xs⟩, trivial, trivial, trivial, trivial, trivial, trivial, trivial, trivial, Or.inr ⟨by decide, by decide, mt_m21_203 xs⟩, trivial, trivial, trivial, trivial, trivial, trivial, trivial, trivial, Or.inr ⟨by decide, by decide, mt_m21_203 xs⟩, trivial, trivial, trivial, trivial, trivial, trivial, trivial, trivial, Or.inr ⟨by decide, by decide, mt_m21_203 xs⟩, trivial, trivial, trivial, trivial, trivial, trivial, trivial, trivial, Or.inr ⟨by decide, by decide, mt_m21_203 xs⟩, trivial, trivial, trivial, trivial, trivial, trivial, trivial, trivial, Or.inr ⟨by decide, by decide, mt_m21_203 xs⟩, trivial, trivial, trivial, trivial, trivial, trivial, trivial, trivial, Or.inr ⟨by decide, by decide, mt_m21_203 xs⟩, trivial, trivial, trivial, trivial, trivial, trivial, trivial, trivial, Or.inr ⟨by decide, by decide, mt_m21_203 xs⟩, trivial, trivial, trivial, trivial, trivial, trivial, trivial, trivial, Or.inr ⟨by decide, by decide, mt_m21_203 xs⟩, trivial, trivial, trivial, trivial, trivial, trivial, trivial, trivial, Or.inr ⟨by decide, by decide, mt_m21_203 xs⟩, trivial, trivial, trivial, trivial, trivial, trivial, trivial, trivial, Or.inr ⟨by decide, by decide, mt_m21_203 xs⟩, trivial, trivial, trivial, trivial, trivial, trivial, trivial, trivial, Or.inr ⟨by decide, by decide, mt_m21_203 xs⟩, trivial, trivial, trivial, trivial, trivial, trivial, trivial, trivial, Or.inr ⟨by decide, by decide, mt_m21_203 xs⟩, trivial, trivial, trivial, trivial, trivial, trivial, trivial, trivial, Or.inr ⟨by decide, by decide, mt_m21_203 xs⟩, trivial, trivial, trivial, trivial, trivial, trivial, trivial, trivial, Or.inr ⟨by decide, by decide, mt_m21_203 xs⟩, trivial, trivial, trivial, trivial, trivial, trivial, trivial, trivial, Or.inr ⟨by decide, by decide, mt_m21_203 xs⟩, trivial, trivial, trivial, trivial, trivial, trivial, trivial, trivial, Or.inr ⟨by decide, by decide, mt_m21_203 xs⟩, trivial, trivial, trivial, trivial, trivial, trivial, trivial, trivial, Or.inr ⟨by decide, by decide, mt_m21_203 xs⟩, trivial, trivial, trivial, trivial, trivial, trivial, trivial, trivial, Or.inr ⟨by decide, by decide, mt_m21_203 xs⟩, trivial, trivial, trivial, trivial, trivial, trivial, trivial, trivial, Or.inr ⟨by decide, by decide, mt_m21_203 xs⟩, trivial, trivial, trivial, trivial, trivial, trivial, trivial, trivial, Or.inr ⟨by decide, by decide, mt_m21_203 xs⟩, trivial, trivial, trivial, trivial, trivial, trivial, trivial, trivial, Or.inr ⟨by decide, by decide, mt_m21_203 xs⟩, rfl, trivial⟩
set_option maxRecDepth 100000 in
set_option maxHeartbeats 4000000 in
theorem mt_d185 : mt_c185.all (mt_ckD mt_b185) = true := by decide +kernel
theorem mt_g185 : mt_Good xs oA dA 185 := fun y bytes ret h => by
  obtain ⟨rfl, rfl, rfl⟩ := mt_inj (show some (mt_y185, mt_b185, mt_t185) = some (y, bytes, ret) from h)
  exact ⟨mt_pn21, fun pc en h => ⟨mt_find (mt_i185 xs oA dA) (show mt_at mt_c185 pc = some en from h), mt_findD mt_d185 (show mt_at mt_c185 pc = some en from h)⟩⟩
set_option maxRecDepth 100000 in
set_option maxHeartbeats 4000000 in
theorem mt_i186 : mt_All (mm_okI mt_Ts (mt_P xs) (mt_G oA dA) mt_cl mt_X mt_Mt mt_y186 mt_t186) mt_c186 := ⟨trivial, mt_f21_17, trivial, trivial, trivial, trivial, trivial, Or.inr (Or.inr (Or.inr ⟨rfl, mt_m21_195 xs⟩)), trivial, Or.inr (Or.inr (Or.inr ⟨rfl, mt_m21_195 xs⟩)), trivial, Or.inr (Or.inr (Or.inr ⟨rfl, mt_m21_195 xs⟩)), trivial, Or.inr (Or.inr (Or.inr ⟨rfl, mt_m21_195 xs⟩)), trivial, Or.inr (Or.inr (Or.inr ⟨rfl, mt_m21_195 xs⟩)), trivial, Or.inr (Or.inr (Or.inr ⟨rfl, mt_m21_195 xs⟩)), trivial, rfl, trivial⟩
set_option maxRecDepth 100000 in
set_option maxHeartbeats 4000000 in
theorem mt_d186 : mt_c186.all (mt_ckD mt_b186) = true := by decide +kernel
theorem mt_g186 : mt_Good xs oA dA 186 := fun y bytes ret h => by
  obtain ⟨rfl, rfl, rfl⟩ := mt_inj (show some (mt_y186, mt_b186, mt_t186) = some (y, bytes, ret) from h)
  exact ⟨mt_pn21, fun pc en h => ⟨mt_find (mt_i186 xs oA dA) (show mt_at mt_c186 pc = some en from h), mt_findD mt_d186 (show mt_at mt_c186 pc = some en from h)⟩⟩
set_option maxRecDepth 100000 in
set_option maxHeartbeats 4000000 in
theorem mt_i187 : mt_All (mm_okI mt_Ts (mt_P xs) (mt_G oA dA) mt_cl mt_X mt_Mt mt_y187 mt_t187) mt_c187 := ⟨trivial, ⟨8, by decide⟩, trivial, trivial, trivial, trivial, trivial, trivial, trivial, trivial, trivial, trivial, rfl, trivial⟩
set_option maxRecDepth 100000 in
set_option maxHeartbeats 4000000 in
theorem mt_d187 : mt_c187.all (mt_ckD mt_b187) = true := by decide +kernel
theorem mt_g187 : mt_Good xs oA dA 187 := fun y bytes ret h => by
  obtain ⟨rfl, rfl, rfl⟩ := mt_inj (show some (mt_y187, mt_b187, mt_t187) = some (y, bytes, ret) from h)
  exact ⟨mt_pn21, fun pc en h => ⟨mt_find (mt_i187 xs oA dA) (show mt_at mt_c187 pc = some en from h), mt_findD mt_d187 (show mt_at mt_c187 pc = some en from h)⟩⟩
set_option maxRecDepth 100000 in
set_option maxHeartbeats 4000000 in
theorem mt_i188 : mt_All (mm_okI mt_Ts (mt_P xs) (mt_G oA dA) mt_cl mt_X mt_Mt mt_y188 mt_t188) mt_c188 := ⟨trivial, trivial, mt_f21_207, Or.inr ⟨by decide, by decide, mt_m21_210 xs⟩, trivial, ⟨26, by decide⟩, trivial, trivial, mt_f21_207, Or.inr ⟨by decide, by decide, mt_m21_210 xs⟩, trivial, ⟨39, by decide⟩, trivial, trivial, mt_f21_207, trivial, trivial, ⟨mt_f21_207, mt_p21_207 _⟩, trivial, trivial, trivial, mt_f21_207, ⟨mt_f21_214, mt_p21_214 _⟩, trivial, trivial, mt_f21_207, Or.inr ⟨by decide, by decide, mt_m21_210 xs⟩, trivial, trivial, trivial, ⟨mt_f21_217, mt_p21_217 _⟩, trivial, trivial, ⟨74, by decide⟩, trivial, trivial, ⟨mt_f21_217, mt_p21_217 _⟩, trivial, trivial, Or.inr (Or.inr (Or.inr ⟨rfl, mt_m21_220 xs⟩)), ⟨201, by decide⟩, trivial, trivial, trivial, trivial, ⟨mt_f21_224, mt_p21_224 _⟩, trivial, trivial, mt_f21_207, Or.inr ⟨by decide, by decide, mt_m21_210 xs⟩, Or.inr (Or.inr (Or.inr ⟨rfl, mt_m21_220 xs⟩)), ⟨143, by decide⟩, trivial, trivial, ⟨127, by decide⟩, trivial, trivial, mt_f21_224, trivial, trivial, mt_f21_207, Or.inr ⟨by decide, by decide, mt_m21_210 xs⟩, Or.inr (Or.inr (Or.inr ⟨rfl, mt_m21_195 xs⟩)), ⟨mt_f21_224, mt_p21_224 _⟩, trivial, trivial, trivial, mt_f21_207, trivial, trivial, ⟨mt_f21_207, mt_p21_207 _⟩, trivial, trivial, trivial, ⟨150, by decide⟩, rfl, trivial, trivial, ⟨mt_f21_217, mt_p21_217 _⟩, trivial, trivial, trivial, trivial, ⟨198, by decide⟩, trivial, trivial, mt_f21_17, trivial, trivial, trivial, mt_f21_224, trivial, ⟨185, by decide⟩, trivial, trivial, trivial, trivial, trivial, mt_f21_217, ⟨mt_f21_217, mt_p21_217 _⟩, trivial, trivial, trivial, trivial, trivial, trivial, Or.inr (Or.inr (Or.inr ⟨rfl, mt_m21_191 xs⟩)), ⟨310, by decide⟩, trivial, trivial, trivial, trivial, ⟨mt_f21_228, mt_p21_228 _⟩, trivial, trivial, mt_f21_207, Or.inr ⟨by decide, by decide, mt_m21_210 xs⟩, trivial, trivial, Or.inr (Or.inr (Or.inr ⟨rfl, mt_m21_191 xs⟩)), ⟨282, by decide⟩, trivial, trivial, ⟨266, by decide⟩, trivial, trivial, trivial, mt_f21_228, trivial, trivial, trivial, mt_f21_207, Or.inr ⟨by decide, by decide, mt_m21_210 xs⟩, trivial, trivial, trivial, ⟨mt_f21_228, mt_p21_228 _⟩, trivial, trivial, trivial, mt_f21_207, trivial, trivial, ⟨mt_f21_207, mt_p21_207 _⟩, trivial, trivial, trivial, ⟨307, by decide⟩, trivial, trivial, mt_f21_207, Or.inr ⟨by decide, by decide, mt_m21_210 xs⟩, Or.inr (Or.inr (Or.inr ⟨rfl, mt_m21_231 xs⟩)), ⟨307, by decide⟩, trivial, trivial, ⟨mt_f21_217, mt_p21_217 _⟩, trivial, trivial, trivial, ⟨376, by decide⟩, trivial, trivial, ⟨376, by decide⟩, trivial, trivial, ⟨376, by decide⟩, trivial, trivial, ⟨376, by decide⟩, trivial, trivial, ⟨376, by decide⟩, trivial, trivial, ⟨376, by decide⟩, trivial, trivial, ⟨376, by decide⟩, trivial, trivial, ⟨376, by decide⟩, trivial, trivial, ⟨376, by decide⟩, trivial, trivial, ⟨376, by decide⟩, trivial, trivial, ⟨380, by decide⟩, trivial, trivial, trivial, trivial, trivial, ⟨395, by decide⟩, trivial, trivial, trivial, trivial, ⟨mt_f21_217, mt_p21_217 _⟩, trivial, trivial, mt_f21_207, trivial, trivial, ⟨mt_f21_207, mt_p21_207 _⟩, trivial, trivial, ⟨441, by decide⟩, trivial, trivial, mt_f21_207, Or.inr ⟨by decide, by decide, mt_m21_210 xs⟩, trivial, ⟨441, by decide⟩, trivial, trivial, ⟨mt_f21_217, mt_p21_217 _⟩, trivial, trivial, mt_f21_207, trivial, trivial, ⟨mt_f21_207, mt_p21_207 _⟩, rfl, trivial⟩
set_option maxRecDepth 100000 in
set_option maxHeartbeats 4000000 in
theorem mt_d188 : mt_c188.all (mt_ckD mt_b188) = true := by decide +kernel
theorem mt_g188 : mt_Good xs oA dA 188 := fun y bytes ret h => by
  obtain ⟨rfl, rfl, rfl⟩ := mt_inj (show some (mt_y188, mt_b188, mt_t188) = some (y, bytes, ret) from h)
  exact ⟨mt_pn21, fun pc en h => ⟨mt_find (mt_i188 xs oA dA) (show mt_at mt_c188 pc = some en from h), mt_findD mt_d188 (show mt_at mt_c188 pc = some en from h)⟩⟩
set_option maxRecDepth 100000 in
set_option maxHeartbeats 4000000 in
theorem mt_i189 : mt_All (mm_okI mt_Ts (mt_P xs) (mt_G oA dA) mt_cl mt_X mt_Mt mt_y189 mt_t189) mt_c189 := ⟨trivial, trivial, mt_f21_188, ⟨17, by decide⟩, trivial, mt_f21_7, trivial, trivial, trivial, trivial, rfl, trivial⟩
set_option maxRecDepth 100000 in
set_option maxHeartbeats 4000000 in
theorem mt_d189 : mt_c189.all (mt_ckD mt_b189) = true := by decide +kernel
theorem mt_g189 : mt_Good xs oA dA 189 := fun y bytes ret h => by
  obtain ⟨rfl, rfl, rfl⟩ := mt_inj (show some (mt_y189, mt_b189, mt_t189) = some (y, bytes, ret) from h)
  exact ⟨mt_pn21, fun pc en h => ⟨mt_find (mt_i189 xs oA dA) (show mt_at mt_c189 pc = some en from h), mt_findD mt_d189 (show mt_at mt_c189 pc = some en from h)⟩⟩
set_option maxRecDepth 100000 in
set_option maxHeartbeats 4000000 in
theorem mt_i190 : mt_All (mm_okI mt_Ts (mt_P xs) (mt_G oA dA) mt_cl mt_X mt_Mt mt_y190 mt_t190) mt_c190 := ⟨trivial, trivial, trivial, Or.inr (Or.inr (Or.inr ⟨rfl, mt_m21_191 xs⟩)), rfl, trivial⟩
set_option maxRecDepth 100000 in
set_option maxHeartbeats 4000000 in
theorem mt_d190 : mt_c190.all (mt_ckD mt_b190) = true := by decide +kernel
theorem mt_g190 : mt_Good xs oA dA 190 := fun y bytes ret h => by
  obtain ⟨rfl, rfl, rfl⟩ := mt_inj (show some (mt_y190, mt_b190, mt_t190) = some (y, bytes, ret) from h)
  exact ⟨mt_pn21, fun pc en h => ⟨mt_find (mt_i190 xs oA dA) (show mt_at mt_c190 pc = some en from h), mt_findD mt_d190 (show mt_at mt_c190 pc = some en from h)⟩⟩
set_option maxRecDepth 100000 in
set_option maxHeartbeats 4000000 in
theorem mt_i191 : mt_All (mm_okI mt_Ts (mt_P xs) (mt_G oA dA) mt_cl mt_X mt_Mt mt_y191 mt_t191) mt_c191 := ⟨trivial, trivial, ⟨14, by decide⟩, trivial, trivial, ⟨14, by decide⟩, trivial, trivial, trivial, rfl, trivial⟩
set_option maxRecDepth 100000 in
set_option maxHeartbeats 4000000 in
theorem mt_d191 : mt_c191.all (mt_ckD mt_b191) = true := by decide +kernel
theorem mt_g191 : mt_Good xs oA dA 191 := fun y bytes ret h => by
  obtain ⟨rfl, rfl, rfl⟩ := mt_inj (show some (mt_y191, mt_b191, mt_t191) = some (y, bytes, ret) from h)
  exact ⟨mt_pn21, fun pc en h => ⟨mt_find (mt_i191 xs oA dA) (show mt_at mt_c191 pc = some en from h), mt_findD mt_d191 (show mt_at mt_c191 pc = some en from h)⟩⟩
set_option maxRecDepth 100000 in
set_option maxHeartbeats 4000000 in
theorem mt_i192 : mt_All (mm_okI mt_Ts (mt_P xs) (mt_G oA dA) mt_cl mt_X mt_Mt mt_y192 mt_t192) mt_c192 := ⟨trivial, trivial, trivial, Or.inr (Or.inr (Or.inr ⟨rfl, mt_m21_191 xs⟩)), ⟨22, by decide⟩, trivial, trivial, trivial, Or.inr (Or.inr (Or.inr ⟨rfl, mt_m21_191 xs⟩)), ⟨26, by decide⟩, trivial, trivial, trivial, rfl, trivial⟩
set_option maxRecDepth 100000 in
set_option maxHeartbeats 4000000 in
theorem mt_d192 : mt_c192.all (mt_ckD mt_b192) = true := by decide +kernel
theorem mt_g192 : mt_Good xs oA dA 192 := fun y bytes ret h => by
  obtain ⟨rfl, rfl, rfl⟩ := mt_inj (show some (mt_y192, mt_b192, mt_t192) = some (y, bytes, ret) from h)
  exact ⟨mt_pn21, fun pc en h => ⟨mt_find (mt_i192 xs oA dA) (show mt_at mt_c192 pc = some en from h), mt_findD mt_d192 (show mt_at mt_c192 pc = some en from h)⟩⟩
set_option maxRecDepth 100000 in
set_option maxHeartbeats 4000000 in
theorem mt_i193 : mt_All (mm_okI mt_Ts (mt_P xs) (mt_G oA dA) mt_cl mt_X mt_Mt mt_y193 mt_t193) mt_c193 := ⟨trivial, mt_f21_217, trivial, ⟨15, by decide⟩, trivial, trivial, Or.inr ⟨by decide, by decide, mt_m21_254 xs⟩, rfl, trivial, Or.inr ⟨by decide, by decide, mt_m21_257 xs⟩, trivial, mt_f21_214, trivial, trivial, Or.inr ⟨by decide, by decide, mt_m21_276 xs⟩, ⟨33, by decide⟩, trivial, rfl, trivial, trivial, trivial, mt_f21_263, Or.inr ⟨by decide, by decide, mt_m21_362 xs⟩, trivial, ⟨53, by decide⟩, trivial, trivial, trivial, Or.inr ⟨by decide, by decide, mt_m21_234 xs⟩, rfl, trivial, trivial, Or.inr ⟨by decide, by decide, mt_m21_321 xs⟩, trivial, ⟨70, by decide⟩, trivial, trivial, trivial, Or.inr ⟨by decide, by decide, mt_m21_234 xs⟩, rfl, trivial, mt_f21_263, trivial, trivial, trivial, trivial, mt_f21_217, trivial, ⟨126, by decide⟩, trivial, Or.inr ⟨by decide, by decide, mt_m21_257 xs⟩, trivial, mt_f21_214, trivial, trivial, Or.inr ⟨by decide, by decide, mt_m21_276 xs⟩, ⟨104, by decide⟩, trivial, rfl, trivial, trivial, trivial, mt_f21_263, Or.inr ⟨by decide, by decide, mt_m21_362 xs⟩, trivial, trivial, trivial, ⟨126, by decide⟩, trivial, trivial, trivial, Or.inr ⟨by decide, by decide, mt_m21_234 xs⟩, rfl, trivial, trivial, trivial, Or.inr ⟨by decide, by decide, mt_m21_365 xs⟩, trivial, trivial, trivial, trivial, trivial, trivial, Or.inr ⟨by decide, by decide, mt_m21_337 xs⟩, trivial, trivial, Or.inr ⟨by decide, by decide, mt_m21_289 xs⟩, ⟨154, by decide⟩, trivial, rfl, trivial, trivial, Or.inr ⟨by decide, by decide, mt_m21_251 xs⟩, ⟨174, by decide⟩, trivial, trivial, Or.inr ⟨by decide, by decide, mt_m21_368 xs⟩, ⟨154, by decide⟩, trivial, rfl, trivial, Or.inr ⟨by decide, by decide, mt_m21_257 xs⟩, trivial, rfl, trivial⟩
set_option maxRecDepth 100000 in
set_option maxHeartbeats 4000000 in
theorem mt_d193 : mt_c193.all (mt_ckD mt_b193) = true := by decide +kernel
theorem mt_g193 : mt_Good xs oA dA 193 := fun y bytes ret h => by
  obtain ⟨rfl, rfl, rfl⟩ := mt_inj (show some (mt_y193, mt_b193, mt_t193) = some (y, bytes, ret) from h)
  exact ⟨mt_pn21, fun pc en h => ⟨mt_find (mt_i193 xs oA dA) (show mt_at mt_c193 pc = some en from h), mt_findD mt_d193 (show mt_at mt_c193 pc = some en from h)⟩⟩
set_option maxRecDepth 100000 in
set_option maxHeartbeats 4000000 in
theorem mt_i194 : mt_All (mm_okI mt_Ts (mt_P xs) (mt_G oA dA) mt_cl mt_X mt_Mt mt_y194 mt_t194) mt_c194 := ⟨trivial, trivial, trivial, mt_f21_214, Or.inr ⟨by decide, by decide, mt_m21_234 xs⟩, rfl, trivial⟩
set_option maxRecDepth 100000 in
set_option maxHeartbeats 4000000 in
theorem mt_d194 : mt_c194.all (mt_ckD mt_b194) = true := by decide +kernel
theorem mt_g194 : mt_Good xs oA dA 194 := fun y bytes ret h => by
  obtain ⟨rfl, rfl, rfl⟩ := mt_inj (show some (mt_y194, mt_b194, mt_t194) = some (y, bytes, ret) from h)
  exact ⟨mt_pn21, fun pc en h => ⟨mt_find (mt_i194 xs oA dA) (show mt_at mt_c194 pc = some en from h), mt_findD mt_d194 (show mt_at mt_c194 pc = some en from h)⟩⟩
set_option maxRecDepth 100000 in
set_option maxHeartbeats 4000000 in
theorem mt_i195 : mt_All (mm_okI mt_Ts (mt_P xs) (mt_G oA dA) mt_cl mt_X mt_Mt mt_y195 mt_t195) mt_c195 := ⟨trivial, mt_f21_238, ⟨17, by decide⟩, trivial, trivial, ⟨mt_f21_238, mt_p21_238 _⟩, trivial, trivial, ⟨mt_f21_241, mt_p21_241 _⟩, trivial, rfl, trivial⟩
set_option maxRecDepth 100000 in
set_option maxHeartbeats 4000000 in
theorem mt_d195 : mt_c195.all (mt_ckD mt_b195) = true := by decide +kernel
theorem mt_g195 : mt_Good xs oA dA 195 := fun y bytes ret h => by
  obtain ⟨rfl, rfl, rfl⟩ := mt_inj (show some (mt_y195, mt_b195, mt_t195) = some (y, bytes, ret) from h)
  exact ⟨mt_pn21, fun pc en h => ⟨mt_find (mt_i195 xs oA dA) (show mt_at mt_c195 pc = some en from h), mt_findD mt_d195 (show mt_at mt_c195 pc = some en from h)⟩⟩
set_option maxRecDepth 100000 in
set_option maxHeartbeats 4000000 in
theorem mt_i196 : mt_All (mm_okI mt_Ts (mt_P xs) (mt_G oA dA) mt_cl mt_X mt_Mt mt_y196 mt_t196) mt_c196 := ⟨trivial, mt_f21_217, trivial, ⟨14, by decide⟩, trivial, trivial, Or.inr ⟨by decide, by decide, mt_m21_254 xs⟩, rfl, trivial, trivial, trivial, trivial, mt_f21_260, ⟨44, by decide⟩, trivial, mt_f21_13, trivial, trivial, trivial, mt_f21_224, trivial, ⟨44, by decide⟩, trivial, trivial, trivial, trivial, ⟨56, by decide⟩, trivial, trivial, Or.inr ⟨by decide, by decide, mt_m21_254 xs⟩, rfl, trivial, trivial, mt_f21_260, ⟨84, by decide⟩, trivial, mt_f21_13, trivial, trivial, mt_f21_224, trivial, trivial, trivial, mt_f21_260, trivial, trivial, ⟨mt_f21_260, mt_p21_260 _⟩, trivial, trivial, ⟨mt_f21_263, mt_p21_263 _⟩, trivial, Or.inr ⟨by decide, by decide, mt_m21_257 xs⟩, trivial, rfl, trivial⟩
set_option maxRecDepth 100000 in
set_option maxHeartbeats 4000000 in
theorem mt_d196 : mt_c196.all (mt_ckD mt_b196) = true := by decide +kernel
theorem mt_g196 : mt_Good xs oA dA 196 := fun y bytes ret h => by
  obtain ⟨rfl, rfl, rfl⟩ := mt_inj (show some (mt_y196, mt_b196, mt_t196) = some (y, bytes, ret) from h)
  exact ⟨mt_pn21, fun pc en h => ⟨mt_find (mt_i196 xs oA dA) (show mt_at mt_c196 pc = some en from h), mt_findD mt_d196 (show mt_at mt_c196 pc = some en from h)⟩⟩
set_option maxRecDepth 100000 in
set_option maxHeartbeats 4000000 in
theorem mt_i197 : mt_All (mm_okI mt_Ts (mt_P xs) (mt_G oA dA) mt_cl mt_X mt_Mt mt_y197 mt_t197) mt_c197 := ⟨trivial, trivial, trivial, trivial, trivial, Or.inr ⟨by decide, by decide, mt_m21_321 xs⟩, ⟨30, by decide⟩, trivial, trivial, trivial, trivial, Or.inr ⟨by decide, by decide, mt_m21_324 xs⟩, trivial, ⟨24, by decide⟩, trivial, rfl, trivial, trivial, trivial, rfl, trivial⟩
set_option maxRecDepth 100000 in
set_option maxHeartbeats 4000000 in
theorem mt_d197 : mt_c197.all (mt_ckD mt_b197) = true := by decide +kernel
theorem mt_g197 : mt_Good xs oA dA 197 := fun y bytes ret h => by
  obtain ⟨rfl, rfl, rfl⟩ := mt_inj (show some (mt_y197, mt_b197, mt_t197) = some (y, bytes, ret) from h)
  exact ⟨mt_pn21, fun pc en h => ⟨mt_find (mt_i197 xs oA dA) (show mt_at mt_c197 pc = some en from h), mt_findD mt_d197 (show mt_at mt_c197 pc = some en from h)⟩⟩
set_option maxRecDepth 100000 in
set_option maxHeartbeats 4000000 in
theorem mt_i198 : mt_All (mm_okI mt_Ts (mt_P xs) (mt_G oA dA) mt_cl mt_X mt_Mt mt_y198 mt_t198) mt_c198 := ⟨trivial, mt_f21_28, trivial, trivial, trivial, trivial, rfl, trivial⟩
set_option maxRecDepth 100000 in
set_option maxHeartbeats 4000000 in
theorem mt_d198 : mt_c198.all (mt_ckD mt_b198) = true := by decide +kernel
theorem mt_g198 : mt_Good xs oA dA 198 := fun y bytes ret h => by
  obtain ⟨rfl, rfl, rfl⟩ := mt_inj (show some (mt_y198, mt_b198, mt_t198) = some (y, bytes, ret) from h)
  exact ⟨mt_pn21, fun pc en h => ⟨mt_find (mt_i198 xs oA dA) (show mt_at mt_c198 pc = some en from h), mt_findD mt_d198 (show mt_at mt_c198 pc = some en from h)⟩⟩
set_option maxRecDepth 100000 in
set_option maxHeartbeats 4000000 in
theorem mt_i199 : mt_All (mm_okI mt_Ts (mt_P xs) (mt_G oA dA) mt_cl mt_X mt_Mt mt_y199 mt_t199) mt_c199 := ⟨trivial, mt_f21_28, trivial, trivial, trivial, trivial, trivial, trivial, trivial, trivial, trivial, trivial, trivial, trivial, rfl, trivial⟩
set_option maxRecDepth 100000 in
set_option maxHeartbeats 4000000 in
theorem mt_d199 : mt_c199.all (mt_ckD mt_b199) = true := by decide +kernel
theorem mt_g199 : mt_Good xs oA dA 199 := fun y bytes ret h => by
  obtain ⟨rfl, rfl, rfl⟩ := mt_inj (show some (mt_y199, mt_b199, mt_t199) = some (y, bytes, ret) from h)
  exact ⟨mt_pn21, fun pc en h => ⟨mt_find (mt_i199 xs oA dA) (show mt_at mt_c199 pc = some en from h), mt_findD mt_d199 (show mt_at mt_c199 pc = some en from h)⟩⟩
set_option maxRecDepth 100000 in
set_option maxHeartbeats 4000000 in
theorem mt_i200 : mt_All (mm_okI mt_Ts (mt_P xs) (mt_G oA dA) mt_cl mt_X mt_Mt mt_y200 mt_t200) mt_c200 := ⟨trivial, trivial, Or.inr ⟨by decide, by decide, mt_m21_321 xs⟩, trivial, trivial, mt_f21_28, trivial, trivial, trivial, trivial, trivial, trivial, trivial, trivial, trivial, trivial, trivial, trivial, ⟨45, by decide⟩, trivial, trivial, trivial, trivial, trivial, Or.inr ⟨by decide, by decide, mt_m21_337 xs⟩, trivial, trivial, trivial, trivial, trivial, trivial, trivial, Or.inr ⟨by decide, by decide, mt_m21_337 xs⟩, trivial, trivial, trivial, trivial, trivial, Or.inr ⟨by decide, by decide, mt_m21_337 xs⟩, trivial, trivial, trivial, trivial, trivial, Or.inr ⟨by decide, by decide, mt_m21_337 xs⟩, trivial, trivial, trivial, trivial, trivial, Or.inr ⟨by decide, by decide, mt_m21_337 xs⟩, trivial, rfl, trivial⟩
set_option maxRecDepth 100000 in
set_option maxHeartbeats 4000000 in
theorem mt_d200 : mt_c200.all (mt_ckD mt_b200) = true := by decide +kernel
theorem mt_g200 : mt_Good xs oA dA 200 := fun y bytes ret h => by
  obtain ⟨rfl, rfl, rfl⟩ := mt_inj (show some (mt_y200, mt_b200, mt_t200) = some (y, bytes, ret) from h)
  exact ⟨mt_pn21, fun pc en h => ⟨mt_find (mt_i200 xs oA dA) (show mt_at mt_c200 pc = some en from h), mt_findD mt_d200 (show mt_at mt_c200 pc = some en from h)⟩⟩
set_option maxRecDepth 100000 in
set_option maxHeartbeats 4000000 in
theorem mt_i201 : mt_All (mm_okI mt_Ts (mt_P xs) (mt_G oA dA) mt_cl mt_X mt_Mt mt_y201 mt_t201) mt_c201 := ⟨trivial, mt_f21_28, trivial, trivial, trivial, trivial, trivial, trivial, trivial, trivial, trivial, trivial, trivial, trivial, trivial, rfl, trivial⟩
set_option maxRecDepth 100000 in
set_option maxHeartbeats 4000000 in
theorem mt_d201 : mt_c201.all (mt_ckD mt_b201) = true := by decide +kernel
theorem mt_g201 : mt_Good xs oA dA 201 := fun y bytes ret h => by
  obtain ⟨rfl, rfl, rfl⟩ := mt_inj (show some (mt_y201, mt_b201, mt_t201) = some (y, bytes, ret) from h)
  exact ⟨mt_pn21, fun pc en h => ⟨mt_find (mt_i201 xs oA dA) (show mt_at mt_c201 pc = some en from h), mt_findD mt_d201 (show mt_at mt_c201 pc = some en from h)⟩⟩
set_option maxRecDepth 100000 in
set_option maxHeartbeats 4000000 in
theorem mt_i202 : mt_All (mm_okI mt_Ts (mt_P xs) (mt_G oA dA) mt_cl mt_X mt_Mt mt_y202 mt_t202) mt_c202 := ⟨trivial, trivial, Or.inr ⟨by decide, by decide, mt_m21_251 xs⟩, ⟨14, by decide⟩, trivial, trivial, Or.inr ⟨by decide, by decide, mt_m21_254 xs⟩, rfl, trivial, Or.inr ⟨by decide, by decide, mt_m21_257 xs⟩, trivial, rfl, trivial⟩
set_option maxRecDepth 100000 in
set_option maxHeartbeats 4000000 in
theorem mt_d202 : mt_c202.all (mt_ckD mt_b202) = true := by decide +kernel
theorem mt_g202 : mt_Good xs oA dA 202 := fun y bytes ret h => by
  obtain ⟨rfl, rfl, rfl⟩ := mt_inj (show some (mt_y202, mt_b202, mt_t202) = some (y, bytes, ret) from h)
  exact ⟨mt_pn21, fun pc en h => ⟨mt_find (mt_i202 xs oA dA) (show mt_at mt_c202 pc = some en from h), mt_findD mt_d202 (show mt_at mt_c202 pc = some en from h)⟩⟩
set_option maxRecDepth 100000 in
set_option maxHeartbeats 4000000 in
theorem mt_i203 : mt_All (mm_okI mt_Ts (mt_P xs) (mt_G oA dA) mt_cl mt_X mt_Mt mt_y203 mt_t203) mt_c203 := ⟨trivial, mt_f21_217, trivial, trivial, trivial, ⟨16, by decide⟩, trivial, trivial, trivial, rfl, trivial⟩
set_option maxRecDepth 100000 in
set_option maxHeartbeats 4000000 in
theorem mt_d203 : mt_c203.all (mt_ckD mt_b203) = true := by decide +kernel
theorem mt_g203 : mt_Good xs oA dA 203 := fun y bytes ret h => by
  obtain ⟨rfl, rfl, rfl⟩ := mt_inj (show some (mt_y203, mt_b203, mt_t203) = some (y, bytes, ret) from h)
  exact ⟨mt_pn21, fun pc en h => ⟨mt_find (mt_i203 xs oA dA) (show mt_at mt_c203 pc = some en from h), mt_findD mt_d203 (show mt_at mt_c203 pc = some en from h)⟩⟩
set_option maxRecDepth 100000 in
set_option maxHeartbeats 4000000 in
theorem mt_i204 : mt_All (mm_okI mt_Ts (mt_P xs) (mt_G oA dA) mt_cl mt_X mt_Mt mt_y204 mt_t204) mt_c204 := ⟨trivial, mt_f21_217, trivial, trivial, trivial, trivial, Or.inr (Or.inr (Or.inr ⟨rfl, mt_m21_191 xs⟩)), ⟨22, by decide⟩, trivial, trivial, Or.inr ⟨by decide, by decide, mt_m21_254 xs⟩, rfl, trivial, Or.inr ⟨by decide, by decide, mt_m21_257 xs⟩, trivial, mt_f21_214, trivial, trivial, Or.inr ⟨by decide, by decide, mt_m21_276 xs⟩, ⟨40, by decide⟩, trivial, rfl, trivial, mt_f21_263, trivial, trivial, trivial, ⟨180, by decide⟩, trivial, trivial, ⟨77, by decide⟩, trivial, trivial, trivial, trivial, Or.inr ⟨by decide, by decide, mt_m21_341 xs⟩, trivial, ⟨73, by decide⟩, trivial, trivial, trivial, trivial, trivial, trivial, trivial, trivial, Or.inr ⟨by decide, by decide, mt_m21_334 xs⟩, ⟨99, by decide⟩, trivial, trivial, trivial, trivial, Or.inr ⟨by decide, by decide, mt_m21_347 xs⟩, ⟨103, by decide⟩, trivial, trivial, trivial, trivial, trivial, ⟨118, by decide⟩, trivial, trivial, trivial, Or.inr ⟨by decide, by decide, mt_m21_234 xs⟩, rfl, trivial, trivial, ⟨140, by decide⟩, trivial, trivial, trivial, trivial, Or.inr ⟨by decide, by decide, mt_m21_324 xs⟩, trivial, ⟨180, by decide⟩, trivial, trivial, trivial, ⟨161, by decide⟩, trivial, trivial, trivial, trivial, Or.inr ⟨by decide, by decide, mt_m21_324 xs⟩, trivial, ⟨180, by decide⟩, trivial, trivial, trivial, trivial, trivial, Or.inr ⟨by decide, by decide, mt_m21_324 xs⟩, trivial, ⟨180, by decide⟩, trivial, trivial, trivial, Or.inr ⟨by decide, by decide, mt_m21_234 xs⟩, rfl, trivial, trivial, ⟨242, by decide⟩, trivial, trivial, ⟨mt_f21_312, mt_p21_312 _⟩, trivial, trivial, ⟨mt_f21_266, mt_p21_266 _⟩, trivial, trivial, Or.inr ⟨by decide, by decide, mt_m21_318 xs⟩, ⟨206, by decide⟩, trivial, rfl, trivial, trivial, ⟨223, by decide⟩, trivial, trivial, trivial, trivial, trivial, mt_f21_309, Or.inr ⟨by decide, by decide, mt_m21_350 xs⟩, trivial, trivial, trivial, trivial, trivial, mt_f21_309, trivial, Or.inr ⟨by decide, by decide, mt_m21_269 xs⟩, ⟨mt_f21_302, mt_p21_302 _⟩, trivial, rfl, trivial, trivial, ⟨mt_f21_344, mt_p21_344 _⟩, trivial, trivial, ⟨271, by decide⟩, trivial, trivial, Or.inr ⟨by decide, by decide, mt_m21_289 xs⟩, ⟨269, by decide⟩, trivial, Or.inr ⟨by decide, by decide, mt_m21_353 xs⟩, ⟨271, by decide⟩, trivial, rfl, trivial, trivial, ⟨294, by decide⟩, trivial, trivial, ⟨294, by decide⟩, trivial, trivial, trivial, trivial, trivial, mt_f21_344, Or.inr ⟨by decide, by decide, mt_m21_356 xs⟩, trivial, trivial, ⟨317, by decide⟩, trivial, trivial, ⟨317, by decide⟩, trivial, trivial, trivial, trivial, trivial, mt_f21_344, Or.inr ⟨by decide, by decide, mt_m21_359 xs⟩, trivial, trivial, trivial, trivial, ⟨330, by decide⟩, trivial, trivial, trivial, trivial, trivial, mt_f21_344, trivial, Or.inr ⟨by decide, by decide, mt_m21_269 xs⟩, ⟨mt_f21_302, mt_p21_302 _⟩, trivial, trivial, Or.inr ⟨by decide, by decide, mt_m21_289 xs⟩, rfl, trivial⟩
set_option maxRecDepth 100000 in
set_option maxHeartbeats 4000000 in
theorem mt_d204 : mt_c204.all (mt_ckD mt_b204) = true := by decide +kernel
theorem mt_g204 : mt_Good xs oA dA 204 := fun y bytes ret h => by
  obtain ⟨rfl, rfl, rfl⟩ := mt_inj (show some (mt_y204, mt_b204, mt_t204) = some (y, bytes, ret) from h)
  exact ⟨mt_pn21, fun pc en h => ⟨mt_find (mt_i204 xs oA dA) (show mt_at mt_c204 pc = some en from h), mt_findD mt_d204 (show mt_at mt_c204 pc = some en from h)⟩⟩
set_option maxRecDepth 100000 in
set_option maxHeartbeats 4000000 in
theorem mt_i205 : mt_All (mm_okI mt_Ts (mt_P xs) (mt_G oA dA) mt_cl mt_X mt_Mt mt_y205 mt_t205) mt_c205 := ⟨trivial, trivial, trivial, trivial, trivial, trivial, trivial, Or.inr ⟨by decide, by decide, mt_m21_324 xs⟩, ⟨40, by decide⟩, trivial, trivial, trivial, trivial, trivial, trivial, Or.inr ⟨by decide, by decide, mt_m21_324 xs⟩, trivial, ⟨34, by decide⟩, trivial, rfl, trivial, trivial, trivial, rfl, trivial⟩
set_option maxRecDepth 100000 in
set_option maxHeartbeats 4000000 in
theorem mt_d205 : mt_c205.all (mt_ckD mt_b205) = true := by decide +kernel
theorem mt_g205 : mt_Good xs oA dA 205 := fun y bytes ret h => by
  obtain ⟨rfl, rfl, rfl⟩ := mt_inj (show some (mt_y205, mt_b205, mt_t205) = some (y, bytes, ret) from h)
  exact ⟨mt_pn21, fun pc en h => ⟨mt_find (mt_i205 xs oA dA) (show mt_at mt_c205 pc = some en from h), mt_findD mt_d205 (show mt_at mt_c205 pc = some en from h)⟩⟩
set_option maxRecDepth 100000 in
set_option maxHeartbeats 4000000 in
theorem mt_i206 : mt_All (mm_okI mt_Ts (mt_P xs) (mt_G oA dA) mt_cl mt_X mt_Mt mt_y206 mt_t206) mt_c206 := ⟨trivial, trivial, trivial, trivial, Or.inr ⟨by decide, by decide, mt_m21_328 xs⟩, trivial, ⟨22, by decide⟩, trivial, trivial, trivial, trivial, Or.inr ⟨by decide, by decide, mt_m21_331 xs⟩, trivial, ⟨26, by decide⟩, trivial, trivial, trivial, rfl, trivial⟩
set_option maxRecDepth 100000 in
set_option maxHeartbeats 4000000 in
theorem mt_d206 : mt_c206.all (mt_ckD mt_b206) = true := by decide +kernel
theorem mt_g206 : mt_Good xs oA dA 206 := fun y bytes ret h => by
  obtain ⟨rfl, rfl, rfl⟩ := mt_inj (show some (mt_y206, mt_b206, mt_t206) = some (y, bytes, ret) from h)
  exact ⟨mt_pn21, fun pc en h => ⟨mt_find (mt_i206 xs oA dA) (show mt_at mt_c206 pc = some en from h), mt_findD mt_d206 (show mt_at mt_c206 pc = some en from h)⟩⟩
set_option maxRecDepth 100000 in
set_option maxHeartbeats 4000000 in
theorem mt_i207 : mt_All (mm_okI mt_Ts (mt_P xs) (mt_G oA dA) mt_cl mt_X mt_Mt mt_y207 mt_t207) mt_c207 := ⟨trivial, trivial, trivial, trivial, trivial, trivial, trivial, Or.inr ⟨by decide, by decide, mt_m21_324 xs⟩, ⟨39, by decide⟩, trivial, trivial, trivial, trivial, trivial, trivial, Or.inr ⟨by decide, by decide, mt_m21_324 xs⟩, trivial, ⟨33, by decide⟩, trivial, rfl, trivial, trivial, trivial, rfl, trivial⟩
set_option maxRecDepth 100000 in
set_option maxHeartbeats 4000000 in
theorem mt_d207 : mt_c207.all (mt_ckD mt_b207) = true := by decide +kernel
theorem mt_g207 : mt_Good xs oA dA 207 := fun y bytes ret h => by
  obtain ⟨rfl, rfl, rfl⟩ := mt_inj (show some (mt_y207, mt_b207, mt_t207) = some (y, bytes, ret) from h)
  exact ⟨mt_pn21, fun pc en h => ⟨mt_find (mt_i207 xs oA dA) (show mt_at mt_c207 pc = some en from h), mt_findD mt_d207 (show mt_at mt_c207 pc = some en from h)⟩⟩
end MTI27
