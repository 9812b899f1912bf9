/-! each entry of each method -/
section MTI28
variable (xs : List Int32) (oA : Nat → Nat) (dA : Nat → ClassId)
set_option maxRecDepth 100000 in
set_option maxHeartbeats 4000000 in
theorem mt_i208 : mt_All (mm_okI mt_Ts (mt_P xs) (mt_G oA dA) mt_cl mt_X mt_Mt mt_y208 mt_t208) mt_c208 := ⟨trivial, trivial, trivial, trivial, trivial, trivial, trivial, Or.inr ⟨by decide, by decide, mt_m21_324 xs⟩, ⟨40, by decide⟩, trivial, trivial, trivial, trivial, trivial, trivial, Or.inr ⟨by decide, by decide, mt_m21_324 xs⟩, trivial, ⟨34, by decide⟩, trivial, rfl, trivial, trivial, trivial, rfl, trivial⟩
set_option maxRecDepth 100000 in
set_option maxHeartbeats 4000000 in
theorem mt_d208 : mt_c208.all (mt_ckD mt_b208) = true := by decide +kernel
theorem mt_g208 : mt_Good xs oA dA 208 := fun y bytes ret h => by
  obtain ⟨rfl, rfl, rfl⟩ := mt_inj (show some (mt_y208, mt_b208, mt_t208) = some (y, bytes, ret) from h)
  exact ⟨mt_pn21, fun pc en h => ⟨mt_find (mt_i208 xs oA dA) (show mt_at mt_c208 pc = some en from h), mt_findD mt_d208 (show mt_at mt_c208 pc = some en from h)⟩⟩
set_option maxRecDepth 100000 in
set_option maxHeartbeats 4000000 in
theorem mt_i209 : mt_All (mm_okI mt_Ts (mt_P xs) (mt_G oA dA) mt_cl mt_X mt_Mt mt_y209 mt_t209) mt_c209 := ⟨trivial, trivial, trivial, trivial, Or.inr ⟨by decide, by decide, mt_m21_324 xs⟩, trivial, trivial, trivial, ⟨41, by decide⟩, trivial, trivial, trivial, trivial, Or.inr ⟨by decide, by decide, mt_m21_334 xs⟩, ⟨28, by decide⟩, trivial, rfl, trivial, trivial, trivial, trivial, Or.inr ⟨by decide, by decide, mt_m21_324 xs⟩, trivial, trivial, trivial, rfl, trivial⟩
set_option maxRecDepth 100000 in
set_option maxHeartbeats 4000000 in
theorem mt_d209 : mt_c209.all (mt_ckD mt_b209) = true := by decide +kernel
theorem mt_g209 : mt_Good xs oA dA 209 := fun y bytes ret h => by
  obtain ⟨rfl, rfl, rfl⟩ := mt_inj (show some (mt_y209, mt_b209, mt_t209) = some (y, bytes, ret) from h)
  exact ⟨mt_pn21, fun pc en h => ⟨mt_find (mt_i209 xs oA dA) (show mt_at mt_c209 pc = some en from h), mt_findD mt_d209 (show mt_at mt_c209 pc = some en from h)⟩⟩
set_option maxRecDepth 100000 in
set_option maxHeartbeats 4000000 in
theorem mt_i210 : mt_All (mm_okI mt_Ts (mt_P xs) (mt_G oA dA) mt_cl mt_X mt_Mt mt_y210 mt_t210) mt_c210 := ⟨trivial, trivial, Or.inr ⟨by decide, by decide, mt_m21_289 xs⟩, ⟨11, by decide⟩, trivial, rfl, trivial, trivial, trivial, trivial, trivial, trivial, Or.inr ⟨by decide, by decide, mt_m21_251 xs⟩, ⟨64, by decide⟩, trivial, trivial, Or.inr ⟨by decide, by decide, mt_m21_298 xs⟩, ⟨34, by decide⟩, trivial, rfl, trivial, trivial, ⟨47, by decide⟩, trivial, mt_f21_302, trivial, trivial, trivial, trivial, trivial, mt_f21_302, Or.inr ⟨by decide, by decide, mt_m21_305 xs⟩, trivial, mt_f21_302, trivial, trivial, trivial, Or.inr ⟨by decide, by decide, mt_m21_257 xs⟩, trivial, trivial, ⟨mt_f21_309, mt_p21_309 _⟩, trivial, rfl, trivial⟩
set_option maxRecDepth 100000 in
set_option maxHeartbeats 4000000 in
theorem mt_d210 : mt_c210.all (mt_ckD mt_b210) = true := by decide +kernel
theorem mt_g210 : mt_Good xs oA dA 210 := fun y bytes ret h => by
  obtain ⟨rfl, rfl, rfl⟩ := mt_inj (show some (mt_y210, mt_b210, mt_t210) = some (y, bytes, ret) from h)
  exact ⟨mt_pn21, fun pc en h => ⟨mt_find (mt_i210 xs oA dA) (show mt_at mt_c210 pc = some en from h), mt_findD mt_d210 (show mt_at mt_c210 pc = some en from h)⟩⟩
set_option maxRecDepth 100000 in
set_option maxHeartbeats 4000000 in
theorem mt_i211 : mt_All (mm_okI mt_Ts (mt_P xs) (mt_G oA dA) mt_cl mt_X mt_Mt mt_y211 mt_t211) mt_c211 := ⟨trivial, mt_f21_217, trivial, trivial, trivial, ⟨21, by decide⟩, trivial, trivial, trivial, Or.inr (Or.inr (Or.inr ⟨rfl, mt_m21_191 xs⟩)), ⟨25, by decide⟩, trivial, trivial, trivial, trivial, trivial, ⟨37, by decide⟩, trivial, trivial, Or.inr ⟨by decide, by decide, mt_m21_254 xs⟩, rfl, trivial, trivial, ⟨53, by decide⟩, trivial, ⟨53, by decide⟩, trivial, trivial, Or.inr ⟨by decide, by decide, mt_m21_254 xs⟩, rfl, trivial, mt_f21_312, trivial, ⟨68, by decide⟩, trivial, trivial, Or.inr ⟨by decide, by decide, mt_m21_254 xs⟩, rfl, trivial, trivial, mt_f21_312, trivial, trivial, ⟨mt_f21_312, mt_p21_312 _⟩, trivial, trivial, ⟨89, by decide⟩, trivial, Or.inr ⟨by decide, by decide, mt_m21_315 xs⟩, rfl, trivial, trivial, ⟨151, by decide⟩, trivial, Or.inr ⟨by decide, by decide, mt_m21_276 xs⟩, ⟨103, by decide⟩, trivial, rfl, trivial, mt_f21_263, trivial, trivial, trivial, Or.inr ⟨by decide, by decide, mt_m21_289 xs⟩, ⟨125, by decide⟩, trivial, Or.inr ⟨by decide, by decide, mt_m21_286 xs⟩, ⟨127, by decide⟩, trivial, rfl, trivial, trivial, trivial, trivial, trivial, mt_f21_273, trivial, Or.inr ⟨by decide, by decide, mt_m21_269 xs⟩, ⟨mt_f21_302, mt_p21_302 _⟩, trivial, trivial, Or.inr ⟨by decide, by decide, mt_m21_289 xs⟩, rfl, trivial, Or.inr ⟨by decide, by decide, mt_m21_257 xs⟩, trivial, trivial, ⟨167, by decide⟩, trivial, trivial, ⟨206, by decide⟩, trivial, Or.inr ⟨by decide, by decide, mt_m21_286 xs⟩, ⟨176, by decide⟩, trivial, rfl, trivial, trivial, trivial, trivial, ⟨189, by decide⟩, trivial, trivial, trivial, trivial, mt_f21_273, trivial, trivial, Or.inr ⟨by decide, by decide, mt_m21_269 xs⟩, ⟨mt_f21_302, mt_p21_302 _⟩, trivial, trivial, trivial, ⟨218, by decide⟩, trivial, trivial, ⟨279, by decide⟩, trivial, Or.inr ⟨by decide, by decide, mt_m21_276 xs⟩, ⟨227, by decide⟩, trivial, rfl, trivial, mt_f21_263, trivial, trivial, trivial, ⟨248, by decide⟩, trivial, Or.inr ⟨by decide, by decide, mt_m21_276 xs⟩, ⟨248, by decide⟩, trivial, rfl, trivial, trivial, trivial, trivial, ⟨261, by decide⟩, trivial, trivial, trivial, trivial, trivial, mt_f21_263, trivial, Or.inr ⟨by decide, by decide, mt_m21_269 xs⟩, ⟨mt_f21_302, mt_p21_302 _⟩, trivial, trivial, trivial, trivial, trivial, ⟨292, by decide⟩, trivial, trivial, trivial, trivial, trivial, trivial, Or.inr ⟨by decide, by decide, mt_m21_269 xs⟩, ⟨mt_f21_302, mt_p21_302 _⟩, trivial, trivial, Or.inr ⟨by decide, by decide, mt_m21_289 xs⟩, rfl, trivial⟩
set_option maxRecDepth 100000 in
set_option maxHeartbeats 4000000 in
theorem mt_d211 : mt_c211.all (mt_ckD mt_b211) = true := by decide +kernel
theorem mt_g211 : mt_Good xs oA dA 211 := fun y bytes ret h => by
  obtain ⟨rfl, rfl, rfl⟩ := mt_inj (show some (mt_y211, mt_b211, mt_t211) = some (y, bytes, ret) from h)
  exact ⟨mt_pn21, fun pc en h => ⟨mt_find (mt_i211 xs oA dA) (show mt_at mt_c211 pc = some en from h), mt_findD mt_d211 (show mt_at mt_c211 pc = some en from h)⟩⟩
set_option maxRecDepth 100000 in
set_option maxHeartbeats 4000000 in
theorem mt_i212 : mt_All (mm_okI mt_Ts (mt_P xs) (mt_G oA dA) mt_cl mt_X mt_Mt mt_y212 mt_t212) mt_c212 := ⟨trivial, Or.inr ⟨by decide, by decide, mt_m21_280 xs⟩, ⟨14, by decide⟩, trivial, Or.inr ⟨by decide, by decide, mt_m21_286 xs⟩, ⟨16, by decide⟩, trivial, rfl, trivial, mt_f21_273, trivial, trivial, trivial, Or.inr ⟨by decide, by decide, mt_m21_318 xs⟩, ⟨31, by decide⟩, trivial, rfl, trivial, mt_f21_309, trivial, trivial, trivial, trivial, mt_f21_217, trivial, ⟨66, by decide⟩, trivial, Or.inr ⟨by decide, by decide, mt_m21_257 xs⟩, trivial, trivial, Or.inr ⟨by decide, by decide, mt_m21_318 xs⟩, ⟨61, by decide⟩, trivial, rfl, trivial, mt_f21_309, trivial, trivial, trivial, mt_f21_266, trivial, trivial, ⟨mt_f21_266, mt_p21_266 _⟩, trivial, trivial, trivial, trivial, trivial, trivial, Or.inr ⟨by decide, by decide, mt_m21_269 xs⟩, ⟨mt_f21_302, mt_p21_302 _⟩, trivial, rfl, trivial⟩
set_option maxRecDepth 100000 in
set_option maxHeartbeats 4000000 in
theorem mt_d212 : mt_c212.all (mt_ckD mt_b212) = true := by decide +kernel
theorem mt_g212 : mt_Good xs oA dA 212 := fun y bytes ret h => by
  obtain ⟨rfl, rfl, rfl⟩ := mt_inj (show some (mt_y212, mt_b212, mt_t212) = some (y, bytes, ret) from h)
  exact ⟨mt_pn21, fun pc en h => ⟨mt_find (mt_i212 xs oA dA) (show mt_at mt_c212 pc = some en from h), mt_findD mt_d212 (show mt_at mt_c212 pc = some en from h)⟩⟩
set_option maxRecDepth 100000 in
set_option maxHeartbeats 4000000 in
theorem mt_i213 : mt_All (mm_okI mt_Ts (mt_P xs) (mt_G oA dA) mt_cl mt_X mt_Mt mt_y213 mt_t213) mt_c213 := ⟨trivial, mt_f21_266, trivial, ⟨15, by decide⟩, trivial, trivial, Or.inr ⟨by decide, by decide, mt_m21_254 xs⟩, rfl, trivial, trivial, mt_f21_266, trivial, trivial, ⟨mt_f21_266, mt_p21_266 _⟩, trivial, Or.inr ⟨by decide, by decide, mt_m21_257 xs⟩, trivial, rfl, trivial⟩
set_option maxRecDepth 100000 in
set_option maxHeartbeats 4000000 in
theorem mt_d213 : mt_c213.all (mt_ckD mt_b213) = true := by decide +kernel
theorem mt_g213 : mt_Good xs oA dA 213 := fun y bytes ret h => by
  obtain ⟨rfl, rfl, rfl⟩ := mt_inj (show some (mt_y213, mt_b213, mt_t213) = some (y, bytes, ret) from h)
  exact ⟨mt_pn21, fun pc en h => ⟨mt_find (mt_i213 xs oA dA) (show mt_at mt_c213 pc = some en from h), mt_findD mt_d213 (show mt_at mt_c213 pc = some en from h)⟩⟩
set_option maxRecDepth 100000 in
set_option maxHeartbeats 4000000 in
theorem mt_i214 : mt_All (mm_okI mt_Ts (mt_P xs) (mt_G oA dA) mt_cl mt_X mt_Mt mt_y214 mt_t214) mt_c214 := ⟨trivial, Or.inr ⟨by decide, by decide, mt_m21_295 xs⟩, ⟨9, by decide⟩, trivial, rfl, trivial, trivial, Or.inr ⟨by decide, by decide, mt_m21_251 xs⟩, ⟨30, by decide⟩, trivial, mt_f21_217, trivial, ⟨30, by decide⟩, trivial, rfl, trivial, mt_f21_217, trivial, ⟨45, by decide⟩, trivial, trivial, trivial, trivial, trivial, mt_f21_273, trivial, trivial, Or.inr ⟨by decide, by decide, mt_m21_257 xs⟩, trivial, Or.inr ⟨by decide, by decide, mt_m21_295 xs⟩, ⟨66, by decide⟩, trivial, rfl, trivial, trivial, trivial, trivial, trivial, mt_f21_273, trivial, Or.inr ⟨by decide, by decide, mt_m21_269 xs⟩, ⟨mt_f21_273, mt_p21_273 _⟩, trivial, rfl, trivial⟩
set_option maxRecDepth 100000 in
set_option maxHeartbeats 4000000 in
theorem mt_d214 : mt_c214.all (mt_ckD mt_b214) = true := by decide +kernel
theorem mt_g214 : mt_Good xs oA dA 214 := fun y bytes ret h => by
  obtain ⟨rfl, rfl, rfl⟩ := mt_inj (show some (mt_y214, mt_b214, mt_t214) = some (y, bytes, ret) from h)
  exact ⟨mt_pn21, fun pc en h => ⟨mt_find (mt_i214 xs oA dA) (show mt_at mt_c214 pc = some en from h), mt_findD mt_d214 (show mt_at mt_c214 pc = some en from h)⟩⟩
set_option maxRecDepth 100000 in
set_option maxHeartbeats 4000000 in
theorem mt_i215 : mt_All (mm_okI mt_Ts (mt_P xs) (mt_G oA dA) mt_cl mt_X mt_Mt mt_y215 mt_t215) mt_c215 := ⟨trivial, Or.inr ⟨by decide, by decide, mt_m21_292 xs⟩, ⟨9, by decide⟩, trivial, rfl, trivial, trivial, Or.inr ⟨by decide, by decide, mt_m21_251 xs⟩, ⟨27, by decide⟩, trivial, trivial, Or.inr ⟨by decide, by decide, mt_m21_251 xs⟩, ⟨80, by decide⟩, trivial, trivial, Or.inr ⟨by decide, by decide, mt_m21_251 xs⟩, ⟨41, by decide⟩, trivial, trivial, trivial, trivial, trivial, mt_f21_273, trivial, trivial, Or.inr ⟨by decide, by decide, mt_m21_257 xs⟩, trivial, Or.inr ⟨by decide, by decide, mt_m21_292 xs⟩, ⟨62, by decide⟩, trivial, rfl, trivial, trivial, trivial, trivial, trivial, mt_f21_273, trivial, Or.inr ⟨by decide, by decide, mt_m21_269 xs⟩, ⟨mt_f21_273, mt_p21_273 _⟩, trivial, trivial, rfl, trivial⟩
set_option maxRecDepth 100000 in
set_option maxHeartbeats 4000000 in
theorem mt_d215 : mt_c215.all (mt_ckD mt_b215) = true := by decide +kernel
theorem mt_g215 : mt_Good xs oA dA 215 := fun y bytes ret h => by
  obtain ⟨rfl, rfl, rfl⟩ := mt_inj (show some (mt_y215, mt_b215, mt_t215) = some (y, bytes, ret) from h)
  exact ⟨mt_pn21, fun pc en h => ⟨mt_find (mt_i215 xs oA dA) (show mt_at mt_c215 pc = some en from h), mt_findD mt_d215 (show mt_at mt_c215 pc = some en from h)⟩⟩
set_option maxRecDepth 100000 in
set_option maxHeartbeats 4000000 in
theorem mt_i216 : mt_All (mm_okI mt_Ts (mt_P xs) (mt_G oA dA) mt_cl mt_X mt_Mt mt_y216 mt_t216) mt_c216 := ⟨trivial, Or.inr ⟨by decide, by decide, mt_m21_283 xs⟩, ⟨9, by decide⟩, trivial, rfl, trivial, trivial, Or.inr ⟨by decide, by decide, mt_m21_251 xs⟩, ⟨27, by decide⟩, trivial, trivial, Or.inr ⟨by decide, by decide, mt_m21_251 xs⟩, ⟨80, by decide⟩, trivial, trivial, Or.inr ⟨by decide, by decide, mt_m21_251 xs⟩, ⟨41, by decide⟩, trivial, trivial, trivial, trivial, trivial, mt_f21_273, trivial, trivial, Or.inr ⟨by decide, by decide, mt_m21_257 xs⟩, trivial, Or.inr ⟨by decide, by decide, mt_m21_283 xs⟩, ⟨62, by decide⟩, trivial, rfl, trivial, trivial, trivial, trivial, trivial, mt_f21_273, trivial, Or.inr ⟨by decide, by decide, mt_m21_269 xs⟩, ⟨mt_f21_273, mt_p21_273 _⟩, trivial, trivial, rfl, trivial⟩
set_option maxRecDepth 100000 in
set_option maxHeartbeats 4000000 in
theorem mt_d216 : mt_c216.all (mt_ckD mt_b216) = true := by decide +kernel
theorem mt_g216 : mt_Good xs oA dA 216 := fun y bytes ret h => by
  obtain ⟨rfl, rfl, rfl⟩ := mt_inj (show some (mt_y216, mt_b216, mt_t216) = some (y, bytes, ret) from h)
  exact ⟨mt_pn21, fun pc en h => ⟨mt_find (mt_i216 xs oA dA) (show mt_at mt_c216 pc = some en from h), mt_findD mt_d216 (show mt_at mt_c216 pc = some en from h)⟩⟩
set_option maxRecDepth 100000 in
set_option maxHeartbeats 4000000 in
theorem mt_i217 : mt_All (mm_okI mt_Ts (mt_P xs) (mt_G oA dA) mt_cl mt_X mt_Mt mt_y217 mt_t217) mt_c217 := ⟨trivial, mt_f21_217, trivial, ⟨29, by decide⟩, trivial, trivial, trivial, trivial, mt_f21_228, trivial, trivial, Or.inr ⟨by decide, by decide, mt_m21_269 xs⟩, ⟨mt_f21_273, mt_p21_273 _⟩, trivial, Or.inr ⟨by decide, by decide, mt_m21_257 xs⟩, trivial, rfl, trivial, mt_f21_217, trivial, ⟨63, by decide⟩, trivial, Or.inr ⟨by decide, by decide, mt_m21_276 xs⟩, ⟨46, by decide⟩, trivial, rfl, trivial, trivial, trivial, trivial, mt_f21_263, trivial, trivial, Or.inr ⟨by decide, by decide, mt_m21_269 xs⟩, ⟨mt_f21_273, mt_p21_273 _⟩, trivial, rfl, trivial, mt_f21_217, trivial, ⟨81, by decide⟩, trivial, mt_f21_217, trivial, ⟨112, by decide⟩, trivial, trivial, trivial, mt_f21_217, trivial, ⟨96, by decide⟩, trivial, trivial, trivial, trivial, trivial, trivial, Or.inr ⟨by decide, by decide, mt_m21_269 xs⟩, ⟨mt_f21_273, mt_p21_273 _⟩, trivial, Or.inr ⟨by decide, by decide, mt_m21_257 xs⟩, trivial, rfl, trivial, trivial, Or.inr ⟨by decide, by decide, mt_m21_251 xs⟩, ⟨164, by decide⟩, trivial, Or.inr ⟨by decide, by decide, mt_m21_280 xs⟩, ⟨135, by decide⟩, trivial, Or.inr ⟨by decide, by decide, mt_m21_283 xs⟩, ⟨137, by decide⟩, trivial, rfl, trivial, trivial, mt_f21_266, trivial, trivial, ⟨mt_f21_266, mt_p21_266 _⟩, trivial, trivial, trivial, trivial, mt_f21_273, trivial, trivial, Or.inr ⟨by decide, by decide, mt_m21_269 xs⟩, ⟨mt_f21_273, mt_p21_273 _⟩, trivial, rfl, trivial, trivial, Or.inr ⟨by decide, by decide, mt_m21_251 xs⟩, ⟨179, by decide⟩, trivial, trivial, Or.inr ⟨by decide, by decide, mt_m21_254 xs⟩, rfl, trivial, Or.inr ⟨by decide, by decide, mt_m21_280 xs⟩, ⟨202, by decide⟩, trivial, Or.inr ⟨by decide, by decide, mt_m21_286 xs⟩, ⟨202, by decide⟩, trivial, trivial, Or.inr ⟨by decide, by decide, mt_m21_289 xs⟩, ⟨204, by decide⟩, trivial, rfl, trivial, trivial, mt_f21_266, trivial, trivial, ⟨mt_f21_266, mt_p21_266 _⟩, trivial, rfl, trivial⟩
set_option maxRecDepth 100000 in
set_option maxHeartbeats 4000000 in
theorem mt_d217 : mt_c217.all (mt_ckD mt_b217) = true := by decide +kernel
theorem mt_g217 : mt_Good xs oA dA 217 := fun y bytes ret h => by
  obtain ⟨rfl, rfl, rfl⟩ := mt_inj (show some (mt_y217, mt_b217, mt_t217) = some (y, bytes, ret) from h)
  exact ⟨mt_pn21, fun pc en h => ⟨mt_find (mt_i217 xs oA dA) (show mt_at mt_c217 pc = some en from h), mt_findD mt_d217 (show mt_at mt_c217 pc = some en from h)⟩⟩
set_option maxRecDepth 100000 in
set_option maxHeartbeats 4000000 in
theorem mt_i218 : mt_All (mm_okI mt_Ts (mt_P xs) (mt_G oA dA) mt_cl mt_X mt_Mt mt_y218 mt_t218) mt_c218 := ⟨trivial, mt_f21_244, trivial, trivial, trivial, mt_f21_244, trivial, trivial, ⟨mt_f21_244, mt_p21_244 _⟩, trivial, trivial, trivial, trivial, trivial, trivial, trivial, mt_f21_25, trivial, trivial, trivial, trivial, mt_f21_25, trivial, trivial, trivial, trivial, trivial, trivial, mt_f21_25, trivial, trivial, trivial, trivial, trivial, trivial, mt_f21_25, trivial, trivial, trivial, trivial, trivial, trivial, mt_f21_25, trivial, trivial, trivial, trivial, trivial, trivial, rfl, trivial⟩
set_option maxRecDepth 100000 in
set_option maxHeartbeats 4000000 in
theorem mt_d218 : mt_c218.all (mt_ckD mt_b218) = true := by decide +kernel
theorem mt_g218 : mt_Good xs oA dA 218 := fun y bytes ret h => by
  obtain ⟨rfl, rfl, rfl⟩ := mt_inj (show some (mt_y218, mt_b218, mt_t218) = some (y, bytes, ret) from h)
  exact ⟨mt_pn21, fun pc en h => ⟨mt_find (mt_i218 xs oA dA) (show mt_at mt_c218 pc = some en from h), mt_findD mt_d218 (show mt_at mt_c218 pc = some en from h)⟩⟩
set_option maxRecDepth 100000 in
set_option maxHeartbeats 4000000 in
theorem mt_i219 : mt_All (mm_okI mt_Ts (mt_P xs) (mt_G oA dA) mt_cl mt_X mt_Mt mt_y219 mt_t219) mt_c219 := ⟨trivial, mt_f21_25, trivial, trivial, trivial, trivial, trivial, trivial, trivial, trivial, trivial, rfl, trivial⟩
set_option maxRecDepth 100000 in
set_option maxHeartbeats 4000000 in
theorem mt_d219 : mt_c219.all (mt_ckD mt_b219) = true := by decide +kernel
theorem mt_g219 : mt_Good xs oA dA 219 := fun y bytes ret h => by
  obtain ⟨rfl, rfl, rfl⟩ := mt_inj (show some (mt_y219, mt_b219, mt_t219) = some (y, bytes, ret) from h)
  exact ⟨mt_pn21, fun pc en h => ⟨mt_find (mt_i219 xs oA dA) (show mt_at mt_c219 pc = some en from h), mt_findD mt_d219 (show mt_at mt_c219 pc = some en from h)⟩⟩
set_option maxRecDepth 100000 in
set_option maxHeartbeats 4000000 in
theorem mt_i220 : mt_All (mm_okI mt_Ts (mt_P xs) (mt_G oA dA) mt_cl mt_X mt_Mt mt_y220 mt_t220) mt_c220 := ⟨trivial, trivial, trivial, trivial, Or.inr ⟨by decide, by decide, mt_m21_341 xs⟩, trivial, trivial, trivial, ⟨37, by decide⟩, trivial, trivial, trivial, trivial, Or.inr ⟨by decide, by decide, mt_m21_324 xs⟩, trivial, trivial, trivial, trivial, trivial, trivial, trivial, trivial, Or.inr ⟨by decide, by decide, mt_m21_337 xs⟩, trivial, trivial, trivial, trivial, trivial, trivial, trivial, Or.inr ⟨by decide, by decide, mt_m21_337 xs⟩, trivial, trivial, trivial, trivial, trivial, trivial, trivial, Or.inr ⟨by decide, by decide, mt_m21_337 xs⟩, rfl, trivial⟩
set_option maxRecDepth 100000 in
set_option maxHeartbeats 4000000 in
theorem mt_d220 : mt_c220.all (mt_ckD mt_b220) = true := by decide +kernel
theorem mt_g220 : mt_Good xs oA dA 220 := fun y bytes ret h => by
  obtain ⟨rfl, rfl, rfl⟩ := mt_inj (show some (mt_y220, mt_b220, mt_t220) = some (y, bytes, ret) from h)
  exact ⟨mt_pn21, fun pc en h => ⟨mt_find (mt_i220 xs oA dA) (show mt_at mt_c220 pc = some en from h), mt_findD mt_d220 (show mt_at mt_c220 pc = some en from h)⟩⟩
set_option maxRecDepth 100000 in
set_option maxHeartbeats 4000000 in
theorem mt_i221 : mt_All (mm_okI mt_Ts (mt_P xs) (mt_G oA dA) mt_cl mt_X mt_Mt mt_y221 mt_t221) mt_c221 := ⟨trivial, trivial, Or.inr ⟨by decide, by decide, mt_m21_251 xs⟩, trivial, trivial, ⟨15, by decide⟩, trivial, Or.inr ⟨by decide, by decide, mt_m21_257 xs⟩, trivial, mt_f21_217, trivial, ⟨29, by decide⟩, trivial, trivial, Or.inr ⟨by decide, by decide, mt_m21_254 xs⟩, rfl, trivial, trivial, ⟨42, by decide⟩, trivial, mt_f21_228, trivial, trivial, trivial, mt_f21_228, ⟨mt_f21_344, mt_p21_344 _⟩, trivial, Or.inr ⟨by decide, by decide, mt_m21_257 xs⟩, trivial, rfl, trivial⟩
set_option maxRecDepth 100000 in
set_option maxHeartbeats 4000000 in
theorem mt_d221 : mt_c221.all (mt_ckD mt_b221) = true := by decide +kernel
theorem mt_g221 : mt_Good xs oA dA 221 := fun y bytes ret h => by
  obtain ⟨rfl, rfl, rfl⟩ := mt_inj (show some (mt_y221, mt_b221, mt_t221) = some (y, bytes, ret) from h)
  exact ⟨mt_pn21, fun pc en h => ⟨mt_find (mt_i221 xs oA dA) (show mt_at mt_c221 pc = some en from h), mt_findD mt_d221 (show mt_at mt_c221 pc = some en from h)⟩⟩
set_option maxRecDepth 100000 in
set_option maxHeartbeats 4000000 in
theorem mt_i222 : mt_All (mm_okI mt_Ts (mt_P xs) (mt_G oA dA) mt_cl mt_X mt_Mt mt_y222 mt_t222) mt_c222 := ⟨trivial, trivial, trivial, trivial, Or.inr ⟨by decide, by decide, mt_m21_324 xs⟩, trivial, trivial, trivial, trivial, trivial, trivial, trivial, trivial, Or.inr ⟨by decide, by decide, mt_m21_337 xs⟩, trivial, trivial, trivial, trivial, trivial, trivial, trivial, Or.inr ⟨by decide, by decide, mt_m21_337 xs⟩, trivial, trivial, trivial, trivial, trivial, trivial, trivial, Or.inr ⟨by decide, by decide, mt_m21_337 xs⟩, rfl, trivial⟩
set_option maxRecDepth 100000 in
set_option maxHeartbeats 4000000 in
theorem mt_d222 : mt_c222.all (mt_ckD mt_b222) = true := by decide +kernel
theorem mt_g222 : mt_Good xs oA dA 222 := fun y bytes ret h => by
  obtain ⟨rfl, rfl, rfl⟩ := mt_inj (show some (mt_y222, mt_b222, mt_t222) = some (y, bytes, ret) from h)
  exact ⟨mt_pn21, fun pc en h => ⟨mt_find (mt_i222 xs oA dA) (show mt_at mt_c222 pc = some en from h), mt_findD mt_d222 (show mt_at mt_c222 pc = some en from h)⟩⟩
set_option maxRecDepth 100000 in
set_option maxHeartbeats 4000000 in
theorem mt_i223 : mt_All (mm_okI mt_Ts (mt_P xs) (mt_G oA dA) mt_cl mt_X mt_Mt mt_y223 mt_t223) mt_c223 := ⟨trivial, trivial, trivial, trivial, Or.inr ⟨by decide, by decide, mt_m21_324 xs⟩, trivial, trivial, trivial, trivial, trivial, trivial, trivial, trivial, Or.inr ⟨by decide, by decide, mt_m21_337 xs⟩, trivial, trivial, trivial, trivial, trivial, trivial, trivial, Or.inr ⟨by decide, by decide, mt_m21_337 xs⟩, trivial, trivial, trivial, trivial, trivial, trivial, trivial, Or.inr ⟨by decide, by decide, mt_m21_337 xs⟩, trivial, trivial, trivial, trivial, trivial, trivial, trivial, Or.inr ⟨by decide, by decide, mt_m21_337 xs⟩, rfl, trivial⟩
set_option maxRecDepth 100000 in
set_option maxHeartbeats 4000000 in
theorem mt_d223 : mt_c223.all (mt_ckD mt_b223) = true := by decide +kernel
theorem mt_g223 : mt_Good xs oA dA 223 := fun y bytes ret h => by
  obtain ⟨rfl, rfl, rfl⟩ := mt_inj (show some (mt_y223, mt_b223, mt_t223) = some (y, bytes, ret) from h)
  exact ⟨mt_pn21, fun pc en h => ⟨mt_find (mt_i223 xs oA dA) (show mt_at mt_c223 pc = some en from h), mt_findD mt_d223 (show mt_at mt_c223 pc = some en from h)⟩⟩
set_option maxRecDepth 100000 in
set_option maxHeartbeats 4000000 in
theorem mt_i224 : mt_All (mm_okI mt_Ts (mt_P xs) (mt_G oA dA) mt_cl mt_X mt_Mt mt_y224 mt_t224) mt_c224 := ⟨trivial, trivial, mt_f21_238, ⟨mt_f21_374, mt_p21_374 _⟩, trivial, trivial, mt_f21_238, ⟨20, by decide⟩, trivial, trivial, trivial, mt_f21_241, ⟨mt_f21_20, mt_p21_20 _⟩, trivial, trivial, ⟨mt_f21_188, mt_p21_188 _⟩, rfl, trivial⟩
set_option maxRecDepth 100000 in
set_option maxHeartbeats 4000000 in
theorem mt_d224 : mt_c224.all (mt_ckD mt_b224) = true := by decide +kernel
theorem mt_g224 : mt_Good xs oA dA 224 := fun y bytes ret h => by
  obtain ⟨rfl, rfl, rfl⟩ := mt_inj (show some (mt_y224, mt_b224, mt_t224) = some (y, bytes, ret) from h)
  exact ⟨mt_pn21, fun pc en h => ⟨mt_find (mt_i224 xs oA dA) (show mt_at mt_c224 pc = some en from h), mt_findD mt_d224 (show mt_at mt_c224 pc = some en from h)⟩⟩
set_option maxRecDepth 100000 in
set_option maxHeartbeats 4000000 in
theorem mt_i225 : mt_All (mm_okI mt_Ts (mt_P xs) (mt_G oA dA) mt_cl mt_X mt_Mt mt_y225 mt_t225) mt_c225 := ⟨trivial, trivial, trivial, trivial, trivial, mt_f21_244, trivial, ⟨40, by decide⟩, trivial, mt_f21_25, trivial, trivial, trivial, trivial, trivial, trivial, mt_f21_25, ⟨rfl, mt_in8 (i := 162) rfl⟩, trivial, trivial, trivial, trivial, trivial, trivial, rfl, trivial⟩
set_option maxRecDepth 100000 in
set_option maxHeartbeats 4000000 in
theorem mt_d225 : mt_c225.all (mt_ckD mt_b225) = true := by decide +kernel
theorem mt_g225 : mt_Good xs oA dA 225 := fun y bytes ret h => by
  obtain ⟨rfl, rfl, rfl⟩ := mt_inj (show some (mt_y225, mt_b225, mt_t225) = some (y, bytes, ret) from h)
  exact ⟨mt_pn21, fun pc en h => ⟨mt_find (mt_i225 xs oA dA) (show mt_at mt_c225 pc = some en from h), mt_findD mt_d225 (show mt_at mt_c225 pc = some en from h)⟩⟩
set_option maxRecDepth 100000 in
set_option maxHeartbeats 4000000 in
theorem mt_i226 : mt_All (mm_okI mt_Ts (mt_P xs) (mt_G oA dA) mt_cl mt_X mt_Mt mt_y226 mt_t226) mt_c226 := ⟨trivial, trivial, trivial, trivial, ⟨39, by decide⟩, trivial, mt_f21_28, trivial, trivial, trivial, trivial, trivial, trivial, mt_f21_28, trivial, trivial, trivial, trivial, trivial, trivial, trivial, trivial, trivial, rfl, trivial⟩
set_option maxRecDepth 100000 in
set_option maxHeartbeats 4000000 in
theorem mt_d226 : mt_c226.all (mt_ckD mt_b226) = true := by decide +kernel
theorem mt_g226 : mt_Good xs oA dA 226 := fun y bytes ret h => by
  obtain ⟨rfl, rfl, rfl⟩ := mt_inj (show some (mt_y226, mt_b226, mt_t226) = some (y, bytes, ret) from h)
  exact ⟨mt_pn21, fun pc en h => ⟨mt_find (mt_i226 xs oA dA) (show mt_at mt_c226 pc = some en from h), mt_findD mt_d226 (show mt_at mt_c226 pc = some en from h)⟩⟩
set_option maxRecDepth 100000 in
set_option maxHeartbeats 4000000 in
theorem mt_i227 : mt_All (mm_okI mt_Ts (mt_P xs) (mt_G oA dA) mt_cl mt_X mt_Mt mt_y227 mt_t227) mt_c227 := ⟨trivial, mt_f21_397, trivial, ⟨20, by decide⟩, trivial, trivial, ⟨mt_f21_238, mt_p21_238 _⟩, trivial, Or.inr ⟨by decide, by decide, mt_m21_384 xs⟩, trivial, rfl, trivial, Or.inr ⟨by decide, by decide, mt_m21_378 xs⟩, trivial, Or.inr ⟨by decide, by decide, mt_m21_412 xs⟩, trivial, trivial, mt_f21_302, trivial, trivial, mt_f21_302, trivial, trivial, ⟨79, by decide⟩, trivial, mt_f21_217, ⟨79, by decide⟩, trivial, Or.inr ⟨by decide, by decide, mt_m21_412 xs⟩, trivial, trivial, ⟨62, by decide⟩, trivial, trivial, trivial, trivial, mt_f21_302, Or.inr ⟨by decide, by decide, mt_m21_305 xs⟩, trivial, mt_f21_302, trivial, trivial, trivial, Or.inr ⟨by decide, by decide, mt_m21_384 xs⟩, trivial, ⟨89, by decide⟩, trivial, rfl, trivial, trivial, mt_f21_397, trivial, trivial, Or.inr ⟨by decide, by decide, mt_m21_387 xs⟩, trivial, mt_f21_40, trivial, mt_f21_397, trivial, trivial, mt_f21_397, trivial, trivial, trivial, trivial, trivial, trivial, trivial, mt_f21_43, trivial, mt_f21_397, trivial, trivial, trivial, trivial, mt_f21_397, trivial, trivial, ⟨mt_f21_397, mt_p21_397 _⟩, trivial, mt_f21_397, trivial, trivial, rfl, trivial⟩
set_option maxRecDepth 100000 in
set_option maxHeartbeats 4000000 in
theorem mt_d227 : mt_c227.all (mt_ckD mt_b227) = true := by decide +kernel
theorem mt_g227 : mt_Good xs oA dA 227 := fun y bytes ret h => by
  obtain ⟨rfl, rfl, rfl⟩ := mt_inj (show some (mt_y227, mt_b227, mt_t227) = some (y, bytes, ret) from h)
  exact ⟨mt_pn21, fun pc en h => ⟨mt_find (mt_i227 xs oA dA) (show mt_at mt_c227 pc = some en from h), mt_findD mt_d227 (show mt_at mt_c227 pc = some en from h)⟩⟩
set_option maxRecDepth 100000 in
set_option maxHeartbeats 4000000 in
theorem mt_i228 : mt_All (mm_okI mt_Ts (mt_P xs) (mt_G oA dA) mt_cl mt_X mt_Mt mt_y228 mt_t228) mt_c228 := ⟨trivial, mt_f21_217, trivial, trivial, trivial, ⟨34, by decide⟩, trivial, trivial, trivial, Or.inr (Or.inr (Or.inr ⟨rfl, mt_m21_191 xs⟩)), ⟨34, by decide⟩, trivial, trivial, ⟨34, by decide⟩, trivial, trivial, Or.inr ⟨by decide, by decide, mt_m21_254 xs⟩, rfl, trivial, Or.inr ⟨by decide, by decide, mt_m21_257 xs⟩, trivial, Or.inr ⟨by decide, by decide, mt_m21_276 xs⟩, ⟨47, by decide⟩, trivial, rfl, trivial, mt_f21_263, trivial, trivial, trivial, ⟨100, by decide⟩, trivial, Or.inr ⟨by decide, by decide, mt_m21_406 xs⟩, ⟨67, by decide⟩, trivial, rfl, trivial, mt_f21_344, trivial, trivial, trivial, Or.inr ⟨by decide, by decide, mt_m21_409 xs⟩, ⟨82, by decide⟩, trivial, rfl, trivial, trivial, trivial, trivial, trivial, trivial, mt_f21_309, Or.inr ⟨by decide, by decide, mt_m21_269 xs⟩, ⟨mt_f21_302, mt_p21_302 _⟩, trivial, rfl, trivial, trivial, ⟨134, by decide⟩, trivial, trivial, Or.inr ⟨by decide, by decide, mt_m21_409 xs⟩, ⟨116, by decide⟩, trivial, rfl, trivial, trivial, trivial, trivial, trivial, trivial, mt_f21_309, Or.inr ⟨by decide, by decide, mt_m21_269 xs⟩, ⟨mt_f21_302, mt_p21_302 _⟩, trivial, rfl, trivial, trivial, ⟨177, by decide⟩, trivial, trivial, ⟨mt_f21_266, mt_p21_266 _⟩, trivial, Or.inr ⟨by decide, by decide, mt_m21_286 xs⟩, ⟨154, by decide⟩, trivial, rfl, trivial, trivial, trivial, trivial, trivial, mt_f21_273, trivial, Or.inr ⟨by decide, by decide, mt_m21_269 xs⟩, ⟨mt_f21_302, mt_p21_302 _⟩, trivial, trivial, Or.inr ⟨by decide, by decide, mt_m21_289 xs⟩, rfl, trivial, trivial, ⟨192, by decide⟩, trivial, Or.inr ⟨by decide, by decide, mt_m21_406 xs⟩, ⟨192, by decide⟩, trivial, rfl, trivial, trivial, trivial, trivial, ⟨205, by decide⟩, trivial, trivial, trivial, trivial, trivial, mt_f21_344, trivial, Or.inr ⟨by decide, by decide, mt_m21_269 xs⟩, ⟨mt_f21_302, mt_p21_302 _⟩, trivial, trivial, Or.inr ⟨by decide, by decide, mt_m21_289 xs⟩, rfl, trivial⟩
set_option maxRecDepth 100000 in
set_option maxHeartbeats 4000000 in
theorem mt_d228 : mt_c228.all (mt_ckD mt_b228) = true := by decide +kernel
theorem mt_g228 : mt_Good xs oA dA 228 := fun y bytes ret h => by
  obtain ⟨rfl, rfl, rfl⟩ := mt_inj (show some (mt_y228, mt_b228, mt_t228) = some (y, bytes, ret) from h)
  exact ⟨mt_pn21, fun pc en h => ⟨mt_find (mt_i228 xs oA dA) (show mt_at mt_c228 pc = some en from h), mt_findD mt_d228 (show mt_at mt_c228 pc = some en from h)⟩⟩
set_option maxRecDepth 100000 in
set_option maxHeartbeats 4000000 in
theorem mt_i229 : mt_All (mm_okI mt_Ts (mt_P xs) (mt_G oA dA) mt_cl mt_X mt_Mt mt_y229 mt_t229) mt_c229 := ⟨trivial, trivial, ⟨mt_f21_344, mt_p21_344 _⟩, trivial, mt_f21_217, trivial, ⟨16, by decide⟩, trivial, rfl, trivial, Or.inr ⟨by decide, by decide, mt_m21_257 xs⟩, trivial, Or.inr ⟨by decide, by decide, mt_m21_276 xs⟩, ⟨29, by decide⟩, trivial, rfl, trivial, trivial, mt_f21_263, ⟨mt_f21_344, mt_p21_344 _⟩, trivial, rfl, trivial⟩
set_option maxRecDepth 100000 in
set_option maxHeartbeats 4000000 in
theorem mt_d229 : mt_c229.all (mt_ckD mt_b229) = true := by decide +kernel
theorem mt_g229 : mt_Good xs oA dA 229 := fun y bytes ret h => by
  obtain ⟨rfl, rfl, rfl⟩ := mt_inj (show some (mt_y229, mt_b229, mt_t229) = some (y, bytes, ret) from h)
  exact ⟨mt_pn21, fun pc en h => ⟨mt_find (mt_i229 xs oA dA) (show mt_at mt_c229 pc = some en from h), mt_findD mt_d229 (show mt_at mt_c229 pc = some en from h)⟩⟩
set_option maxRecDepth 100000 in
set_option maxHeartbeats 4000000 in
theorem mt_i230 : mt_All (mm_okI mt_Ts (mt_P xs) (mt_G oA dA) mt_cl mt_X mt_Mt mt_y230 mt_t230) mt_c230 := ⟨trivial, trivial, Or.inr ⟨by decide, by decide, mt_m21_289 xs⟩, ⟨11, by decide⟩, trivial, rfl, trivial, trivial, trivial, trivial, trivial, trivial, Or.inr ⟨by decide, by decide, mt_m21_251 xs⟩, ⟨78, by decide⟩, trivial, ⟨38, by decide⟩, trivial, Or.inr ⟨by decide, by decide, mt_m21_403 xs⟩, ⟨48, by decide⟩, trivial, trivial, trivial, Or.inr ⟨by decide, by decide, mt_m21_368 xs⟩, ⟨48, by decide⟩, trivial, rfl, trivial, trivial, ⟨61, by decide⟩, trivial, mt_f21_302, trivial, trivial, trivial, trivial, trivial, mt_f21_302, Or.inr ⟨by decide, by decide, mt_m21_305 xs⟩, trivial, mt_f21_302, trivial, trivial, trivial, Or.inr ⟨by decide, by decide, mt_m21_257 xs⟩, trivial, trivial, ⟨mt_f21_309, mt_p21_309 _⟩, trivial, rfl, trivial⟩
set_option maxRecDepth 100000 in
set_option maxHeartbeats 4000000 in
theorem mt_d230 : mt_c230.all (mt_ckD mt_b230) = true := by decide +kernel
theorem mt_g230 : mt_Good xs oA dA 230 := fun y bytes ret h => by
  obtain ⟨rfl, rfl, rfl⟩ := mt_inj (show some (mt_y230, mt_b230, mt_t230) = some (y, bytes, ret) from h)
  exact ⟨mt_pn21, fun pc en h => ⟨mt_find (mt_i230 xs oA dA) (show mt_at mt_c230 pc = some en from h), mt_findD mt_d230 (show mt_at mt_c230 pc = some en from h)⟩⟩
set_option maxRecDepth 100000 in
set_option maxHeartbeats 4000000 in
theorem mt_i231 : mt_All (mm_okI mt_Ts (mt_P xs) (mt_G oA dA) mt_cl mt_X mt_Mt mt_y231 mt_t231) mt_c231 := ⟨trivial, mt_f21_217, trivial, ⟨45, by decide⟩, trivial, Or.inr ⟨by decide, by decide, mt_m21_257 xs⟩, trivial, Or.inr ⟨by decide, by decide, mt_m21_276 xs⟩, ⟨22, by decide⟩, trivial, rfl, trivial, trivial, trivial, trivial, mt_f21_263, trivial, trivial, Or.inr ⟨by decide, by decide, mt_m21_269 xs⟩, ⟨mt_f21_302, mt_p21_302 _⟩, trivial, trivial, Or.inr ⟨by decide, by decide, mt_m21_289 xs⟩, rfl, trivial, mt_f21_217, trivial, ⟨104, by decide⟩, trivial, Or.inr ⟨by decide, by decide, mt_m21_257 xs⟩, trivial, Or.inr ⟨by decide, by decide, mt_m21_276 xs⟩, ⟨67, by decide⟩, trivial, rfl, trivial, mt_f21_263, trivial, trivial, Or.inr ⟨by decide, by decide, mt_m21_276 xs⟩, ⟨81, by decide⟩, trivial, rfl, trivial, trivial, trivial, trivial, trivial, mt_f21_263, trivial, Or.inr ⟨by decide, by decide, mt_m21_269 xs⟩, ⟨mt_f21_302, mt_p21_302 _⟩, trivial, trivial, Or.inr ⟨by decide, by decide, mt_m21_289 xs⟩, rfl, trivial, mt_f21_217, trivial, ⟨119, by decide⟩, trivial, trivial, Or.inr ⟨by decide, by decide, mt_m21_368 xs⟩, rfl, trivial, Or.inr ⟨by decide, by decide, mt_m21_257 xs⟩, trivial, Or.inr ⟨by decide, by decide, mt_m21_276 xs⟩, ⟨132, by decide⟩, trivial, rfl, trivial, mt_f21_263, trivial, trivial, trivial, ⟨mt_f21_266, mt_p21_266 _⟩, trivial, Or.inr ⟨by decide, by decide, mt_m21_286 xs⟩, ⟨151, by decide⟩, trivial, rfl, trivial, trivial, trivial, trivial, trivial, mt_f21_273, trivial, Or.inr ⟨by decide, by decide, mt_m21_269 xs⟩, ⟨mt_f21_302, mt_p21_302 _⟩, trivial, trivial, Or.inr ⟨by decide, by decide, mt_m21_289 xs⟩, rfl, trivial⟩
set_option maxRecDepth 100000 in
set_option maxHeartbeats 4000000 in
theorem mt_d231 : mt_c231.all (mt_ckD mt_b231) = true := by decide +kernel
theorem mt_g231 : mt_Good xs oA dA 231 := fun y bytes ret h => by
  obtain ⟨rfl, rfl, rfl⟩ := mt_inj (show some (mt_y231, mt_b231, mt_t231) = some (y, bytes, ret) from h)
  exact ⟨mt_pn21, fun pc en h => ⟨mt_find (mt_i231 xs oA dA) (show mt_at mt_c231 pc = some en from h), mt_findD mt_d231 (show mt_at mt_c231 pc = some en from h)⟩⟩
set_option maxRecDepth 100000 in
set_option maxHeartbeats 4000000 in
theorem mt_i232 : mt_All (mm_okI mt_Ts (mt_P xs) (mt_G oA dA) mt_cl mt_X mt_Mt mt_y232 mt_t232) mt_c232 := ⟨trivial, ⟨11, by decide⟩, trivial, mt_f21_374, trivial, trivial, trivial, ⟨23, by decide⟩, trivial, mt_f21_20, trivial, trivial, rfl, trivial⟩
set_option maxRecDepth 100000 in
set_option maxHeartbeats 4000000 in
theorem mt_d232 : mt_c232.all (mt_ckD mt_b232) = true := by decide +kernel
theorem mt_g232 : mt_Good xs oA dA 232 := fun y bytes ret h => by
  obtain ⟨rfl, rfl, rfl⟩ := mt_inj (show some (mt_y232, mt_b232, mt_t232) = some (y, bytes, ret) from h)
  exact ⟨mt_pn21, fun pc en h => ⟨mt_find (mt_i232 xs oA dA) (show mt_at mt_c232 pc = some en from h), mt_findD mt_d232 (show mt_at mt_c232 pc = some en from h)⟩⟩
set_option maxRecDepth 100000 in
set_option maxHeartbeats 4000000 in
theorem mt_i233 : mt_All (mm_okI mt_Ts (mt_P xs) (mt_G oA dA) mt_cl mt_X mt_Mt mt_y233 mt_t233) mt_c233 := ⟨trivial, mt_f21_188, trivial, trivial, trivial, ⟨15, by decide⟩, trivial, rfl, trivial, trivial, trivial, trivial, ⟨115, by decide⟩, trivial, trivial, ⟨35, by decide⟩, trivial, trivial, trivial, trivial, ⟨46, by decide⟩, trivial, trivial, trivial, trivial, ⟨57, by decide⟩, trivial, trivial, trivial, trivial, ⟨69, by decide⟩, trivial, trivial, trivial, trivial, trivial, mt_f21_7, trivial, mt_f21_188, trivial, trivial, trivial, trivial, trivial, trivial, trivial, trivial, trivial, trivial, trivial, trivial, trivial, trivial, mt_f21_188, trivial, trivial, ⟨mt_f21_188, mt_p21_188 _⟩, trivial, trivial, trivial, mt_f21_188, rfl, trivial⟩
set_option maxRecDepth 100000 in
set_option maxHeartbeats 4000000 in
theorem mt_d233 : mt_c233.all (mt_ckD mt_b233) = true := by decide +kernel
theorem mt_g233 : mt_Good xs oA dA 233 := fun y bytes ret h => by
  obtain ⟨rfl, rfl, rfl⟩ := mt_inj (show some (mt_y233, mt_b233, mt_t233) = some (y, bytes, ret) from h)
  exact ⟨mt_pn21, fun pc en h => ⟨mt_find (mt_i233 xs oA dA) (show mt_at mt_c233 pc = some en from h), mt_findD mt_d233 (show mt_at mt_c233 pc = some en from h)⟩⟩
set_option maxRecDepth 100000 in
set_option maxHeartbeats 4000000 in
theorem mt_i234 : mt_All (mm_okI mt_Ts (mt_P xs) (mt_G oA dA) mt_cl mt_X mt_Mt mt_y234 mt_t234) mt_c234 := ⟨trivial, trivial, trivial, mt_f21_188, Or.inr (Or.inr (Or.inr ⟨rfl, mt_m21_191 xs⟩)), ⟨14, by decide⟩, trivial, rfl, trivial, trivial, ⟨mt_f21_188, mt_p21_188 _⟩, trivial, rfl, trivial⟩
set_option maxRecDepth 100000 in
set_option maxHeartbeats 4000000 in
theorem mt_d234 : mt_c234.all (mt_ckD mt_b234) = true := by decide +kernel
theorem mt_g234 : mt_Good xs oA dA 234 := fun y bytes ret h => by
  obtain ⟨rfl, rfl, rfl⟩ := mt_inj (show some (mt_y234, mt_b234, mt_t234) = some (y, bytes, ret) from h)
  exact ⟨mt_pn21, fun pc en h => ⟨mt_find (mt_i234 xs oA dA) (show mt_at mt_c234 pc = some en from h), mt_findD mt_d234 (show mt_at mt_c234 pc = some en from h)⟩⟩
set_option maxRecDepth 100000 in
set_option maxHeartbeats 4000000 in
theorem mt_i235 : mt_All (mm_okI mt_Ts (mt_P xs) (mt_G oA dA) mt_cl mt_X mt_Mt mt_y235 mt_t235) mt_c235 := ⟨trivial, mt_f21_374, trivial, trivial, mt_f21_20, trivial, trivial, Or.inr ⟨by decide, by decide, mt_m21_378 xs⟩, trivial, mt_f21_217, trivial, ⟨40, by decide⟩, trivial, Or.inr ⟨by decide, by decide, mt_m21_276 xs⟩, ⟨40, by decide⟩, trivial, mt_f21_217, ⟨40, by decide⟩, trivial, trivial, trivial, trivial, trivial, trivial, ⟨mt_f21_238, mt_p21_238 _⟩, trivial, trivial, ⟨mt_f21_188, mt_p21_188 _⟩, trivial, trivial, ⟨mt_f21_374, mt_p21_374 _⟩, trivial, trivial, ⟨mt_f21_20, mt_p21_20 _⟩, trivial, ⟨73, by decide⟩, trivial, mt_f21_263, trivial, trivial, rfl, trivial⟩
set_option maxRecDepth 100000 in
set_option maxHeartbeats 4000000 in
theorem mt_d235 : mt_c235.all (mt_ckD mt_b235) = true := by decide +kernel
theorem mt_g235 : mt_Good xs oA dA 235 := fun y bytes ret h => by
  obtain ⟨rfl, rfl, rfl⟩ := mt_inj (show some (mt_y235, mt_b235, mt_t235) = some (y, bytes, ret) from h)
  exact ⟨mt_pn21, fun pc en h => ⟨mt_find (mt_i235 xs oA dA) (show mt_at mt_c235 pc = some en from h), mt_findD mt_d235 (show mt_at mt_c235 pc = some en from h)⟩⟩
set_option maxRecDepth 100000 in
set_option maxHeartbeats 4000000 in
theorem mt_i236 : mt_All (mm_okI mt_Ts (mt_P xs) (mt_G oA dA) mt_cl mt_X mt_Mt mt_y236 mt_t236) mt_c236 := ⟨trivial, trivial, trivial, Or.inr ⟨by decide, by decide, mt_m21_362 xs⟩, trivial, trivial, trivial, ⟨21, by decide⟩, trivial, mt_f21_394, trivial, ⟨23, by decide⟩, trivial, rfl, trivial, mt_f21_394, trivial, trivial, trivial, mt_f21_394, trivial, trivial, ⟨mt_f21_394, mt_p21_394 _⟩, trivial, mt_f21_46, trivial, trivial, trivial, trivial, mt_f21_50, trivial, trivial, trivial, trivial, trivial, trivial, trivial, ⟨132, by decide⟩, trivial, trivial, trivial, trivial, Or.inr ⟨by decide, by decide, mt_m21_415 xs⟩, trivial, trivial, mt_f21_53, trivial, trivial, trivial, trivial, trivial, trivial, trivial, ⟨93, by decide⟩, trivial, trivial, trivial, trivial, trivial, trivial, trivial, trivial, trivial, trivial, Or.inr ⟨by decide, by decide, mt_m21_328 xs⟩, trivial, Or.inr ⟨by decide, by decide, mt_m21_324 xs⟩, trivial, trivial, mt_f21_59, trivial, trivial, trivial, trivial, trivial, trivial, trivial, trivial, trivial, trivial, mt_f21_92, trivial, trivial, trivial, trivial, rfl, trivial⟩
set_option maxRecDepth 100000 in
set_option maxHeartbeats 4000000 in
theorem mt_d236 : mt_c236.all (mt_ckD mt_b236) = true := by decide +kernel
theorem mt_g236 : mt_Good xs oA dA 236 := fun y bytes ret h => by
  obtain ⟨rfl, rfl, rfl⟩ := mt_inj (show some (mt_y236, mt_b236, mt_t236) = some (y, bytes, ret) from h)
  exact ⟨mt_pn21, fun pc en h => ⟨mt_find (mt_i236 xs oA dA) (show mt_at mt_c236 pc = some en from h), mt_findD mt_d236 (show mt_at mt_c236 pc = some en from h)⟩⟩
set_option maxRecDepth 100000 in
set_option maxHeartbeats 4000000 in
theorem mt_i237 : mt_All (mm_okI mt_Ts (mt_P xs) (mt_G oA dA) mt_cl mt_X mt_Mt mt_y237 mt_t237) mt_c237 := ⟨trivial, trivial, trivial, trivial, ⟨34, by decide⟩, trivial, trivial, trivial, trivial, Or.inr ⟨by decide, by decide, mt_m21_328 xs⟩, trivial, ⟨34, by decide⟩, trivial, trivial, trivial, trivial, Or.inr ⟨by decide, by decide, mt_m21_324 xs⟩, trivial, trivial, trivial, rfl, trivial⟩
set_option maxRecDepth 100000 in
set_option maxHeartbeats 4000000 in
theorem mt_d237 : mt_c237.all (mt_ckD mt_b237) = true := by decide +kernel
theorem mt_g237 : mt_Good xs oA dA 237 := fun y bytes ret h => by
  obtain ⟨rfl, rfl, rfl⟩ := mt_inj (show some (mt_y237, mt_b237, mt_t237) = some (y, bytes, ret) from h)
  exact ⟨mt_pn21, fun pc en h => ⟨mt_find (mt_i237 xs oA dA) (show mt_at mt_c237 pc = some en from h), mt_findD mt_d237 (show mt_at mt_c237 pc = some en from h)⟩⟩
set_option maxRecDepth 100000 in
set_option maxHeartbeats 4000000 in
theorem mt_i238 : mt_All (mm_okI mt_Ts (mt_P xs) (mt_G oA dA) mt_cl mt_X mt_Mt mt_y238 mt_t238) mt_c238 := ⟨trivial, trivial, Or.inr ⟨by decide, by decide, mt_m21_321 xs⟩, rfl, trivial⟩
set_option maxRecDepth 100000 in
set_option maxHeartbeats 4000000 in
theorem mt_d238 : mt_c238.all (mt_ckD mt_b238) = true := by decide +kernel
theorem mt_g238 : mt_Good xs oA dA 238 := fun y bytes ret h => by
  obtain ⟨rfl, rfl, rfl⟩ := mt_inj (show some (mt_y238, mt_b238, mt_t238) = some (y, bytes, ret) from h)
  exact ⟨mt_pn21, fun pc en h => ⟨mt_find (mt_i238 xs oA dA) (show mt_at mt_c238 pc = some en from h), mt_findD mt_d238 (show mt_at mt_c238 pc = some en from h)⟩⟩
set_option maxRecDepth 100000 in
set_option maxHeartbeats 4000000 in
theorem mt_i239 : mt_All (mm_okI mt_Ts (mt_P xs) (mt_G oA dA) mt_cl mt_X mt_Mt mt_y239 mt_t239) mt_c239 := ⟨trivial, trivial, trivial, trivial, Or.inr ⟨by decide, by decide, mt_m21_321 xs⟩, trivial, trivial, Or.inr (Or.inr (Or.inr ⟨rfl, mt_m21_191 xs⟩)), ⟨17, by decide⟩, trivial, rfl, trivial, trivial, trivial, trivial, trivial, trivial, Or.inr ⟨by decide, by decide, mt_m21_324 xs⟩, rfl, trivial, trivial, trivial, trivial, Or.inr ⟨by decide, by decide, mt_m21_324 xs⟩, trivial, ⟨79, by decide⟩, trivial, trivial, trivial, trivial, trivial, trivial, trivial, trivial, Or.inr ⟨by decide, by decide, mt_m21_324 xs⟩, trivial, Or.inr ⟨by decide, by decide, mt_m21_324 xs⟩, rfl, trivial, trivial, trivial, trivial, Or.inr ⟨by decide, by decide, mt_m21_324 xs⟩, rfl, trivial, trivial, trivial, trivial, Or.inr ⟨by decide, by decide, mt_m21_324 xs⟩, rfl, trivial, trivial, trivial, trivial, Or.inr ⟨by decide, by decide, mt_m21_324 xs⟩, rfl, trivial, trivial, trivial, trivial, Or.inr ⟨by decide, by decide, mt_m21_324 xs⟩, rfl, trivial, rfl, trivial⟩
set_option maxRecDepth 100000 in
set_option maxHeartbeats 4000000 in
theorem mt_d239 : mt_c239.all (mt_ckD mt_b239) = true := by decide +kernel
theorem mt_g239 : mt_Good xs oA dA 239 := fun y bytes ret h => by
  obtain ⟨rfl, rfl, rfl⟩ := mt_inj (show some (mt_y239, mt_b239, mt_t239) = some (y, bytes, ret) from h)
  exact ⟨mt_pn21, fun pc en h => ⟨mt_find (mt_i239 xs oA dA) (show mt_at mt_c239 pc = some en from h), mt_findD mt_d239 (show mt_at mt_c239 pc = some en from h)⟩⟩
set_option maxRecDepth 100000 in
set_option maxHeartbeats 4000000 in
theorem mt_i240 : mt_All (mm_okI mt_Ts (mt_P xs) (mt_G oA dA) mt_cl mt_X mt_Mt mt_y240 mt_t240) mt_c240 := ⟨trivial, trivial, Or.inr ⟨by decide, by decide, mt_m21_418 xs⟩, ⟨23, by decide⟩, trivial, trivial, trivial, mt_f21_50, trivial, trivial, trivial, Or.inr ⟨by decide, by decide, mt_m21_324 xs⟩, trivial, trivial, rfl, trivial⟩
set_option maxRecDepth 100000 in
set_option maxHeartbeats 4000000 in
theorem mt_d240 : mt_c240.all (mt_ckD mt_b240) = true := by decide +kernel
theorem mt_g240 : mt_Good xs oA dA 240 := fun y bytes ret h => by
  obtain ⟨rfl, rfl, rfl⟩ := mt_inj (show some (mt_y240, mt_b240, mt_t240) = some (y, bytes, ret) from h)
  exact ⟨mt_pn21, fun pc en h => ⟨mt_find (mt_i240 xs oA dA) (show mt_at mt_c240 pc = some en from h), mt_findD mt_d240 (show mt_at mt_c240 pc = some en from h)⟩⟩
set_option maxRecDepth 100000 in
set_option maxHeartbeats 4000000 in
theorem mt_i241 : mt_All (mm_okI mt_Ts (mt_P xs) (mt_G oA dA) mt_cl mt_X mt_Mt mt_y241 mt_t241) mt_c241 := ⟨trivial, trivial, trivial, mt_f21_394, trivial, trivial, Or.inr (Or.inr (Or.inr ⟨rfl, mt_m21_191 xs⟩)), ⟨27, by decide⟩, trivial, mt_f21_46, trivial, trivial, ⟨27, by decide⟩, trivial, trivial, trivial, rfl, trivial⟩
set_option maxRecDepth 100000 in
set_option maxHeartbeats 4000000 in
theorem mt_d241 : mt_c241.all (mt_ckD mt_b241) = true := by decide +kernel
theorem mt_g241 : mt_Good xs oA dA 241 := fun y bytes ret h => by
  obtain ⟨rfl, rfl, rfl⟩ := mt_inj (show some (mt_y241, mt_b241, mt_t241) = some (y, bytes, ret) from h)
  exact ⟨mt_pn21, fun pc en h => ⟨mt_find (mt_i241 xs oA dA) (show mt_at mt_c241 pc = some en from h), mt_findD mt_d241 (show mt_at mt_c241 pc = some en from h)⟩⟩
set_option maxRecDepth 100000 in
set_option maxHeartbeats 4000000 in
theorem mt_i242 : mt_All (mm_okI mt_Ts (mt_P xs) (mt_G oA dA) mt_cl mt_X mt_Mt mt_y242 mt_t242) mt_c242 := ⟨trivial, trivial, Or.inr ⟨by decide, by decide, mt_m21_418 xs⟩, ⟨23, by decide⟩, trivial, trivial, trivial, mt_f21_50, trivial, trivial, trivial, Or.inr ⟨by decide, by decide, mt_m21_324 xs⟩, trivial, trivial, rfl, trivial⟩
set_option maxRecDepth 100000 in
set_option maxHeartbeats 4000000 in
theorem mt_d242 : mt_c242.all (mt_ckD mt_b242) = true := by decide +kernel
theorem mt_g242 : mt_Good xs oA dA 242 := fun y bytes ret h => by
  obtain ⟨rfl, rfl, rfl⟩ := mt_inj (show some (mt_y242, mt_b242, mt_t242) = some (y, bytes, ret) from h)
  exact ⟨mt_pn21, fun pc en h => ⟨mt_find (mt_i242 xs oA dA) (show mt_at mt_c242 pc = some en from h), mt_findD mt_d242 (show mt_at mt_c242 pc = some en from h)⟩⟩
set_option maxRecDepth 100000 in
set_option maxHeartbeats 4000000 in
theorem mt_i243 : mt_All (mm_okI mt_Ts (mt_P xs) (mt_G oA dA) mt_cl mt_X mt_Mt mt_y243 mt_t243) mt_c243 := ⟨trivial, trivial, Or.inr ⟨by decide, by decide, mt_m21_418 xs⟩, ⟨35, by decide⟩, trivial, Or.inr (Or.inr (Or.inr ⟨rfl, mt_m21_421 xs⟩)), ⟨35, by decide⟩, trivial, trivial, trivial, mt_f21_50, trivial, trivial, trivial, Or.inr ⟨by decide, by decide, mt_m21_415 xs⟩, trivial, ⟨35, by decide⟩, trivial, trivial, trivial, rfl, trivial⟩
set_option maxRecDepth 100000 in
set_option maxHeartbeats 4000000 in
theorem mt_d243 : mt_c243.all (mt_ckD mt_b243) = true := by decide +kernel
theorem mt_g243 : mt_Good xs oA dA 243 := fun y bytes ret h => by
  obtain ⟨rfl, rfl, rfl⟩ := mt_inj (show some (mt_y243, mt_b243, mt_t243) = some (y, bytes, ret) from h)
  exact ⟨mt_pn21, fun pc en h => ⟨mt_find (mt_i243 xs oA dA) (show mt_at mt_c243 pc = some en from h), mt_findD mt_d243 (show mt_at mt_c243 pc = some en from h)⟩⟩
set_option maxRecDepth 100000 in
set_option maxHeartbeats 4000000 in
theorem mt_i244 : mt_All (mm_okI mt_Ts (mt_P xs) (mt_G oA dA) mt_cl mt_X mt_Mt mt_y244 mt_t244) mt_c244 := ⟨trivial, trivial, trivial, Or.inr (Or.inr (Or.inr ⟨rfl, mt_m21_191 xs⟩)), rfl, trivial⟩
set_option maxRecDepth 100000 in
set_option maxHeartbeats 4000000 in
theorem mt_d244 : mt_c244.all (mt_ckD mt_b244) = true := by decide +kernel
theorem mt_g244 : mt_Good xs oA dA 244 := fun y bytes ret h => by
  obtain ⟨rfl, rfl, rfl⟩ := mt_inj (show some (mt_y244, mt_b244, mt_t244) = some (y, bytes, ret) from h)
  exact ⟨mt_pn21, fun pc en h => ⟨mt_find (mt_i244 xs oA dA) (show mt_at mt_c244 pc = some en from h), mt_findD mt_d244 (show mt_at mt_c244 pc = some en from h)⟩⟩
set_option maxRecDepth 100000 in
set_option maxHeartbeats 4000000 in
theorem mt_i245 : mt_All (mm_okI mt_Ts (mt_P xs) (mt_G oA dA) mt_cl mt_X mt_Mt mt_y245 mt_t245) mt_c245 := ⟨trivial, trivial, trivial, Or.inr ⟨by decide, by decide, mt_m21_424 xs⟩, ⟨21, by decide⟩, trivial, mt_f21_53, trivial, trivial, trivial, trivial, trivial, trivial, rfl, trivial, trivial, Or.inr ⟨by decide, by decide, mt_m21_418 xs⟩, ⟨64, by decide⟩, trivial, Or.inr (Or.inr (Or.inr ⟨rfl, mt_m21_421 xs⟩)), ⟨64, by decide⟩, trivial, mt_f21_59, trivial, trivial, trivial, trivial, trivial, trivial, ⟨64, by decide⟩, trivial, mt_f21_56, trivial, trivial, trivial, trivial, trivial, trivial, trivial, trivial, rfl, trivial⟩
set_option maxRecDepth 100000 in
set_option maxHeartbeats 4000000 in
theorem mt_d245 : mt_c245.all (mt_ckD mt_b245) = true := by decide +kernel
theorem mt_g245 : mt_Good xs oA dA 245 := fun y bytes ret h => by
  obtain ⟨rfl, rfl, rfl⟩ := mt_inj (show some (mt_y245, mt_b245, mt_t245) = some (y, bytes, ret) from h)
  exact ⟨mt_pn21, fun pc en h => ⟨mt_find (mt_i245 xs oA dA) (show mt_at mt_c245 pc = some en from h), mt_findD mt_d245 (show mt_at mt_c245 pc = some en from h)⟩⟩
set_option maxRecDepth 100000 in
set_option maxHeartbeats 4000000 in
theorem mt_i246 : mt_All (mm_okI mt_Ts (mt_P xs) (mt_G oA dA) mt_cl mt_X mt_Mt mt_y246 mt_t246) mt_c246 := ⟨trivial, trivial, trivial, Or.inr ⟨by decide, by decide, mt_m21_424 xs⟩, ⟨11, by decide⟩, trivial, rfl, trivial, mt_f21_53, trivial, trivial, trivial, trivial, trivial, trivial, trivial, trivial, rfl, trivial⟩
set_option maxRecDepth 100000 in
set_option maxHeartbeats 4000000 in
theorem mt_d246 : mt_c246.all (mt_ckD mt_b246) = true := by decide +kernel
theorem mt_g246 : mt_Good xs oA dA 246 := fun y bytes ret h => by
  obtain ⟨rfl, rfl, rfl⟩ := mt_inj (show some (mt_y246, mt_b246, mt_t246) = some (y, bytes, ret) from h)
  exact ⟨mt_pn21, fun pc en h => ⟨mt_find (mt_i246 xs oA dA) (show mt_at mt_c246 pc = some en from h), mt_findD mt_d246 (show mt_at mt_c246 pc = some en from h)⟩⟩
set_option maxRecDepth 100000 in
set_option maxHeartbeats 4000000 in
theorem mt_i247 : mt_All (mm_okI mt_Ts (mt_P xs) (mt_G oA dA) mt_cl mt_X mt_Mt mt_y247 mt_t247) mt_c247 := ⟨trivial, trivial, trivial, Or.inr ⟨by decide, by decide, mt_m21_362 xs⟩, trivial, trivial, trivial, ⟨19, by decide⟩, trivial, Or.inr (Or.inr (Or.inr ⟨rfl, mt_m21_421 xs⟩)), ⟨23, by decide⟩, trivial, trivial, trivial, trivial, trivial, trivial, Or.inr ⟨by decide, by decide, mt_m21_427 xs⟩, trivial, trivial, trivial, ⟨42, by decide⟩, trivial, trivial, trivial, trivial, trivial, trivial, trivial, trivial, trivial, trivial, Or.inr ⟨by decide, by decide, mt_m21_331 xs⟩, trivial, Or.inr ⟨by decide, by decide, mt_m21_324 xs⟩, rfl, trivial⟩
set_option maxRecDepth 100000 in
set_option maxHeartbeats 4000000 in
theorem mt_d247 : mt_c247.all (mt_ckD mt_b247) = true := by decide +kernel
theorem mt_g247 : mt_Good xs oA dA 247 := fun y bytes ret h => by
  obtain ⟨rfl, rfl, rfl⟩ := mt_inj (show some (mt_y247, mt_b247, mt_t247) = some (y, bytes, ret) from h)
  exact ⟨mt_pn21, fun pc en h => ⟨mt_find (mt_i247 xs oA dA) (show mt_at mt_c247 pc = some en from h), mt_findD mt_d247 (show mt_at mt_c247 pc = some en from h)⟩⟩
set_option maxRecDepth 100000 in
set_option maxHeartbeats 4000000 in
theorem mt_i248 : mt_All (mm_okI mt_Ts (mt_P xs) (mt_G oA dA) mt_cl mt_X mt_Mt mt_y248 mt_t248) mt_c248 := ⟨trivial, trivial, trivial, trivial, ⟨34, by decide⟩, trivial, trivial, trivial, trivial, Or.inr ⟨by decide, by decide, mt_m21_331 xs⟩, trivial, ⟨34, by decide⟩, trivial, trivial, trivial, trivial, Or.inr ⟨by decide, by decide, mt_m21_324 xs⟩, trivial, trivial, trivial, rfl, trivial⟩
set_option maxRecDepth 100000 in
set_option maxHeartbeats 4000000 in
theorem mt_d248 : mt_c248.all (mt_ckD mt_b248) = true := by decide +kernel
theorem mt_g248 : mt_Good xs oA dA 248 := fun y bytes ret h => by
  obtain ⟨rfl, rfl, rfl⟩ := mt_inj (show some (mt_y248, mt_b248, mt_t248) = some (y, bytes, ret) from h)
  exact ⟨mt_pn21, fun pc en h => ⟨mt_find (mt_i248 xs oA dA) (show mt_at mt_c248 pc = some en from h), mt_findD mt_d248 (show mt_at mt_c248 pc = some en from h)⟩⟩
set_option maxRecDepth 100000 in
set_option maxHeartbeats 4000000 in
theorem mt_i249 : mt_All (mm_okI mt_Ts (mt_P xs) (mt_G oA dA) mt_cl mt_X mt_Mt mt_y249 mt_t249) mt_c249 := ⟨trivial, trivial, trivial, trivial, trivial, trivial, mt_f21_394, ⟨50, by decide⟩, trivial, trivial, trivial, trivial, Or.inr ⟨by decide, by decide, mt_m21_424 xs⟩, ⟨41, by decide⟩, trivial, mt_f21_53, trivial, trivial, trivial, trivial, trivial, trivial, trivial, trivial, trivial, trivial, trivial, trivial, trivial, trivial, rfl, trivial⟩
set_option maxRecDepth 100000 in
set_option maxHeartbeats 4000000 in
theorem mt_d249 : mt_c249.all (mt_ckD mt_b249) = true := by decide +kernel
theorem mt_g249 : mt_Good xs oA dA 249 := fun y bytes ret h => by
  obtain ⟨rfl, rfl, rfl⟩ := mt_inj (show some (mt_y249, mt_b249, mt_t249) = some (y, bytes, ret) from h)
  exact ⟨mt_pn21, fun pc en h => ⟨mt_find (mt_i249 xs oA dA) (show mt_at mt_c249 pc = some en from h), mt_findD mt_d249 (show mt_at mt_c249 pc = some en from h)⟩⟩
set_option maxRecDepth 100000 in
set_option maxHeartbeats 4000000 in
theorem mt_i250 : mt_All (mm_okI mt_Ts (mt_P xs) (mt_G oA dA) mt_cl mt_X mt_Mt mt_y250 mt_t250) mt_c250 := ⟨trivial, Or.inr ⟨by decide, by decide, mt_m21_497 xs⟩, trivial, trivial, trivial, trivial, Or.inr ⟨by decide, by decide, mt_m21_418 xs⟩, ⟨47, by decide⟩, trivial, trivial, trivial, trivial, trivial, trivial, trivial, Or.inr ⟨by decide, by decide, mt_m21_491 xs⟩, ⟨47, by decide⟩, trivial, trivial, trivial, mt_f21_80, trivial, trivial, trivial, trivial, Or.inr ⟨by decide, by decide, mt_m21_482 xs⟩, Or.inr ⟨by decide, by decide, mt_m21_500 xs⟩, trivial, trivial, trivial, ⟨60, by decide⟩, trivial, mt_f21_473, trivial, trivial, ⟨mt_f21_503, mt_p21_503 _⟩, trivial, trivial, trivial, ⟨78, by decide⟩, trivial, mt_f21_430, trivial, trivial, ⟨mt_f21_506, mt_p21_506 _⟩, trivial, trivial, mt_f21_457, ⟨mt_f21_509, mt_p21_509 _⟩, trivial, rfl, trivial⟩
set_option maxRecDepth 100000 in
set_option maxHeartbeats 4000000 in
theorem mt_d250 : mt_c250.all (mt_ckD mt_b250) = true := by decide +kernel
theorem mt_g250 : mt_Good xs oA dA 250 := fun y bytes ret h => by
  obtain ⟨rfl, rfl, rfl⟩ := mt_inj (show some (mt_y250, mt_b250, mt_t250) = some (y, bytes, ret) from h)
  exact ⟨mt_pn21, fun pc en h => ⟨mt_find (mt_i250 xs oA dA) (show mt_at mt_c250 pc = some en from h), mt_findD mt_d250 (show mt_at mt_c250 pc = some en from h)⟩⟩
set_option maxRecDepth 100000 in
set_option maxHeartbeats 4000000 in
theorem mt_i251 : mt_All (mm_okI mt_Ts (mt_P xs) (mt_G oA dA) mt_cl mt_X mt_Mt mt_y251 mt_t251) mt_c251 := ⟨trivial, trivial, ⟨mt_f21_457, mt_p21_457 _⟩, trivial, trivial, ⟨mt_f21_430, mt_p21_430 _⟩, trivial, trivial, ⟨mt_f21_473, mt_p21_473 _⟩, trivial, trivial, ⟨mt_f21_460, mt_p21_460 _⟩, rfl, trivial⟩
set_option maxRecDepth 100000 in
set_option maxHeartbeats 4000000 in
theorem mt_d251 : mt_c251.all (mt_ckD mt_b251) = true := by decide +kernel
theorem mt_g251 : mt_Good xs oA dA 251 := fun y bytes ret h => by
  obtain ⟨rfl, rfl, rfl⟩ := mt_inj (show some (mt_y251, mt_b251, mt_t251) = some (y, bytes, ret) from h)
  exact ⟨mt_pn21, fun pc en h => ⟨mt_find (mt_i251 xs oA dA) (show mt_at mt_c251 pc = some en from h), mt_findD mt_d251 (show mt_at mt_c251 pc = some en from h)⟩⟩
set_option maxRecDepth 100000 in
set_option maxHeartbeats 4000000 in
theorem mt_i252 : mt_All (mm_okI mt_Ts (mt_P xs) (mt_G oA dA) mt_cl mt_X mt_Mt mt_y252 mt_t252) mt_c252 := ⟨trivial, mt_f21_71, trivial, trivial, trivial, trivial, mt_f21_50, trivial, trivial, trivial, Or.inr ⟨by decide, by decide, mt_m21_494 xs⟩, trivial, trivial, mt_f21_74, trivial, trivial, trivial, trivial, mt_f21_62, trivial, trivial, trivial, trivial, mt_f21_65, trivial, trivial, trivial, trivial, mt_f21_68, trivial, trivial, trivial, trivial, mt_f21_77, trivial, trivial, trivial, trivial, mt_f21_71, trivial, trivial, ⟨67, by decide⟩, trivial, trivial, trivial, rfl, trivial⟩
set_option maxRecDepth 100000 in
set_option maxHeartbeats 4000000 in
theorem mt_d252 : mt_c252.all (mt_ckD mt_b252) = true := by decide +kernel
theorem mt_g252 : mt_Good xs oA dA 252 := fun y bytes ret h => by
  obtain ⟨rfl, rfl, rfl⟩ := mt_inj (show some (mt_y252, mt_b252, mt_t252) = some (y, bytes, ret) from h)
  exact ⟨mt_pn21, fun pc en h => ⟨mt_find (mt_i252 xs oA dA) (show mt_at mt_c252 pc = some en from h), mt_findD mt_d252 (show mt_at mt_c252 pc = some en from h)⟩⟩
set_option maxRecDepth 100000 in
set_option maxHeartbeats 4000000 in
theorem mt_i253 : mt_All (mm_okI mt_Ts (mt_P xs) (mt_G oA dA) mt_cl mt_X mt_Mt mt_y253 mt_t253) mt_c253 := ⟨trivial, trivial, trivial, trivial, trivial, trivial, ⟨111, by decide⟩, trivial, trivial, trivial, trivial, Or.inr ⟨by decide, by decide, mt_m21_341 xs⟩, trivial, trivial, trivial, ⟨31, by decide⟩, trivial, trivial, mt_f21_80, trivial, trivial, trivial, trivial, trivial, trivial, trivial, trivial, trivial, trivial, trivial, Or.inr ⟨by decide, by decide, mt_m21_324 xs⟩, trivial, trivial, mt_f21_83, trivial, trivial, trivial, trivial, trivial, trivial, trivial, trivial, trivial, Or.inr ⟨by decide, by decide, mt_m21_324 xs⟩, trivial, trivial, mt_f21_86, trivial, trivial, trivial, trivial, trivial, trivial, trivial, trivial, trivial, Or.inr ⟨by decide, by decide, mt_m21_324 xs⟩, trivial, trivial, trivial, trivial, trivial, trivial, Or.inr ⟨by decide, by decide, mt_m21_324 xs⟩, trivial, trivial, trivial, rfl, trivial⟩
set_option maxRecDepth 100000 in
set_option maxHeartbeats 4000000 in
theorem mt_d253 : mt_c253.all (mt_ckD mt_b253) = true := by decide +kernel
theorem mt_g253 : mt_Good xs oA dA 253 := fun y bytes ret h => by
  obtain ⟨rfl, rfl, rfl⟩ := mt_inj (show some (mt_y253, mt_b253, mt_t253) = some (y, bytes, ret) from h)
  exact ⟨mt_pn21, fun pc en h => ⟨mt_find (mt_i253 xs oA dA) (show mt_at mt_c253 pc = some en from h), mt_findD mt_d253 (show mt_at mt_c253 pc = some en from h)⟩⟩
set_option maxRecDepth 100000 in
set_option maxHeartbeats 4000000 in
theorem mt_i254 : mt_All (mm_okI mt_Ts (mt_P xs) (mt_G oA dA) mt_cl mt_X mt_Mt mt_y254 mt_t254) mt_c254 := ⟨trivial, trivial, trivial, trivial, ⟨83, by decide⟩, trivial, mt_f21_457, trivial, ⟨26, by decide⟩, trivial, trivial, ⟨mt_f21_460, mt_p21_460 _⟩, trivial, rfl, trivial, trivial, mt_f21_457, trivial, trivial, ⟨mt_f21_457, mt_p21_457 _⟩, trivial, trivial, trivial, trivial, Or.inr ⟨by decide, by decide, mt_m21_463 xs⟩, trivial, trivial, trivial, ⟨63, by decide⟩, trivial, trivial, trivial, trivial, Or.inr ⟨by decide, by decide, mt_m21_436 xs⟩, ⟨mt_f21_467, mt_p21_467 _⟩, trivial, ⟨71, by decide⟩, trivial, rfl, trivial, trivial, trivial, Or.inr ⟨by decide, by decide, mt_m21_436 xs⟩, trivial, trivial, trivial, rfl, trivial⟩
set_option maxRecDepth 100000 in
set_option maxHeartbeats 4000000 in
theorem mt_d254 : mt_c254.all (mt_ckD mt_b254) = true := by decide +kernel
theorem mt_g254 : mt_Good xs oA dA 254 := fun y bytes ret h => by
  obtain ⟨rfl, rfl, rfl⟩ := mt_inj (show some (mt_y254, mt_b254, mt_t254) = some (y, bytes, ret) from h)
  exact ⟨mt_pn21, fun pc en h => ⟨mt_find (mt_i254 xs oA dA) (show mt_at mt_c254 pc = some en from h), mt_findD mt_d254 (show mt_at mt_c254 pc = some en from h)⟩⟩
set_option maxRecDepth 100000 in
set_option maxHeartbeats 4000000 in
theorem mt_i255 : mt_All (mm_okI mt_Ts (mt_P xs) (mt_G oA dA) mt_cl mt_X mt_Mt mt_y255 mt_t255) mt_c255 := ⟨trivial, trivial, trivial, Or.inr ⟨by decide, by decide, mt_m21_247 xs⟩, trivial, trivial, trivial, trivial, trivial, trivial, trivial, Or.inr ⟨by decide, by decide, mt_m21_436 xs⟩, trivial, Or.inr ⟨by decide, by decide, mt_m21_445 xs⟩, ⟨89, by decide⟩, trivial, trivial, mt_f21_62, trivial, trivial, trivial, trivial, trivial, Or.inr ⟨by decide, by decide, mt_m21_247 xs⟩, Or.inr ⟨by decide, by decide, mt_m21_470 xs⟩, ⟨89, by decide⟩, trivial, trivial, trivial, rfl, trivial, trivial, trivial, trivial, Or.inr ⟨by decide, by decide, mt_m21_436 xs⟩, trivial, Or.inr ⟨by decide, by decide, mt_m21_445 xs⟩, ⟨107, by decide⟩, trivial, rfl, trivial, trivial, ⟨122, by decide⟩, trivial, trivial, mt_f21_442, ⟨mt_f21_430, mt_p21_430 _⟩, trivial, trivial, mt_f21_442, ⟨mt_f21_473, mt_p21_473 _⟩, trivial, trivial, ⟨141, by decide⟩, trivial, trivial, trivial, rfl, trivial, trivial, Or.inr ⟨by decide, by decide, mt_m21_476 xs⟩, ⟨155, by decide⟩, trivial, trivial, trivial, rfl, trivial, trivial, trivial, Or.inr ⟨by decide, by decide, mt_m21_479 xs⟩, ⟨170, by decide⟩, trivial, trivial, trivial, rfl, trivial, ⟨180, by decide⟩, trivial, trivial, trivial, rfl, trivial, trivial, trivial, trivial, Or.inr ⟨by decide, by decide, mt_m21_436 xs⟩, trivial, Or.inr ⟨by decide, by decide, mt_m21_445 xs⟩, ⟨198, by decide⟩, trivial, rfl, trivial, trivial, mt_f21_442, ⟨215, by decide⟩, trivial, trivial, trivial, Or.inr ⟨by decide, by decide, mt_m21_436 xs⟩, trivial, trivial, trivial, trivial, Or.inr ⟨by decide, by decide, mt_m21_436 xs⟩, trivial, trivial, Or.inr ⟨by decide, by decide, mt_m21_482 xs⟩, rfl, trivial⟩
set_option maxRecDepth 100000 in
set_option maxHeartbeats 4000000 in
theorem mt_d255 : mt_c255.all (mt_ckD mt_b255) = true := by decide +kernel
theorem mt_g255 : mt_Good xs oA dA 255 := fun y bytes ret h => by
  obtain ⟨rfl, rfl, rfl⟩ := mt_inj (show some (mt_y255, mt_b255, mt_t255) = some (y, bytes, ret) from h)
  exact ⟨mt_pn21, fun pc en h => ⟨mt_find (mt_i255 xs oA dA) (show mt_at mt_c255 pc = some en from h), mt_findD mt_d255 (show mt_at mt_c255 pc = some en from h)⟩⟩
set_option maxRecDepth 100000 in
set_option maxHeartbeats 4000000 in
theorem mt_i256 : mt_All (mm_okI mt_Ts (mt_P xs) (mt_G oA dA) mt_cl mt_X mt_Mt mt_y256 mt_t256) mt_c256 := ⟨trivial, mt_f21_25, trivial, trivial, trivial, trivial, trivial, trivial, rfl, trivial⟩
set_option maxRecDepth 100000 in
set_option maxHeartbeats 4000000 in
theorem mt_d256 : mt_c256.all (mt_ckD mt_b256) = true := by decide +kernel
theorem mt_g256 : mt_Good xs oA dA 256 := fun y bytes ret h => by
  obtain ⟨rfl, rfl, rfl⟩ := mt_inj (show some (mt_y256, mt_b256, mt_t256) = some (y, bytes, ret) from h)
  exact ⟨mt_pn21, fun pc en h => ⟨mt_find (mt_i256 xs oA dA) (show mt_at mt_c256 pc = some en from h), mt_findD mt_d256 (show mt_at mt_c256 pc = some en from h)⟩⟩
set_option maxRecDepth 100000 in
set_option maxHeartbeats 4000000 in
theorem mt_i257 : mt_All (mm_okI mt_Ts (mt_P xs) (mt_G oA dA) mt_cl mt_X mt_Mt mt_y257 mt_t257) mt_c257 := ⟨trivial, trivial, trivial, Or.inr ⟨by decide, by decide, mt_m21_247 xs⟩, trivial, trivial, trivial, ⟨16, by decide⟩, trivial, trivial, trivial, trivial, trivial, trivial, trivial, trivial, trivial, rfl, trivial⟩
set_option maxRecDepth 100000 in
set_option maxHeartbeats 4000000 in
theorem mt_d257 : mt_c257.all (mt_ckD mt_b257) = true := by decide +kernel
theorem mt_g257 : mt_Good xs oA dA 257 := fun y bytes ret h => by
  obtain ⟨rfl, rfl, rfl⟩ := mt_inj (show some (mt_y257, mt_b257, mt_t257) = some (y, bytes, ret) from h)
  exact ⟨mt_pn21, fun pc en h => ⟨mt_find (mt_i257 xs oA dA) (show mt_at mt_c257 pc = some en from h), mt_findD mt_d257 (show mt_at mt_c257 pc = some en from h)⟩⟩
set_option maxRecDepth 100000 in
set_option maxHeartbeats 4000000 in
theorem mt_i258 : mt_All (mm_okI mt_Ts (mt_P xs) (mt_G oA dA) mt_cl mt_X mt_Mt mt_y258 mt_t258) mt_c258 := ⟨trivial, mt_f21_433, trivial, trivial, trivial, trivial, trivial, trivial, Or.inr ⟨by decide, by decide, mt_m21_247 xs⟩, trivial, ⟨53, by decide⟩, trivial, mt_f21_89, trivial, mt_f21_433, trivial, trivial, trivial, trivial, mt_f21_433, trivial, trivial, ⟨mt_f21_433, mt_p21_433 _⟩, trivial, trivial, trivial, Or.inr ⟨by decide, by decide, mt_m21_436 xs⟩, trivial, trivial, trivial, trivial, trivial, Or.inr ⟨by decide, by decide, mt_m21_439 xs⟩, trivial, trivial, ⟨179, by decide⟩, trivial, mt_f21_433, trivial, ⟨179, by decide⟩, trivial, mt_f21_442, trivial, trivial, mt_f21_89, trivial, mt_f21_433, trivial, trivial, trivial, trivial, trivial, trivial, trivial, trivial, Or.inr ⟨by decide, by decide, mt_m21_436 xs⟩, trivial, Or.inr ⟨by decide, by decide, mt_m21_445 xs⟩, trivial, trivial, ⟨141, by decide⟩, trivial, trivial, trivial, Or.inr ⟨by decide, by decide, mt_m21_247 xs⟩, trivial, ⟨141, by decide⟩, trivial, mt_f21_442, ⟨141, by decide⟩, trivial, trivial, Or.inr ⟨by decide, by decide, mt_m21_448 xs⟩, trivial, trivial, ⟨166, by decide⟩, trivial, trivial, trivial, trivial, Or.inr ⟨by decide, by decide, mt_m21_247 xs⟩, trivial, trivial, mt_f21_442, Or.inr (Or.inr (Or.inr ⟨rfl, mt_m21_451 xs⟩)), ⟨mt_f21_442, mt_p21_442 _⟩, trivial, trivial, mt_f21_433, trivial, trivial, ⟨mt_f21_433, mt_p21_433 _⟩, trivial, trivial, trivial, ⟨mt_f21_433, mt_p21_433 _⟩, trivial, rfl, trivial⟩
set_option maxRecDepth 100000 in
set_option maxHeartbeats 4000000 in
theorem mt_d258 : mt_c258.all (mt_ckD mt_b258) = true := by decide +kernel
theorem mt_g258 : mt_Good xs oA dA 258 := fun y bytes ret h => by
  obtain ⟨rfl, rfl, rfl⟩ := mt_inj (show some (mt_y258, mt_b258, mt_t258) = some (y, bytes, ret) from h)
  exact ⟨mt_pn21, fun pc en h => ⟨mt_find (mt_i258 xs oA dA) (show mt_at mt_c258 pc = some en from h), mt_findD mt_d258 (show mt_at mt_c258 pc = some en from h)⟩⟩
set_option maxRecDepth 100000 in
set_option maxHeartbeats 4000000 in
theorem mt_i259 : mt_All (mm_okI mt_Ts (mt_P xs) (mt_G oA dA) mt_cl mt_X mt_Mt mt_y259 mt_t259) mt_c259 := ⟨trivial, trivial, trivial, Or.inr ⟨by decide, by decide, mt_m21_247 xs⟩, trivial, trivial, mt_f21_62, trivial, trivial, trivial, trivial, trivial, ⟨32, by decide⟩, trivial, trivial, trivial, trivial, Or.inr ⟨by decide, by decide, mt_m21_247 xs⟩, ⟨mt_f21_442, mt_p21_442 _⟩, trivial, rfl, trivial, trivial, ⟨42, by decide⟩, trivial, trivial, ⟨68, by decide⟩, trivial, trivial, trivial, ⟨57, by decide⟩, trivial, mt_f21_65, trivial, trivial, trivial, trivial, mt_f21_68, trivial, trivial, ⟨mt_f21_442, mt_p21_442 _⟩, trivial, rfl, trivial, trivial, ⟨197, by decide⟩, trivial, trivial, trivial, Or.inr ⟨by decide, by decide, mt_m21_247 xs⟩, trivial, trivial, trivial, trivial, Or.inr ⟨by decide, by decide, mt_m21_454 xs⟩, trivial, trivial, trivial, ⟨105, by decide⟩, trivial, trivial, Or.inr ⟨by decide, by decide, mt_m21_448 xs⟩, rfl, trivial, trivial, ⟨127, by decide⟩, trivial, mt_f21_53, trivial, trivial, trivial, trivial, trivial, trivial, trivial, trivial, trivial, ⟨149, by decide⟩, trivial, mt_f21_56, trivial, trivial, trivial, trivial, trivial, trivial, trivial, trivial, trivial, trivial, trivial, trivial, mt_f21_50, trivial, trivial, trivial, Or.inr ⟨by decide, by decide, mt_m21_427 xs⟩, trivial, trivial, trivial, trivial, trivial, trivial, mt_f21_50, trivial, trivial, trivial, Or.inr ⟨by decide, by decide, mt_m21_427 xs⟩, trivial, Or.inr ⟨by decide, by decide, mt_m21_331 xs⟩, trivial, Or.inr ⟨by decide, by decide, mt_m21_324 xs⟩, ⟨mt_f21_442, mt_p21_442 _⟩, trivial, rfl, trivial, trivial, trivial, trivial, Or.inr ⟨by decide, by decide, mt_m21_436 xs⟩, trivial, Or.inr ⟨by decide, by decide, mt_m21_445 xs⟩, ⟨213, by decide⟩, trivial, rfl, trivial, trivial, mt_f21_442, trivial, ⟨mt_f21_442, mt_p21_442 _⟩, trivial, rfl, trivial⟩
set_option maxRecDepth 100000 in
set_option maxHeartbeats 4000000 in
theorem mt_d259 : mt_c259.all (mt_ckD mt_b259) = true := by decide +kernel
theorem mt_g259 : mt_Good xs oA dA 259 := fun y bytes ret h => by
  obtain ⟨rfl, rfl, rfl⟩ := mt_inj (show some (mt_y259, mt_b259, mt_t259) = some (y, bytes, ret) from h)
  exact ⟨mt_pn21, fun pc en h => ⟨mt_find (mt_i259 xs oA dA) (show mt_at mt_c259 pc = some en from h), mt_findD mt_d259 (show mt_at mt_c259 pc = some en from h)⟩⟩
set_option maxRecDepth 100000 in
set_option maxHeartbeats 4000000 in
theorem mt_i260 : mt_All (mm_okI mt_Ts (mt_P xs) (mt_G oA dA) mt_cl mt_X mt_Mt mt_y260 mt_t260) mt_c260 := ⟨trivial, trivial, trivial, mt_f21_50, trivial, trivial, trivial, Or.inr ⟨by decide, by decide, mt_m21_415 xs⟩, trivial, ⟨18, by decide⟩, trivial, rfl, trivial, trivial, trivial, mt_f21_50, trivial, trivial, trivial, Or.inr ⟨by decide, by decide, mt_m21_427 xs⟩, trivial, ⟨36, by decide⟩, trivial, rfl, trivial, mt_f21_59, trivial, trivial, trivial, trivial, trivial, trivial, ⟨54, by decide⟩, trivial, trivial, trivial, rfl, trivial⟩
set_option maxRecDepth 100000 in
set_option maxHeartbeats 4000000 in
theorem mt_d260 : mt_c260.all (mt_ckD mt_b260) = true := by decide +kernel
theorem mt_g260 : mt_Good xs oA dA 260 := fun y bytes ret h => by
  obtain ⟨rfl, rfl, rfl⟩ := mt_inj (show some (mt_y260, mt_b260, mt_t260) = some (y, bytes, ret) from h)
  exact ⟨mt_pn21, fun pc en h => ⟨mt_find (mt_i260 xs oA dA) (show mt_at mt_c260 pc = some en from h), mt_findD mt_d260 (show mt_at mt_c260 pc = some en from h)⟩⟩
set_option maxRecDepth 100000 in
set_option maxHeartbeats 4000000 in
theorem mt_i261 : mt_All (mm_okI mt_Ts (mt_P xs) (mt_G oA dA) mt_cl mt_X mt_Mt mt_y261 mt_t261) mt_c261 := ⟨trivial, trivial, ⟨mt_f21_430, mt_p21_430 _⟩, trivial, rfl, trivial⟩
set_option maxRecDepth 100000 in
set_option maxHeartbeats 4000000 in
theorem mt_d261 : mt_c261.all (mt_ckD mt_b261) = true := by decide +kernel
theorem mt_g261 : mt_Good xs oA dA 261 := fun y bytes ret h => by
  obtain ⟨rfl, rfl, rfl⟩ := mt_inj (show some (mt_y261, mt_b261, mt_t261) = some (y, bytes, ret) from h)
  exact ⟨mt_pn21, fun pc en h => ⟨mt_find (mt_i261 xs oA dA) (show mt_at mt_c261 pc = some en from h), mt_findD mt_d261 (show mt_at mt_c261 pc = some en from h)⟩⟩
set_option maxRecDepth 100000 in
set_option maxHeartbeats 4000000 in
theorem mt_i262 : mt_All (mm_okI mt_Ts (mt_P xs) (mt_G oA dA) mt_cl mt_X mt_Mt mt_y262 mt_t262) mt_c262 := ⟨trivial, trivial, trivial, trivial, trivial, rfl, trivial, trivial, trivial, rfl, trivial, trivial, trivial, rfl, trivial, trivial, trivial, rfl, trivial, trivial, ⟨61, by decide⟩, trivial, trivial, trivial, rfl, trivial, trivial, ⟨72, by decide⟩, trivial, trivial, trivial, rfl, trivial⟩
set_option maxRecDepth 100000 in
set_option maxHeartbeats 4000000 in
theorem mt_d262 : mt_c262.all (mt_ckD mt_b262) = true := by decide +kernel
theorem mt_g262 : mt_Good xs oA dA 262 := fun y bytes ret h => by
  obtain ⟨rfl, rfl, rfl⟩ := mt_inj (show some (mt_y262, mt_b262, mt_t262) = some (y, bytes, ret) from h)
  exact ⟨mt_pn21, fun pc en h => ⟨mt_find (mt_i262 xs oA dA) (show mt_at mt_c262 pc = some en from h), mt_findD mt_d262 (show mt_at mt_c262 pc = some en from h)⟩⟩
end MTI28
