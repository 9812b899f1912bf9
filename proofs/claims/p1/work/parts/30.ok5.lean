/-! each entry of each method -/
section MTI30
variable (xs : List Int32) (oA : Nat → Nat) (dA : Nat → ClassId)
set_option maxRecDepth 100000 in
set_option maxHeartbeats 4000000 in
theorem mt_i288 : mt_All (mm_okI mt_Ts (mt_P xs) (mt_G oA dA) mt_cl mt_X mt_Mt mt_y288 mt_t288) mt_c288 := ⟨trivial, trivial, trivial, trivial, ⟨137, by decide⟩, trivial, trivial, trivial, mt_f21_50, trivial, trivial, trivial, Or.inr ⟨by decide, by decide, mt_m21_415 xs⟩, trivial, ⟨27, by decide⟩, trivial, trivial, trivial, trivial, trivial, trivial, trivial, ⟨89, by decide⟩, trivial, ⟨76, by decide⟩, trivial, trivial, trivial, trivial, Or.inr ⟨by decide, by decide, mt_m21_415 xs⟩, trivial, ⟨80, by decide⟩, trivial, trivial, trivial, mt_f21_50, trivial, trivial, trivial, trivial, trivial, Or.inr ⟨by decide, by decide, mt_m21_557 xs⟩, trivial, ⟨80, by decide⟩, trivial, trivial, trivial, trivial, trivial, trivial, trivial, ⟨97, by decide⟩, trivial, trivial, mt_f21_59, trivial, trivial, trivial, trivial, trivial, trivial, trivial, trivial, mt_f21_56, trivial, trivial, trivial, trivial, trivial, trivial, mt_f21_53, trivial, trivial, trivial, trivial, trivial, trivial, trivial, trivial, trivial, rfl, trivial⟩
set_option maxRecDepth 100000 in
set_option maxHeartbeats 4000000 in
theorem mt_d288 : mt_c288.all (mt_ckD mt_b288) = true := by decide +kernel
theorem mt_g288 : mt_Good xs oA dA 288 := fun y bytes ret h => by
  obtain ⟨rfl, rfl, rfl⟩ := mt_inj (show some (mt_y288, mt_b288, mt_t288) = some (y, bytes, ret) from h)
  exact ⟨mt_pn21, fun pc en h => ⟨mt_find (mt_i288 xs oA dA) (show mt_at mt_c288 pc = some en from h), mt_findD mt_d288 (show mt_at mt_c288 pc = some en from h)⟩⟩
set_option maxRecDepth 100000 in
set_option maxHeartbeats 4000000 in
theorem mt_i289 : mt_All (mm_okI mt_Ts (mt_P xs) (mt_G oA dA) mt_cl mt_X mt_Mt mt_y289 mt_t289) mt_c289 := ⟨trivial, trivial, trivial, mt_f21_40, trivial, trivial, trivial, trivial, trivial, ⟨173, by decide⟩, trivial, trivial, trivial, Or.inr ⟨by decide, by decide, mt_m21_247 xs⟩, trivial, ⟨39, by decide⟩, trivial, trivial, trivial, trivial, trivial, Or.inr ⟨by decide, by decide, mt_m21_247 xs⟩, Or.inr ⟨by decide, by decide, mt_m21_362 xs⟩, trivial, trivial, trivial, trivial, trivial, trivial, trivial, mt_f21_394, ⟨160, by decide⟩, trivial, trivial, ⟨160, by decide⟩, trivial, mt_f21_46, trivial, trivial, ⟨154, by decide⟩, trivial, mt_f21_182, trivial, trivial, trivial, ⟨154, by decide⟩, trivial, trivial, trivial, mt_f21_50, trivial, trivial, trivial, Or.inr ⟨by decide, by decide, mt_m21_548 xs⟩, ⟨101, by decide⟩, trivial, trivial, mt_f21_62, trivial, trivial, trivial, trivial, mt_f21_65, trivial, trivial, trivial, trivial, mt_f21_68, trivial, trivial, trivial, trivial, trivial, trivial, trivial, Or.inr ⟨by decide, by decide, mt_m21_436 xs⟩, trivial, Or.inr ⟨by decide, by decide, mt_m21_445 xs⟩, ⟨144, by decide⟩, trivial, mt_f21_442, ⟨154, by decide⟩, trivial, trivial, trivial, trivial, Or.inr ⟨by decide, by decide, mt_m21_535 xs⟩, rfl, trivial, trivial, trivial, trivial, trivial, trivial, Or.inr ⟨by decide, by decide, mt_m21_436 xs⟩, trivial, trivial, trivial, rfl, trivial⟩
set_option maxRecDepth 100000 in
set_option maxHeartbeats 4000000 in
theorem mt_d289 : mt_c289.all (mt_ckD mt_b289) = true := by decide +kernel
theorem mt_g289 : mt_Good xs oA dA 289 := fun y bytes ret h => by
  obtain ⟨rfl, rfl, rfl⟩ := mt_inj (show some (mt_y289, mt_b289, mt_t289) = some (y, bytes, ret) from h)
  exact ⟨mt_pn21, fun pc en h => ⟨mt_find (mt_i289 xs oA dA) (show mt_at mt_c289 pc = some en from h), mt_findD mt_d289 (show mt_at mt_c289 pc = some en from h)⟩⟩
set_option maxRecDepth 100000 in
set_option maxHeartbeats 4000000 in
theorem mt_i290 : mt_All (mm_okI mt_Ts (mt_P xs) (mt_G oA dA) mt_cl mt_X mt_Mt mt_y290 mt_t290) mt_c290 := ⟨trivial, mt_f21_46, trivial, trivial, trivial, trivial, trivial, trivial, trivial, ⟨57, by decide⟩, trivial, mt_f21_107, trivial, trivial, ⟨51, by decide⟩, trivial, mt_f21_116, trivial, trivial, trivial, ⟨37, by decide⟩, trivial, trivial, mt_f21_107, trivial, trivial, trivial, trivial, mt_f21_131, trivial, trivial, trivial, trivial, trivial, rfl, trivial⟩
set_option maxRecDepth 100000 in
set_option maxHeartbeats 4000000 in
theorem mt_d290 : mt_c290.all (mt_ckD mt_b290) = true := by decide +kernel
theorem mt_g290 : mt_Good xs oA dA 290 := fun y bytes ret h => by
  obtain ⟨rfl, rfl, rfl⟩ := mt_inj (show some (mt_y290, mt_b290, mt_t290) = some (y, bytes, ret) from h)
  exact ⟨mt_pn21, fun pc en h => ⟨mt_find (mt_i290 xs oA dA) (show mt_at mt_c290 pc = some en from h), mt_findD mt_d290 (show mt_at mt_c290 pc = some en from h)⟩⟩
set_option maxRecDepth 100000 in
set_option maxHeartbeats 4000000 in
theorem mt_i291 : mt_All (mm_okI mt_Ts (mt_P xs) (mt_G oA dA) mt_cl mt_X mt_Mt mt_y291 mt_t291) mt_c291 := ⟨trivial, mt_f21_518, ⟨21, by decide⟩, trivial, trivial, trivial, mt_f21_394, trivial, trivial, Or.inr (Or.inr (Or.inr ⟨rfl, mt_m21_191 xs⟩)), ⟨25, by decide⟩, trivial, trivial, trivial, mt_f21_92, trivial, trivial, rfl, trivial⟩
set_option maxRecDepth 100000 in
set_option maxHeartbeats 4000000 in
theorem mt_d291 : mt_c291.all (mt_ckD mt_b291) = true := by decide +kernel
theorem mt_g291 : mt_Good xs oA dA 291 := fun y bytes ret h => by
  obtain ⟨rfl, rfl, rfl⟩ := mt_inj (show some (mt_y291, mt_b291, mt_t291) = some (y, bytes, ret) from h)
  exact ⟨mt_pn21, fun pc en h => ⟨mt_find (mt_i291 xs oA dA) (show mt_at mt_c291 pc = some en from h), mt_findD mt_d291 (show mt_at mt_c291 pc = some en from h)⟩⟩
set_option maxRecDepth 100000 in
set_option maxHeartbeats 4000000 in
theorem mt_i292 : mt_All (mm_okI mt_Ts (mt_P xs) (mt_G oA dA) mt_cl mt_X mt_Mt mt_y292 mt_t292) mt_c292 := ⟨trivial, trivial, trivial, mt_f21_515, trivial, trivial, Or.inr (Or.inr (Or.inr ⟨rfl, mt_m21_191 xs⟩)), ⟨16, by decide⟩, trivial, rfl, trivial, ⟨29, by decide⟩, trivial, mt_f21_95, trivial, trivial, trivial, trivial, trivial, ⟨43, by decide⟩, trivial, mt_f21_98, trivial, trivial, trivial, trivial, trivial, ⟨57, by decide⟩, trivial, mt_f21_101, trivial, trivial, trivial, trivial, trivial, ⟨71, by decide⟩, trivial, mt_f21_104, trivial, trivial, trivial, trivial, rfl, trivial⟩
set_option maxRecDepth 100000 in
set_option maxHeartbeats 4000000 in
theorem mt_d292 : mt_c292.all (mt_ckD mt_b292) = true := by decide +kernel
theorem mt_g292 : mt_Good xs oA dA 292 := fun y bytes ret h => by
  obtain ⟨rfl, rfl, rfl⟩ := mt_inj (show some (mt_y292, mt_b292, mt_t292) = some (y, bytes, ret) from h)
  exact ⟨mt_pn21, fun pc en h => ⟨mt_find (mt_i292 xs oA dA) (show mt_at mt_c292 pc = some en from h), mt_findD mt_d292 (show mt_at mt_c292 pc = some en from h)⟩⟩
set_option maxRecDepth 100000 in
set_option maxHeartbeats 4000000 in
theorem mt_i293 : mt_All (mm_okI mt_Ts (mt_P xs) (mt_G oA dA) mt_cl mt_X mt_Mt mt_y293 mt_t293) mt_c293 := ⟨trivial, trivial, trivial, trivial, ⟨26, by decide⟩, trivial, mt_f21_107, trivial, trivial, ⟨26, by decide⟩, trivial, trivial, trivial, trivial, ⟨52, by decide⟩, trivial, trivial, Or.inr ⟨by decide, by decide, mt_m21_418 xs⟩, ⟨52, by decide⟩, trivial, trivial, trivial, trivial, trivial, Or.inr ⟨by decide, by decide, mt_m21_491 xs⟩, ⟨54, by decide⟩, trivial, rfl, trivial, mt_f21_107, trivial, trivial, trivial, trivial, mt_f21_110, trivial, trivial, trivial, trivial, mt_f21_113, trivial, trivial, trivial, trivial, mt_f21_116, trivial, trivial, trivial, trivial, mt_f21_119, trivial, trivial, trivial, trivial, mt_f21_122, trivial, trivial, trivial, trivial, mt_f21_125, trivial, trivial, mt_f21_80, trivial, trivial, trivial, trivial, mt_f21_128, trivial, trivial, trivial, trivial, mt_f21_131, trivial, trivial, trivial, trivial, mt_f21_134, trivial, trivial, trivial, trivial, mt_f21_137, trivial, trivial, mt_f21_71, trivial, trivial, trivial, trivial, mt_f21_140, trivial, trivial, trivial, trivial, trivial, trivial, trivial, ⟨236, by decide⟩, trivial, mt_f21_143, trivial, trivial, trivial, trivial, trivial, trivial, mt_f21_80, trivial, trivial, trivial, trivial, mt_f21_146, trivial, trivial, trivial, trivial, trivial, trivial, mt_f21_83, trivial, trivial, trivial, trivial, mt_f21_149, trivial, trivial, trivial, trivial, trivial, trivial, mt_f21_86, trivial, trivial, trivial, trivial, trivial, trivial, rfl, trivial⟩
set_option maxRecDepth 100000 in
set_option maxHeartbeats 4000000 in
theorem mt_d293 : mt_c293.all (mt_ckD mt_b293) = true := by decide +kernel
theorem mt_g293 : mt_Good xs oA dA 293 := fun y bytes ret h => by
  obtain ⟨rfl, rfl, rfl⟩ := mt_inj (show some (mt_y293, mt_b293, mt_t293) = some (y, bytes, ret) from h)
  exact ⟨mt_pn21, fun pc en h => ⟨mt_find (mt_i293 xs oA dA) (show mt_at mt_c293 pc = some en from h), mt_findD mt_d293 (show mt_at mt_c293 pc = some en from h)⟩⟩
set_option maxRecDepth 100000 in
set_option maxHeartbeats 4000000 in
theorem mt_i294 : mt_All (mm_okI mt_Ts (mt_P xs) (mt_G oA dA) mt_cl mt_X mt_Mt mt_y294 mt_t294) mt_c294 := ⟨trivial, trivial, trivial, Or.inr (Or.inr (Or.inr ⟨rfl, mt_m21_191 xs⟩)), ⟨19, by decide⟩, trivial, mt_f21_110, trivial, trivial, ⟨21, by decide⟩, trivial, rfl, trivial, trivial, trivial, mt_f21_107, trivial, trivial, ⟨73, by decide⟩, trivial, trivial, trivial, rfl, trivial, mt_f21_128, trivial, trivial, rfl, trivial, mt_f21_107, trivial, trivial, ⟨95, by decide⟩, trivial, trivial, trivial, mt_f21_131, trivial, trivial, rfl, trivial, mt_f21_149, trivial, trivial, trivial, trivial, rfl, trivial, mt_f21_113, trivial, trivial, ⟨125, by decide⟩, trivial, trivial, trivial, rfl, trivial, mt_f21_134, trivial, trivial, rfl, trivial, rfl, trivial⟩
set_option maxRecDepth 100000 in
set_option maxHeartbeats 4000000 in
theorem mt_d294 : mt_c294.all (mt_ckD mt_b294) = true := by decide +kernel
theorem mt_g294 : mt_Good xs oA dA 294 := fun y bytes ret h => by
  obtain ⟨rfl, rfl, rfl⟩ := mt_inj (show some (mt_y294, mt_b294, mt_t294) = some (y, bytes, ret) from h)
  exact ⟨mt_pn21, fun pc en h => ⟨mt_find (mt_i294 xs oA dA) (show mt_at mt_c294 pc = some en from h), mt_findD mt_d294 (show mt_at mt_c294 pc = some en from h)⟩⟩
set_option maxRecDepth 100000 in
set_option maxHeartbeats 4000000 in
theorem mt_i295 : mt_All (mm_okI mt_Ts (mt_P xs) (mt_G oA dA) mt_cl mt_X mt_Mt mt_y295 mt_t295) mt_c295 := ⟨trivial, trivial, trivial, Or.inr (Or.inr (Or.inr ⟨rfl, mt_m21_191 xs⟩)), ⟨19, by decide⟩, trivial, mt_f21_107, trivial, trivial, ⟨21, by decide⟩, trivial, rfl, trivial, mt_f21_113, trivial, trivial, trivial, trivial, rfl, trivial⟩
set_option maxRecDepth 100000 in
set_option maxHeartbeats 4000000 in
theorem mt_d295 : mt_c295.all (mt_ckD mt_b295) = true := by decide +kernel
theorem mt_g295 : mt_Good xs oA dA 295 := fun y bytes ret h => by
  obtain ⟨rfl, rfl, rfl⟩ := mt_inj (show some (mt_y295, mt_b295, mt_t295) = some (y, bytes, ret) from h)
  exact ⟨mt_pn21, fun pc en h => ⟨mt_find (mt_i295 xs oA dA) (show mt_at mt_c295 pc = some en from h), mt_findD mt_d295 (show mt_at mt_c295 pc = some en from h)⟩⟩
set_option maxRecDepth 100000 in
set_option maxHeartbeats 4000000 in
theorem mt_i296 : mt_All (mm_okI mt_Ts (mt_P xs) (mt_G oA dA) mt_cl mt_X mt_Mt mt_y296 mt_t296) mt_c296 := ⟨trivial, trivial, trivial, mt_f21_397, trivial, trivial, Or.inr (Or.inr (Or.inr ⟨rfl, mt_m21_191 xs⟩)), ⟨22, by decide⟩, trivial, mt_f21_31, trivial, ⟨24, by decide⟩, trivial, rfl, trivial, trivial, ⟨mt_f21_31, mt_p21_31 _⟩, trivial, trivial, ⟨mt_f21_526, mt_p21_526 _⟩, trivial, mt_f21_43, trivial, trivial, trivial, trivial, rfl, trivial⟩
set_option maxRecDepth 100000 in
set_option maxHeartbeats 4000000 in
theorem mt_d296 : mt_c296.all (mt_ckD mt_b296) = true := by decide +kernel
theorem mt_g296 : mt_Good xs oA dA 296 := fun y bytes ret h => by
  obtain ⟨rfl, rfl, rfl⟩ := mt_inj (show some (mt_y296, mt_b296, mt_t296) = some (y, bytes, ret) from h)
  exact ⟨mt_pn21, fun pc en h => ⟨mt_find (mt_i296 xs oA dA) (show mt_at mt_c296 pc = some en from h), mt_findD mt_d296 (show mt_at mt_c296 pc = some en from h)⟩⟩
set_option maxRecDepth 100000 in
set_option maxHeartbeats 4000000 in
theorem mt_i297 : mt_All (mm_okI mt_Ts (mt_P xs) (mt_G oA dA) mt_cl mt_X mt_Mt mt_y297 mt_t297) mt_c297 := ⟨trivial, trivial, trivial, mt_f21_397, trivial, trivial, Or.inr (Or.inr (Or.inr ⟨rfl, mt_m21_191 xs⟩)), ⟨23, by decide⟩, trivial, mt_f21_43, trivial, trivial, trivial, trivial, rfl, trivial⟩
set_option maxRecDepth 100000 in
set_option maxHeartbeats 4000000 in
theorem mt_d297 : mt_c297.all (mt_ckD mt_b297) = true := by decide +kernel
theorem mt_g297 : mt_Good xs oA dA 297 := fun y bytes ret h => by
  obtain ⟨rfl, rfl, rfl⟩ := mt_inj (show some (mt_y297, mt_b297, mt_t297) = some (y, bytes, ret) from h)
  exact ⟨mt_pn21, fun pc en h => ⟨mt_find (mt_i297 xs oA dA) (show mt_at mt_c297 pc = some en from h), mt_findD mt_d297 (show mt_at mt_c297 pc = some en from h)⟩⟩
set_option maxRecDepth 100000 in
set_option maxHeartbeats 4000000 in
theorem mt_i298 : mt_All (mm_okI mt_Ts (mt_P xs) (mt_G oA dA) mt_cl mt_X mt_Mt mt_y298 mt_t298) mt_c298 := ⟨trivial, ⟨11, by decide⟩, trivial, mt_f21_529, trivial, trivial, trivial, ⟨23, by decide⟩, trivial, mt_f21_152, trivial, trivial, trivial, ⟨35, by decide⟩, trivial, mt_f21_155, trivial, trivial, rfl, trivial⟩
set_option maxRecDepth 100000 in
set_option maxHeartbeats 4000000 in
theorem mt_d298 : mt_c298.all (mt_ckD mt_b298) = true := by decide +kernel
theorem mt_g298 : mt_Good xs oA dA 298 := fun y bytes ret h => by
  obtain ⟨rfl, rfl, rfl⟩ := mt_inj (show some (mt_y298, mt_b298, mt_t298) = some (y, bytes, ret) from h)
  exact ⟨mt_pn21, fun pc en h => ⟨mt_find (mt_i298 xs oA dA) (show mt_at mt_c298 pc = some en from h), mt_findD mt_d298 (show mt_at mt_c298 pc = some en from h)⟩⟩
set_option maxRecDepth 100000 in
set_option maxHeartbeats 4000000 in
theorem mt_i299 : mt_All (mm_okI mt_Ts (mt_P xs) (mt_G oA dA) mt_cl mt_X mt_Mt mt_y299 mt_t299) mt_c299 := ⟨trivial, mt_f21_34, trivial, ⟨16, by decide⟩, trivial, mt_f21_31, trivial, ⟨18, by decide⟩, trivial, rfl, trivial, trivial, trivial, Or.inr ⟨by decide, by decide, mt_m21_391 xs⟩, trivial, trivial, trivial, trivial, trivial, Or.inr ⟨by decide, by decide, mt_m21_321 xs⟩, ⟨124, by decide⟩, trivial, trivial, trivial, trivial, trivial, trivial, Or.inr ⟨by decide, by decide, mt_m21_324 xs⟩, Or.inr ⟨by decide, by decide, mt_m21_362 xs⟩, trivial, trivial, trivial, trivial, trivial, trivial, trivial, trivial, Or.inr ⟨by decide, by decide, mt_m21_324 xs⟩, ⟨118, by decide⟩, trivial, trivial, ⟨118, by decide⟩, trivial, trivial, trivial, trivial, trivial, trivial, trivial, trivial, trivial, Or.inr ⟨by decide, by decide, mt_m21_324 xs⟩, Or.inr ⟨by decide, by decide, mt_m21_331 xs⟩, trivial, trivial, trivial, ⟨112, by decide⟩, trivial, trivial, trivial, trivial, trivial, trivial, trivial, trivial, trivial, trivial, trivial, trivial, Or.inr ⟨by decide, by decide, mt_m21_324 xs⟩, Or.inr ⟨by decide, by decide, mt_m21_337 xs⟩, trivial, trivial, trivial, trivial, trivial, trivial, trivial, trivial, mt_f21_394, ⟨205, by decide⟩, trivial, mt_f21_46, trivial, trivial, ⟨146, by decide⟩, trivial, trivial, mt_f21_50, trivial, trivial, trivial, trivial, trivial, trivial, trivial, Or.inr ⟨by decide, by decide, mt_m21_324 xs⟩, trivial, trivial, trivial, ⟨174, by decide⟩, trivial, trivial, Or.inr ⟨by decide, by decide, mt_m21_582 xs⟩, trivial, trivial, trivial, trivial, trivial, Or.inr ⟨by decide, by decide, mt_m21_324 xs⟩, trivial, ⟨192, by decide⟩, trivial, trivial, trivial, trivial, Or.inr ⟨by decide, by decide, mt_m21_585 xs⟩, trivial, mt_f21_50, trivial, trivial, trivial, trivial, trivial, trivial, trivial, trivial, Or.inr ⟨by decide, by decide, mt_m21_391 xs⟩, trivial, mt_f21_43, trivial, mt_f21_34, trivial, trivial, trivial, trivial, ⟨mt_f21_34, mt_p21_34 _⟩, trivial, rfl, trivial⟩
set_option maxRecDepth 100000 in
set_option maxHeartbeats 4000000 in
theorem mt_d299 : mt_c299.all (mt_ckD mt_b299) = true := by decide +kernel
theorem mt_g299 : mt_Good xs oA dA 299 := fun y bytes ret h => by
  obtain ⟨rfl, rfl, rfl⟩ := mt_inj (show some (mt_y299, mt_b299, mt_t299) = some (y, bytes, ret) from h)
  exact ⟨mt_pn21, fun pc en h => ⟨mt_find (mt_i299 xs oA dA) (show mt_at mt_c299 pc = some en from h), mt_findD mt_d299 (show mt_at mt_c299 pc = some en from h)⟩⟩
set_option maxRecDepth 100000 in
set_option maxHeartbeats 4000000 in
theorem mt_i300 : mt_All (mm_okI mt_Ts (mt_P xs) (mt_G oA dA) mt_cl mt_X mt_Mt mt_y300 mt_t300) mt_c300 := ⟨trivial, trivial, trivial, trivial, ⟨190, by decide⟩, trivial, mt_f21_170, trivial, trivial, trivial, trivial, trivial, Or.inr ⟨by decide, by decide, mt_m21_415 xs⟩, trivial, ⟨32, by decide⟩, trivial, trivial, trivial, trivial, trivial, mt_f21_170, trivial, trivial, ⟨47, by decide⟩, trivial, trivial, trivial, trivial, trivial, trivial, trivial, ⟨97, by decide⟩, trivial, trivial, trivial, trivial, Or.inr ⟨by decide, by decide, mt_m21_415 xs⟩, trivial, ⟨91, by decide⟩, trivial, trivial, trivial, trivial, trivial, trivial, Or.inr ⟨by decide, by decide, mt_m21_557 xs⟩, trivial, ⟨91, by decide⟩, trivial, trivial, trivial, trivial, trivial, trivial, trivial, trivial, Or.inr ⟨by decide, by decide, mt_m21_415 xs⟩, trivial, trivial, mt_f21_164, trivial, trivial, trivial, ⟨134, by decide⟩, trivial, mt_f21_53, trivial, trivial, trivial, trivial, trivial, trivial, trivial, trivial, mt_f21_59, trivial, trivial, trivial, trivial, trivial, trivial, ⟨164, by decide⟩, trivial, mt_f21_56, trivial, trivial, trivial, trivial, trivial, trivial, trivial, trivial, trivial, trivial, trivial, trivial, trivial, trivial, trivial, Or.inr ⟨by decide, by decide, mt_m21_328 xs⟩, trivial, Or.inr ⟨by decide, by decide, mt_m21_324 xs⟩, trivial, trivial, trivial, trivial, trivial, trivial, trivial, ⟨235, by decide⟩, trivial, mt_f21_170, trivial, trivial, ⟨229, by decide⟩, trivial, mt_f21_53, trivial, trivial, trivial, trivial, trivial, trivial, mt_f21_164, trivial, trivial, trivial, trivial, trivial, rfl, trivial⟩
set_option maxRecDepth 100000 in
set_option maxHeartbeats 4000000 in
theorem mt_d300 : mt_c300.all (mt_ckD mt_b300) = true := by decide +kernel
theorem mt_g300 : mt_Good xs oA dA 300 := fun y bytes ret h => by
  obtain ⟨rfl, rfl, rfl⟩ := mt_inj (show some (mt_y300, mt_b300, mt_t300) = some (y, bytes, ret) from h)
  exact ⟨mt_pn21, fun pc en h => ⟨mt_find (mt_i300 xs oA dA) (show mt_at mt_c300 pc = some en from h), mt_findD mt_d300 (show mt_at mt_c300 pc = some en from h)⟩⟩
end MTI30
